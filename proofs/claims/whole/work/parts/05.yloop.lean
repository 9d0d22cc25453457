theorem sg_nar1 : vp_nar .boolean 1 = 1 := rfl
theorem sg_nar0 : vp_nar .boolean 0 = 0 := rfl
theorem sg_YI_step {c : Nat → Nat} {H : Nat → Int32} {s : Nat} (Y : sg_YI c H) (hc : c s < 21) : sg_YI (sg_uN c s (c s + 1)) (upd H (21 * s + c s) (vp_nar .boolean 1)) := by
  intro t ht k hk
  by_cases e : 21 * t + k = 21 * s + c s
  · have e1 : t = s := by omega
    subst e1
    have e2 : k = c t := by omega
    subst e2
    rw [pk_us, sg_uN_s, if_pos (by omega), sg_nar1]
  · rw [pk_un e, Y t ht k hk]
    by_cases e1 : t = s
    · subst e1
      rw [sg_uN_s]
      by_cases l : k < c t
      · rw [if_pos l, if_pos (by omega)]
      · rw [if_neg l, if_neg (by omega)]
    · rw [sg_uN_n e1]
/-- the mark 'grown' of a sweep that stands before the cell (s, k) -/
def sg_G (K A B : Nat → Int32) (t0 : Nat) (c : Nat → Nat) (V : Nat → Int32) (g : Int32) (k s : Nat) : Prop := (g = 0 ∧ ∀ j, j < 6 → c j < 21 → (c j < k ∨ (c j = k ∧ j < s)) → ¬ sg_MM K A B c V j (c j)) ∨ (g = 1 ∧ t0 < sg_tot c)
theorem sg_y_12 {post : Int32 → SY → Prop} {J : Int32 → Int32 → Int32 → Int32 → (Nat → Int32) → (Nat → Int32) → (Nat → Int32) → (Nat → Int32) → (Nat → Int32) → Prop} {K A B : Nat → Int32} {k : Nat} (ok : sg_Ok K A B) (hk : k < 21) (t0 : Nat) (hJ : ∀ (g : Int32) (c : Nat → Nat) (pa pb : Int32) (H V : Nat → Int32), sg_Inv K A B c V → sg_YI c H → t0 ≤ sg_tot c → sg_G K A B t0 c V g (k + 1) 0 → J g (nI (k + 1)) pa pb K A B H V) : ∀ d s, s + d = 6 → ∀ (g : Int32) (c : Nat → Nat) (pa pb : Int32) (H V : Nat → Int32), sg_Inv K A B c V → sg_YI c H → t0 ≤ sg_tot c → sg_G K A B t0 c V g k s → wY_sweep_12 post J (nI k) (d + 1) g (nI s) pa pb K A B H V := by
  intro d
  induction d with
  | zero =>
    intro s hs g c pa pb H V I Y ht hg
    have e : s = 6 := by omega
    subst e
    refine br_t (nI_le (a := 6) (b := 6) (by omega) (by omega)) (nm_r (nI_1 k) (hJ g c pa pb H V I Y ht ?_))
    exact hg.elim (fun w => Or.inl ⟨w.1, fun j hj hc l => w.2 j hj hc (by omega)⟩) Or.inr
  | succ d ih =>
    intro s hs g c pa pb H V I Y ht hg
    have hs6 : s < 6 := by omega
    have hix : vp_in (nI (21 * s + k)) 126 := vp_in_nI (by omega) (by decide)
    have ec := nI_clamp (show 21 * s + k < 2 ^ 31 by omega)
    refine br_f (nI_ge (b := 6) hs6 (by omega)) ?_
    rw [sg_iy, ec, Y s hs6 k hk]
    refine ⟨hix, ?_⟩
    by_cases l : k < c s
    · rw [if_pos l]
      refine br_f (by decide) (nm_r (nI_1 s) (ih (s + 1) (by omega) g c pa pb H V I Y ht ?_))
      refine hg.elim (fun w => Or.inl ⟨w.1, fun j hj hc y => w.2 j hj hc ?_⟩) Or.inr
      by_cases e : j = s
      · subst e; omega
      · omega
    · rw [if_neg l]
      refine br_t rfl (sg_y_needs ok I.1 Y hs6 hk (fun le m pa pb => ?_) (fun no pa pb => ?_))
      · have e : k = c s := by omega
        subst e
        obtain ⟨hkd, eK, hA, hB⟩ := ok s hs6
        have t := sg_tot_up c s hs6
        refine br_f (by decide) (sg_y_worth (c := c) I.1 hs6 hk hkd eK hA hB m (fun pa pb => ?_))
        exact ⟨hix, nm_e ⟨hix, nm_e (nm_r (nI_1 s) (ih (s + 1) (by omega) 1 _ pa pb _ _ (sg_step ok I hs6 hk m) (sg_YI_step Y hk) (by omega) (Or.inr ⟨rfl, by omega⟩)))⟩⟩
      · refine br_t rfl (nm_r (nI_1 s) (ih (s + 1) (by omega) g c pa pb H V I Y ht ?_))
        refine hg.elim (fun w => Or.inl ⟨w.1, fun j hj hc y => ?_⟩) Or.inr
        by_cases e : j = s ∧ c j = k
        · obtain ⟨e1, e2⟩ := e
          subst e1
          rw [e2]
          exact no (by omega)
        · exact w.2 j hj hc (by omega)
theorem sg_y_4 {post : Int32 → SY → Prop} {K A B : Nat → Int32} (ok : sg_Ok K A B) (t0 : Nat) (hp : ∀ (g : Int32) (c : Nat → Nat) (pa pb : Int32) (H V : Nat → Int32), sg_Inv K A B c V → sg_YI c H → ((g = 0 ∧ sg_Sat K A B c V) ∨ (g = 1 ∧ t0 < sg_tot c)) → post g (pa, pb, K, A, B, H, V)) : ∀ d k, k + d = 21 → ∀ (g : Int32) (c : Nat → Nat) (pa pb : Int32) (H V : Nat → Int32), sg_Inv K A B c V → sg_YI c H → t0 ≤ sg_tot c → sg_G K A B t0 c V g k 0 → wY_sweep_4 post (d + 1) g (nI k) pa pb K A B H V := by
  intro d
  induction d with
  | zero =>
    intro k hk g c pa pb H V I Y ht hg
    have e : k = 21 := by omega
    subst e
    refine br_t (nI_lt (a := 20) (b := 21) (by omega) (by omega)) ⟨?_, hp g c pa pb H V I Y ?_⟩
    · rcases hg with ⟨rfl, _⟩ | ⟨rfl, _⟩ <;> rfl
    · exact hg.elim (fun w => Or.inl ⟨w.1, fun j hj hc => w.2 j hj hc (Or.inl hc)⟩) Or.inr
  | succ d ih =>
    intro k hk g c pa pb H V I Y ht hg
    exact br_f (nI_nlt (a := 20) (b := k) (by omega) (by omega)) ⟨7, sg_y_12 ok (by omega) t0 (fun g c pa pb H V I Y ht hg => ih (k + 1) (by omega) g c pa pb H V I Y ht hg) 6 0 rfl g c pa pb H V I Y ht hg⟩
theorem sg_y_sweep {post : Int32 → SY → Prop} {pa pb : Int32} {K A B H V : Nat → Int32} {c : Nat → Nat} (ok : sg_Ok K A B) (I : sg_Inv K A B c V) (Y : sg_YI c H) (hp : ∀ (g : Int32) (c' : Nat → Nat) (pa pb : Int32) (H V : Nat → Int32), sg_Inv K A B c' V → sg_YI c' H → ((g = 0 ∧ sg_Sat K A B c' V) ∨ (g = 1 ∧ sg_tot c < sg_tot c')) → post g (pa, pb, K, A, B, H, V)) : wpY_sweep post (pa, pb, K, A, B, H, V) := by
  unfold wpY_sweep
  exact ⟨22, sg_y_4 ok (sg_tot c) hp 21 0 rfl 0 c pa pb H V I Y (Nat.le_refl _) (Or.inl ⟨rfl, fun j hj hc y => absurd y (by omega)⟩)⟩
theorem sg_y_25 {post : SY → Prop} {K A B : Nat → Int32} (ok : sg_Ok K A B) (hp : ∀ (c : Nat → Nat) (pa pb : Int32) (H V : Nat → Int32), sg_Inv K A B c V → sg_YI c H → sg_Sat K A B c V → post (pa, pb, K, A, B, H, V)) : ∀ d r, r + d = 127 → ∀ (g : Int32) (c : Nat → Nat) (pa pb : Int32) (H V : Nat → Int32), sg_Inv K A B c V → sg_YI c H → ((g = 0 ∧ sg_Sat K A B c V) ∨ (g = 1 ∧ r ≤ sg_tot c)) → wY_fill_25 post (d + 1) g (nI r) pa pb K A B H V := by
  intro d
  induction d with
  | zero =>
    intro r hr g c pa pb H V I Y hg
    have e : r = 127 := by omega
    subst e
    refine br_t (nI_le (a := 127) (b := 127) (by omega) (by omega)) (hp c pa pb H V I Y ?_)
    have t := sg_tot_le I.1
    exact hg.elim (fun w => w.2) (fun w => absurd w.2 (by omega))
  | succ d ih =>
    intro r hr g c pa pb H V I Y hg
    refine br_f (nI_ge (b := 127) (a := r) (by omega) (by omega)) ?_
    rcases hg with ⟨rfl, sat⟩ | ⟨rfl, ht⟩
    · exact br_t rfl (hp c pa pb H V I Y sat)
    · refine br_f (by decide) (sg_y_sweep ok I Y (fun g c' pa pb H V I Y hg => nm_r (nI_1 r) (ih (r + 1) (by omega) g c' pa pb H V I Y ?_)))
      exact hg.elim Or.inl (fun w => Or.inr ⟨w.1, by omega⟩)
theorem sg_y_f2 {post : SY → Prop} {pa pb : Int32} {K A B H V : Nat → Int32} (ok : sg_Ok K A B) (hp : ∀ (c : Nat → Nat) (pa pb : Int32) (H V : Nat → Int32), sg_Inv K A B c V → sg_YI c H → sg_Sat K A B c V → post (pa, pb, K, A, B, H, V)) : ∀ d i, i + d = 126 → wY_fill_2 post pa pb (d + 1) (nI i) K A B (sg_z i H) V := by
  intro d
  induction d with
  | zero =>
    intro i hi
    have e : i = 126 := by omega
    subst e
    refine br_t (nI_le (a := 126) (b := 126) (by omega) (by omega)) ⟨128, ?_⟩
    refine sg_y_25 ok hp 127 0 rfl 1 (fun _ => 0) pa pb _ V (sg_Inv0 K A B V) (fun s hs k hk => ?_) (Or.inr ⟨rfl, Nat.zero_le _⟩)
    rw [sg_z_lt (by omega), if_neg (Nat.not_lt_zero _)]
  | succ d ih =>
    intro i hi
    have hi6 : i < 126 := by omega
    refine br_f (nI_ge (b := 126) hi6 (by omega)) ⟨vp_in_nI hi6 (by decide), nm_e (nm_r (nI_1 i) ?_)⟩
    rw [nI_clamp (show i < 2 ^ 31 by omega), sg_nar0, sg_z_up]
    exact ih (i + 1) (by omega)
/-- the reference's filling ends in the pair that is reached and closed -/
theorem sg_y_fill {post : SY → Prop} {pa pb : Int32} {K A B H V : Nat → Int32} (ok : sg_Ok K A B) (hp : ∀ (c : Nat → Nat) (pa pb : Int32) (H V : Nat → Int32), sg_Inv K A B c V → sg_YI c H → sg_Sat K A B c V → post (pa, pb, K, A, B, H, V)) : wpY_fill post (pa, pb, K, A, B, H, V) := by
  unfold wpY_fill
  have h := sg_y_f2 (pa := pa) (pb := pb) (H := H) (V := V) ok hp 126 0 rfl
  rw [sg_z_0] at h
  exact ⟨127, h⟩
