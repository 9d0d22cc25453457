theorem sg_x_53 {post : SX → Prop} {J : Int32 → Int32 → (Nat → Int32) → (Nat → Int32) → (Nat → Int32) → (Nat → Int32) → (Nat → Int32) → (Nat → Int32) → (Nat → Int32) → Prop} {x2 : Int32} {K A B : Nat → Int32} (ok : sg_Ok K A B) (t0 : Nat) (hJ : ∀ (g : Int32) (c : Nat → Nat) (V R F S : Nat → Int32), sg_Inv K A B c V → sg_XI K A B c V R F S → ((g = 0 ∧ sg_Sat K A B c V) ∨ (g = 1 ∧ t0 < sg_tot c)) → J g (x2 + 1) K A B R V F S) : ∀ d s, s + d = 6 → ∀ (g : Int32) (c : Nat → Nat) (V R F S : Nat → Int32), sg_Inv K A B c V → sg_XI K A B c V R F S → t0 ≤ sg_tot c → ((g = 0 ∧ ∀ j, j < s → c j < 21 → ¬ sg_MM K A B c V j (c j)) ∨ (g = 1 ∧ t0 < sg_tot c)) → wX_evaluate_53 post J x2 (d + 1) g (nI s) K A B R V F S := by
  intro d
  induction d with
  | zero =>
    intro s hs g c V R F S I X ht hg
    have e : s = 6 := by omega
    subst e
    exact br_t (nI_le (a := 6) (b := 6) (by omega) (by omega)) (nm_e (hJ g c V R F S I X hg))
  | succ d ih =>
    intro s hs g c V R F S I X ht hg
    have hs6 : s < 6 := by omega
    refine br_f (nI_ge (b := 6) hs6 (by omega)) ?_
    refine sg_x_extend ok I X hs6 (fun no => ?_) (fun R' V' F' S' I2 X2 => ?_)
    · refine br_t rfl (nm_r (nI_1 s) (ih (s + 1) (by omega) g c V R F S I X ht ?_))
      refine hg.elim (fun w => Or.inl ⟨w.1, fun j hj => ?_⟩) Or.inr
      by_cases e : j = s
      · subst e; exact no
      · exact w.2 j (by omega)
    · have t := sg_tot_up c s hs6
      exact br_f (by decide) (nm_r (nI_1 s) (ih (s + 1) (by omega) 1 _ V' R' F' S' I2 X2 (by omega) (Or.inr ⟨rfl, by omega⟩)))
theorem sg_x_39 {post : SX → Prop} {K A B : Nat → Int32} (ok : sg_Ok K A B) (hp : ∀ (c : Nat → Nat) (V R F S : Nat → Int32), sg_Inv K A B c V → sg_XI K A B c V R F S → sg_Sat K A B c V → post (K, A, B, R, V, F, S)) : ∀ d r, r + d = 127 → ∀ (g : Int32) (c : Nat → Nat) (V R F S : Nat → Int32), sg_Inv K A B c V → sg_XI K A B c V R F S → ((g = 0 ∧ sg_Sat K A B c V) ∨ (g = 1 ∧ r ≤ sg_tot c)) → wX_evaluate_39 post (d + 1) g (nI r) K A B R V F S := by
  intro d
  induction d with
  | zero =>
    intro r hr g c V R F S I X hg
    have e : r = 127 := by omega
    subst e
    refine br_t (nI_lt (a := 126) (b := 127) (by omega) (by omega)) (hp c V R F S I X ?_)
    have t := sg_tot_le I.1
    exact hg.elim (fun w => w.2) (fun w => absurd w.2 (by omega))
  | succ d ih =>
    intro r hr g c V R F S I X hg
    refine br_f (nI_nlt (b := r) (a := 126) (by omega) (by omega)) ?_
    rcases hg with ⟨rfl, sat⟩ | ⟨rfl, ht⟩
    · exact br_t rfl (hp c V R F S I X sat)
    · refine br_f (by decide) ⟨7, ?_⟩
      refine sg_x_53 ok r (fun g c V R F S I X hg => ?_) 6 0 rfl 0 c V R F S I X ht (Or.inl ⟨rfl, fun j hj => absurd hj (Nat.not_lt_zero _)⟩)
      rw [nI_1]
      exact ih (r + 1) (by omega) g c V R F S I X hg
theorem sg_x_2 {post : SX → Prop} {K A B V : Nat → Int32} (ok : sg_Ok K A B) (hp : ∀ (c : Nat → Nat) (V R F S : Nat → Int32), sg_Inv K A B c V → sg_XI K A B c V R F S → sg_Sat K A B c V → post (K, A, B, R, V, F, S)) : ∀ d s, s + d = 6 → ∀ R F S : Nat → Int32, (∀ j, j < s → R j = 0 ∧ F j = 0 ∧ S j = 0) → wX_evaluate_2 post (d + 1) (nI s) K A B R V F S := by
  intro d
  induction d with
  | zero =>
    intro s hs R F S h
    have e : s = 6 := by omega
    subst e
    refine br_t (nI_le (a := 6) (b := 6) (by omega) (by omega)) ⟨128, ?_⟩
    refine sg_x_39 ok hp 127 0 rfl 1 (fun _ => 0) V R F S (sg_Inv0 K A B V) ⟨fun j hj => (h j hj).1, fun j hj _ => ⟨(h j hj).2.1, (h j hj).2.2⟩⟩ (Or.inr ⟨rfl, Nat.zero_le _⟩)
  | succ d ih =>
    intro s hs R F S h
    have hs6 : s < 6 := by omega
    have hin : vp_in (nI s) 6 := vp_in_nI hs6 (by decide)
    refine br_f (nI_ge (b := 6) hs6 (by omega)) ⟨hin, nm_e ⟨hin, nm_e ⟨hin, nm_e (nm_r (nI_1 s) (ih (s + 1) (by omega) _ _ _ ?_))⟩⟩⟩
    rw [nI_clamp (show s < 2 ^ 31 by omega)]
    intro j hj
    by_cases e : j = s
    · subst e; exact ⟨pk_us, pk_us, pk_us⟩
    · rw [pk_un e, pk_un e, pk_un e]; exact h j (by omega)
/-- the class's evaluation: from any state with sound definitions it ends in the pair that is reached and closed -/
theorem sg_x_eval {post : SX → Prop} {K A B R V F S : Nat → Int32} (ok : sg_Ok K A B) (hp : ∀ (c : Nat → Nat) (V R F S : Nat → Int32), sg_Inv K A B c V → sg_Sat K A B c V → (∀ s, s < 6 → R s = nI (c s)) → post (K, A, B, R, V, F, S)) : wpX_evaluate post (K, A, B, R, V, F, S) := by
  unfold wpX_evaluate
  exact ⟨7, sg_x_2 ok (fun c V R F S I X sat => hp c V R F S I sat X.1) 6 0 rfl R F S (fun j hj => absurd hj (Nat.not_lt_zero _))⟩
/-- the first n cells of f are 0 -/
def sg_z (n : Nat) (f : Nat → Int32) : Nat → Int32 := fun j => if j < n then 0 else f j
theorem sg_z_0 (f : Nat → Int32) : sg_z 0 f = f := by
  funext j; exact if_neg (Nat.not_lt_zero _)
theorem sg_z_up (n : Nat) (f : Nat → Int32) : upd (sg_z n f) n 0 = sg_z (n + 1) f := by
  funext j
  unfold upd sg_z
  by_cases e : j = n
  · rw [if_pos e, if_pos (by omega)]
  · rw [if_neg e]
    by_cases l : j < n
    · rw [if_pos l, if_pos (by omega)]
    · rw [if_neg l, if_neg (by omega)]
theorem sg_z_lt {n j : Nat} {f : Nat → Int32} (h : j < n) : sg_z n f j = 0 := if_pos h
theorem sg_z_6 : sg_z 6 (fun _ => 0) = fun _ => 0 := by
  funext j; unfold sg_z; split <;> rfl
theorem sg_z_ok (K A B : Nat → Int32) : sg_Ok (sg_z 6 K) (sg_z 6 A) (sg_z 6 B) := by
  intro s hs
  rw [sg_z_lt hs, sg_z_lt hs, sg_z_lt hs]
  refine ⟨by decide, by decide, fun h => absurd h (by decide), fun h => absurd h (by decide)⟩
theorem sg_x_zero {post : SX → Prop} {K A B R V F S : Nat → Int32} (hp : post (sg_z 6 K, sg_z 6 A, sg_z 6 B, R, V, F, S)) : ∀ d s, s + d = 6 → wX_defineAllAsZeros_2 post (d + 1) (nI s) (sg_z s K) (sg_z s A) (sg_z s B) R V F S := by
  intro d
  induction d with
  | zero =>
    intro s hs
    have e : s = 6 := by omega
    subst e
    exact br_t (nI_le (a := 6) (b := 6) (by omega) (by omega)) hp
  | succ d ih =>
    intro s hs
    have hs6 : s < 6 := by omega
    have hin : vp_in (nI s) 6 := vp_in_nI hs6 (by decide)
    have ec := nI_clamp (show s < 2 ^ 31 by omega)
    refine br_f (nI_ge (b := 6) hs6 (by omega)) ⟨hin, nm_e ⟨hin, nm_e ⟨hin, nm_e (nm_r (nI_1 s) ?_)⟩⟩⟩
    rw [ec, sg_z_up, sg_z_up, sg_z_up]
    exact ih (s + 1) (by omega)
theorem sg_x_zeros {post : SX → Prop} {K A B R V F S : Nat → Int32} (hp : post (sg_z 6 K, sg_z 6 A, sg_z 6 B, R, V, F, S)) : wpX_defineAllAsZeros post (K, A, B, R, V, F, S) := by
  unfold wpX_defineAllAsZeros
  have h := sg_x_zero hp 6 0 rfl
  rw [sg_z_0, sg_z_0, sg_z_0] at h
  exact ⟨7, h⟩
