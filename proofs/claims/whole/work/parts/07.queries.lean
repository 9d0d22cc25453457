theorem sg_x_ready_t {post : Int32 → Prop} {K A B R V F S : Nat → Int32} {s k c : Nat} (hs : s < 6) (hk : k < 16) (eR : R s = nI c) (hc : c ≤ 21) (h1 : k < c → post 1) (h0 : ¬ k < c → post 0) : wpX_ready post (K, A, B, R, V, F, S) (nI s) (nI k) := by
  unfold wpX_ready
  dsimp only
  exact br_f (nI_ge (b := 16) hk (by omega)) (sg_x_found hs (by omega) eR hc (fun z => br_f (by decide) (h1 z)) (fun z => br_t rfl (h0 z)))
theorem sg_x_ready_f {post : Int32 → Prop} {K A B R V F S : Nat → Int32} {p0 p1 : Int32} (no : ¬ ((∃ s, s < 6 ∧ p0 = nI s) ∧ ∃ k, k < 16 ∧ p1 = nI k)) (h : post 0) : wpX_ready post (K, A, B, R, V, F, S) p0 p1 := by
  unfold wpX_ready
  dsimp only
  refine br_c (fun _ => h) (fun z16 => ?_)
  unfold wpX_isFound
  dsimp only
  by_cases hs : ∃ s, s < 6 ∧ p0 = nI s
  · obtain ⟨s, hs6, rfl⟩ := hs
    refine sg_x_seq_t hs6 (br_f (by decide) ?_)
    rcases pk_ix p1 (n := 16) (by decide) with z | z | z
    · exact br_t z (br_t rfl h)
    · exact absurd z z16
    · exact absurd ⟨⟨s, hs6, rfl⟩, z⟩ no
  · exact sg_x_seq_f hs (br_t rfl (br_t rfl h))
theorem sg_y_asked_t {post : Int32 → Prop} {pa pb : Int32} {K A B H W : Nat → Int32} {s k : Nat} (hs : s < 6) (hk : k < 16) (h : post 1) : wpY_asked post (pa, pb, K, A, B, H, W) (nI s) (nI k) := by
  unfold wpY_asked
  dsimp only
  exact sg_y_seq_t hs (br_f (by decide) (br_f (nI_pos (by omega)) (br_f (nI_nlt (a := 15) (b := k) (by omega) (by omega)) h)))
theorem sg_y_asked_f {post : Int32 → Prop} {pa pb : Int32} {K A B H W : Nat → Int32} {p0 p1 : Int32} (no : ¬ ((∃ s, s < 6 ∧ p0 = nI s) ∧ ∃ k, k < 16 ∧ p1 = nI k)) (h : post 0) : wpY_asked post (pa, pb, K, A, B, H, W) p0 p1 := by
  unfold wpY_asked
  dsimp only
  by_cases hs : ∃ s, s < 6 ∧ p0 = nI s
  · obtain ⟨s, hs6, rfl⟩ := hs
    refine sg_y_seq_t hs6 (br_f (by decide) (br_c (fun _ => h) (fun z0 => br_c (fun _ => h) (fun z15 => ?_))))
    obtain ⟨j, hj, rfl⟩ := nI_of z0
    by_cases l : j < 16
    · exact absurd ⟨⟨s, hs6, rfl⟩, j, l, rfl⟩ no
    · exact absurd (nI_lt (a := 15) (b := j) (by omega) hj) z15
  · exact sg_y_seq_f hs (br_t rfl h)
def sg_mn (c k : Nat) : Nat := if c < k then c else k
theorem sg_y_known {post : Int32 → SY → Prop} {pa pb : Int32} {K A B H W : Nat → Int32} {c : Nat → Nat} {s : Nat} (h21 : ∀ s, s < 6 → c s ≤ 21) (Y : sg_YI c H) (hs : s < 6) (hp : post (nI (sg_mn (c s) 16)) (pa, pb, K, A, B, H, W)) : ∀ d k, k + d = 16 → wY_known_18 post (nI s) pa pb K A B H W (d + 1) (nI (sg_mn (c s) k)) (nI k) := by
  intro d
  induction d with
  | zero =>
    intro k hk
    have e : k = 16 := by omega
    subst e
    exact br_t (nI_lt (a := 15) (b := 16) (by omega) (by omega)) hp
  | succ d ih =>
    intro k hk
    refine br_f (nI_nlt (a := 15) (b := k) (by omega) (by omega)) (sg_y_has h21 Y hs (by omega) (fun l => br_f (by decide) (nm_r (e' := nI (sg_mn (c s) (k + 1))) ?_ (nm_r (nI_1 k) (ih (k + 1) (by omega))))) (fun l => br_t rfl (nm_r (nI_1 k) ?_)))
    · rw [nI_1]
      unfold sg_mn
      rw [if_neg (by omega), if_neg (by omega)]
    · have i := ih (k + 1) (by omega)
      rw [show sg_mn (c s) (k + 1) = sg_mn (c s) k by unfold sg_mn; split <;> split <;> omega] at i
      exact i
theorem sg_fa {K A B R V F S : Nat → Int32} {c : Nat → Nat} {s : Nat} (x : Int32) (h21 : ∀ s, s < 6 → c s ≤ 21) (hR : ∀ s, s < 6 → R s = nI (c s)) (hs : s < 6) : ∀ d k, k + d = 16 → ∃ r : Int32, (∀ post : Int32 → Prop, post r → wX_firstAbove_11 post (nI s) x K A B R V F S (d + 1) (nI k)) ∧ (∀ (pa pb : Int32) (H W : Nat → Int32), sg_YI c H → (∀ s, s < 6 → ∀ k, k < c s → W (21 * s + k) = V (21 * s + k)) → ∀ post : Int32 → SY → Prop, post r (pa, pb, K, A, B, H, W) → wY_firstAbove_16 post (nI s) x pa pb K A B H W (d + 1) (nI k)) := by
  intro d
  induction d with
  | zero =>
    intro k hk
    have e : k = 16 := by omega
    subst e
    exact ⟨-2, fun _ hp => br_t (nI_le (a := 16) (b := 16) (by omega) (by omega)) hp, fun _ _ _ _ _ _ _ hp => br_t (nI_lt (a := 15) (b := 16) (by omega) (by omega)) hp⟩
  | succ d ih =>
    intro k hk
    obtain ⟨r, hX, hY⟩ := ih (k + 1) (by omega)
    have x16 : ¬ (16 : Int32) ≤ nI k := nI_ge (b := 16) (a := k) (by omega) (by omega)
    have y15 : ¬ (15 : Int32) < nI k := nI_nlt (a := 15) (b := k) (by omega) (by omega)
    by_cases l : k < c s
    · by_cases z : V (21 * s + k) ≤ x
      · refine ⟨r, fun post hp => br_f x16 (sg_x_found hs (by omega) (hR s hs) (h21 s hs) (fun _ => br_f (by decide) (sg_x_val hs (by omega) (br_t z (nm_r (nI_1 k) (hX post hp))))) (fun w => absurd l w)), fun pa pb H W Y hW post hp => br_f y15 (sg_y_has h21 Y hs (by omega) (fun _ => br_f (by decide) (sg_y_at hs (by omega) ?_)) (fun w => absurd l w))⟩
        rw [hW s hs k l]
        exact br_t z (nm_r (nI_1 k) (hY pa pb H W Y hW post hp))
      · refine ⟨nI k, fun post hp => br_f x16 (sg_x_found hs (by omega) (hR s hs) (h21 s hs) (fun _ => br_f (by decide) (sg_x_val hs (by omega) (br_f z hp))) (fun w => absurd l w)), fun pa pb H W Y hW post hp => br_f y15 (sg_y_has h21 Y hs (by omega) (fun _ => br_f (by decide) (sg_y_at hs (by omega) ?_)) (fun w => absurd l w))⟩
        rw [hW s hs k l]
        exact br_f z hp
    · exact ⟨r, fun post hp => br_f x16 (sg_x_found hs (by omega) (hR s hs) (h21 s hs) (fun w => absurd w l) (fun _ => br_t rfl (nm_r (nI_1 k) (hX post hp)))), fun pa pb H W Y hW post hp => br_f y15 (sg_y_has h21 Y hs (by omega) (fun w => absurd w l) (fun _ => br_t rfl (nm_r (nI_1 k) (hY pa pb H W Y hW post hp))))⟩
theorem sg_ag {K A B R V F S : Nat → Int32} {c : Nat → Nat} {s t : Nat} (h21 : ∀ s, s < 6 → c s ≤ 21) (hR : ∀ s, s < 6 → R s = nI (c s)) (hs : s < 6) (ht : t < 6) : ∀ d k, k + d = 16 → ∀ q : Int32, ∃ r : Int32, (∀ post : Int32 → Prop, post r → wX_agree_21 post (nI s) (nI t) K A B R V F S (d + 1) q (nI k)) ∧ (∀ (pa pb : Int32) (H W : Nat → Int32), sg_YI c H → (∀ s, s < 6 → ∀ k, k < c s → W (21 * s + k) = V (21 * s + k)) → ∀ post : Int32 → SY → Prop, post r (pa, pb, K, A, B, H, W) → wY_agree_27 post (nI s) (nI t) pa pb K A B H W (d + 1) q (nI k)) := by
  intro d
  induction d with
  | zero =>
    intro k hk q
    have e : k = 16 := by omega
    subst e
    exact ⟨q, fun _ hp => br_t (nI_le (a := 16) (b := 16) (by omega) (by omega)) hp, fun _ _ _ _ _ _ _ hp => br_t (nI_lt (a := 15) (b := 16) (by omega) (by omega)) hp⟩
  | succ d ih =>
    intro k hk q
    have x16 : ¬ (16 : Int32) ≤ nI k := nI_ge (b := 16) (a := k) (by omega) (by omega)
    have y15 : ¬ (15 : Int32) < nI k := nI_nlt (a := 15) (b := k) (by omega) (by omega)
    by_cases l : k < c s
    · by_cases l2 : k < c t
      · by_cases z : V (21 * s + k) = V (21 * t + k)
        · obtain ⟨r, hX, hY⟩ := ih (k + 1) (by omega) (q + 1)
          refine ⟨r, fun post hp => br_f x16 (sg_x_found hs (by omega) (hR s hs) (h21 s hs) (fun _ => br_f (by decide) (sg_x_found ht (by omega) (hR t ht) (h21 t ht) (fun _ => br_f (by decide) (sg_x_val hs (by omega) (sg_x_val ht (by omega) (br_t z (nm_e (nm_r (nI_1 k) (hX post hp))))))) (fun w => absurd l2 w))) (fun w => absurd l w)), fun pa pb H W Y hW post hp => br_f y15 (sg_y_has h21 Y hs (by omega) (fun _ => br_f (by decide) (sg_y_has h21 Y ht (by omega) (fun _ => br_f (by decide) (sg_y_at hs (by omega) (sg_y_at ht (by omega) ?_))) (fun w => absurd l2 w))) (fun w => absurd l w))⟩
          rw [hW s hs k l, hW t ht k l2]
          exact br_t z (nm_e (nm_r (nI_1 k) (hY pa pb H W Y hW post hp)))
        · obtain ⟨r, hX, hY⟩ := ih (k + 1) (by omega) q
          refine ⟨r, fun post hp => br_f x16 (sg_x_found hs (by omega) (hR s hs) (h21 s hs) (fun _ => br_f (by decide) (sg_x_found ht (by omega) (hR t ht) (h21 t ht) (fun _ => br_f (by decide) (sg_x_val hs (by omega) (sg_x_val ht (by omega) (br_f z (nm_r (nI_1 k) (hX post hp)))))) (fun w => absurd l2 w))) (fun w => absurd l w)), fun pa pb H W Y hW post hp => br_f y15 (sg_y_has h21 Y hs (by omega) (fun _ => br_f (by decide) (sg_y_has h21 Y ht (by omega) (fun _ => br_f (by decide) (sg_y_at hs (by omega) (sg_y_at ht (by omega) ?_))) (fun w => absurd l2 w))) (fun w => absurd l w))⟩
          rw [hW s hs k l, hW t ht k l2]
          exact br_f z (nm_r (nI_1 k) (hY pa pb H W Y hW post hp))
      · obtain ⟨r, hX, hY⟩ := ih (k + 1) (by omega) q
        exact ⟨r, fun post hp => br_f x16 (sg_x_found hs (by omega) (hR s hs) (h21 s hs) (fun _ => br_f (by decide) (sg_x_found ht (by omega) (hR t ht) (h21 t ht) (fun w => absurd w l2) (fun _ => br_t rfl (nm_r (nI_1 k) (hX post hp))))) (fun w => absurd l w)), fun pa pb H W Y hW post hp => br_f y15 (sg_y_has h21 Y hs (by omega) (fun _ => br_f (by decide) (sg_y_has h21 Y ht (by omega) (fun w => absurd w l2) (fun _ => br_t rfl (nm_r (nI_1 k) (hY pa pb H W Y hW post hp))))) (fun w => absurd l w))⟩
    · obtain ⟨r, hX, hY⟩ := ih (k + 1) (by omega) q
      exact ⟨r, fun post hp => br_f x16 (sg_x_found hs (by omega) (hR s hs) (h21 s hs) (fun w => absurd w l) (fun _ => br_t rfl (nm_r (nI_1 k) (hX post hp)))), fun pa pb H W Y hW post hp => br_f y15 (sg_y_has h21 Y hs (by omega) (fun w => absurd w l) (fun _ => br_t rfl (nm_r (nI_1 k) (hY pa pb H W Y hW post hp))))⟩
theorem sg_dv_0 {s : Nat} (hs : s < 6) : sg_dv (nI s) 0 0 0 := ⟨⟨s, hs, rfl⟩, 0, by omega, rfl, fun h => absurd h (by decide), fun h => absurd h (by decide)⟩
theorem sg_y_zero {post : SY → Prop} {pa pb : Int32} {K A B H W : Nat → Int32} (hp : post (pa, pb, sg_z 6 K, sg_z 6 A, sg_z 6 B, H, W)) : ∀ d s, s + d = 6 → wY_reset_2 post (d + 1) (nI s) pa pb (sg_z s K) (sg_z s A) (sg_z s B) H W := by
  intro d
  induction d with
  | zero =>
    intro s hs
    have e : s = 6 := by omega
    subst e
    exact br_t (nI_le (a := 6) (b := 6) (by omega) (by omega)) hp
  | succ d ih =>
    intro s hs
    have hs6 : s < 6 := by omega
    refine br_f (nI_ge (b := 6) hs6 (by omega)) (sg_y_def (fun _ => sg_y_55 hs6 (nm_r (nI_1 s) ?_)) (fun no => absurd (sg_dv_0 hs6) no))
    rw [sg_z_up, sg_z_up, sg_z_up]
    exact ih (s + 1) (by omega)
theorem sg_y_reset {post : SY → Prop} {pa pb : Int32} {K A B H W : Nat → Int32} (hp : post (pa, pb, sg_z 6 K, sg_z 6 A, sg_z 6 B, H, W)) : wpY_reset post (pa, pb, K, A, B, H, W) := by
  unfold wpY_reset
  have h := sg_y_zero hp 6 0 rfl
  rw [sg_z_0, sg_z_0, sg_z_0] at h
  exact ⟨7, h⟩
