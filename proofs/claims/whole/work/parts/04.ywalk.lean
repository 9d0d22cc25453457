/-- what the reference's marks say of the counts -/
def sg_YI (c : Nat → Nat) (H : Nat → Int32) : Prop := ∀ s, s < 6 → ∀ k, k < 21 → H (21 * s + k) = if k < c s then 1 else 0
theorem sg_y_has {post : Int32 → Prop} {pa pb : Int32} {K A B H V : Nat → Int32} {c : Nat → Nat} {s k : Nat} (h21 : ∀ s, s < 6 → c s ≤ 21) (Y : sg_YI c H) (hs : s < 6) (hk : k < 2 ^ 31) (h1 : k < c s → post 1) (h0 : ¬ k < c s → post 0) : wpY_hasAt post (pa, pb, K, A, B, H, V) (nI s) (nI k) := by
  have c21 := h21 s hs
  unfold wpY_hasAt
  dsimp only
  refine br_f (nI_pos hk) (pk_lt 20 k (fun z => h0 (by omega)) (fun z => ?_))
  rw [sg_iy, nI_clamp (show 21 * s + k < 2 ^ 31 by omega), Y s hs k (by omega)]
  refine ⟨vp_in_nI (by omega) (by decide), ?_⟩
  by_cases l : k < c s
  · rw [if_pos l]; exact br_f (by decide) (h1 l)
  · rw [if_neg l]; exact br_t rfl (h0 l)
theorem sg_y_at {post : Int32 → Prop} {pa pb : Int32} {K A B H V : Nat → Int32} {s k : Nat} (hs : s < 6) (hk : k < 21) (h : post (V (21 * s + k))) : wpY_at post (pa, pb, K, A, B, H, V) (nI s) (nI k) := by
  unfold wpY_at
  dsimp only
  rw [sg_iy, nI_clamp (show 21 * s + k < 2 ^ 31 by omega)]
  exact ⟨vp_in_nI (by omega) (by decide), h⟩
theorem sg_y_66 {post : SY → Prop} {J : Int32 → Int32 → Int32 → Prop} {x1 x2 x y pa : Int32} {K A B H V : Nat → Int32} {t j : Nat} (h : J (nI (t + 1)) pa (nI (sg_st y x j))) : wY_walk_66 post J x1 x2 (nI t) x y pa (nI j) K A B H V := by
  unfold wY_walk_66
  refine br_c (fun w => nm_r (nI_1 t) ?_) (fun w => nm_r (sg_st_f w) (nm_r (nI_1 t) h))
  rw [sg_st_t (i := j) w]
  exact h
theorem sg_y_w12 {post : SY → Prop} {K A B H V : Nat → Int32} {s a b k : Nat} (hs : s < 6) (ha : a < 6) (hb : b < 6) (hk : k < 21) (eA : A s = nI a) (eB : B s = nI b) (hp : post (nI (sg_pl a b V k).1, nI (sg_pl a b V k).2, K, A, B, H, V)) : ∀ d t, t + d = k → wY_walk_12 post (nI s) (nI k) K A B H V (d + 1) (nI t) (nI (sg_pl a b V t).1) (nI (sg_pl a b V t).2) := by
  intro d
  induction d with
  | zero =>
    intro t ht
    have e : t = k := by omega
    subst e
    exact br_t (nI_le (a := t) (b := t) (by omega) (by omega)) hp
  | succ d ih =>
    intro t ht
    have hin : vp_in (nI s) 6 := vp_in_nI hs (by decide)
    have ec := nI_clamp (show s < 2 ^ 31 by omega)
    have q := sg_pl_le a b V t
    refine br_f (nI_ge (b := k) (a := t) (by omega) (by omega)) ⟨hin, ?_⟩
    rw [ec, eA, eB]
    refine sg_y_at ha (by omega) ⟨hin, sg_y_at hb (by omega) (br_c (fun z => ?_) (fun z => nm_r (sg_st_f z) ?_))⟩
    · refine sg_y_66 ?_
      have i := ih (t + 1) (by omega)
      rw [show nI (sg_pl a b V (t + 1)).1 = nI (sg_pl a b V t).1 from (sg_st_t z).symm] at i
      exact i
    · exact sg_y_66 (ih (t + 1) (by omega))
theorem sg_y_walk {post : SY → Prop} {pa pb : Int32} {K A B H V : Nat → Int32} {s a b k : Nat} (hs : s < 6) (ha : a < 6) (hb : b < 6) (hk : k < 21) (eA : A s = nI a) (eB : B s = nI b) (hp : post (nI (sg_pl a b V k).1, nI (sg_pl a b V k).2, K, A, B, H, V)) : wpY_walk post (pa, pb, K, A, B, H, V) (nI s) (nI k) := by
  unfold wpY_walk
  exact ⟨k + 1, sg_y_w12 hs ha hb hk eA eB hp k 0 (by omega)⟩
theorem sg_y_108 {post : Int32 → SY → Prop} {pa pb : Int32} {K A B H V : Nat → Int32} {c : Nat → Nat} {s k a b : Nat} (h21 : ∀ s, s < 6 → c s ≤ 21) (Y : sg_YI c H) (hs : s < 6) (hk : k < 21) (ha : a < 6) (hb : b < 6) (eA : A s = nI a) (eB : B s = nI b) (h1 : k < c a ∧ k < c b → post 1 (pa, pb, K, A, B, H, V)) (h0 : ¬ (k < c a ∧ k < c b) → post 0 (pa, pb, K, A, B, H, V)) : wY_needsMet_108 post (nI s) (nI k) pa pb K A B H V := by
  unfold wY_needsMet_108
  have hin : vp_in (nI s) 6 := vp_in_nI hs (by decide)
  rw [nI_clamp (show s < 2 ^ 31 by omega), eA, eB]
  exact ⟨hin, sg_y_has h21 Y ha (by omega) (fun z1 => br_f (by decide) ⟨hin, sg_y_has h21 Y hb (by omega) (fun z2 => br_f (by decide) (h1 ⟨z1, z2⟩)) (fun z2 => br_t rfl (h0 fun m => z2 m.2))⟩) (fun z1 => br_t rfl (h0 fun m => z1 m.1))⟩
theorem sg_y_17 {post : Int32 → SY → Prop} {pa pb : Int32} {K A B H V : Nat → Int32} {c : Nat → Nat} {s k kd a b : Nat} (h21 : ∀ s, s < 6 → c s ≤ 21) (Y : sg_YI c H) (hs : s < 6) (hk : k < 21) (hkd : kd ≤ 8) (eK : K s = nI kd) (hA : sg_na kd = true → a < 6 ∧ A s = nI a) (hB : sg_nb kd = true → b < 6 ∧ B s = nI b) (h1 : sg_M kd a b c V k → ∀ pa pb, post 1 (pa, pb, K, A, B, H, V)) (h0 : ¬ sg_M kd a b c V k → ∀ pa pb, post 0 (pa, pb, K, A, B, H, V)) : wY_needsMet_17 post (nI s) (nI k) pa pb K A B H V := by
  unfold wY_needsMet_17
  have hin : vp_in (nI s) 6 := vp_in_nI hs (by decide)
  have ec := nI_clamp (show s < 2 ^ 31 by omega)
  rw [ec, eK]
  refine ⟨hin, pk_eq kd 0 (fun z => ?_) (fun n0 => ⟨hin, ?_⟩)⟩
  · subst z; exact h1 trivial _ _
  refine pk_eq kd 1 (fun z => ?_) (fun n1 => ⟨hin, ?_⟩)
  · subst z
    obtain ⟨hb, eB⟩ := hB rfl
    rw [eB]
    refine pk_eq k 0 (fun z => h1 (Or.inl z) _ _) (fun z => ⟨hin, ?_⟩)
    rw [show nI k - 1 = nI (k - 1) from pk_sub (b := 1) (by omega)]
    exact sg_y_has h21 Y hb (by omega) (fun z1 => br_f (by decide) (h1 (Or.inr z1) _ _)) (fun z1 => br_t rfl (h0 (fun (m : _ ∨ _) => m.elim z z1) _ _))
  refine pk_eq kd 2 (fun z => ⟨hin, ?_⟩) (fun n2 => ⟨hin, ?_⟩)
  · subst z
    obtain ⟨ha, eA⟩ := hA rfl
    rw [eA, nI_1]
    exact sg_y_has h21 Y ha (by omega) (fun z1 => ⟨rfl, h1 z1 _ _⟩) (fun z1 => ⟨rfl, h0 z1 _ _⟩)
  refine pk_eq kd 3 (fun z => ?_) (fun n3 => ⟨hin, ?_⟩)
  · subst z
    obtain ⟨ha, eA⟩ := hA rfl
    obtain ⟨hb, eB⟩ := hB rfl
    exact sg_y_108 h21 Y hs hk ha hb eA eB (fun m => h1 m _ _) (fun m => h0 m _ _)
  refine pk_eq kd 4 (fun z => ?_) (fun n4 => ⟨hin, ?_⟩)
  · subst z
    obtain ⟨ha, eA⟩ := hA rfl
    obtain ⟨hb, eB⟩ := hB rfl
    exact sg_y_108 h21 Y hs hk ha hb eA eB (fun m => h1 m _ _) (fun m => h0 m _ _)
  refine pk_eq kd 5 (fun z => ⟨hin, ?_⟩) (fun n5 => ⟨hin, ?_⟩)
  · subst z
    obtain ⟨hb, eB⟩ := hB rfl
    rw [eB]
    exact sg_y_has h21 Y hb (by omega) (fun z1 => ⟨rfl, h1 z1 _ _⟩) (fun z1 => ⟨rfl, h0 z1 _ _⟩)
  refine pk_eq kd 6 (fun z => ⟨hin, ?_⟩) (fun n6 => ⟨hin, ?_⟩)
  · subst z
    obtain ⟨ha, eA⟩ := hA rfl
    rw [eA]
    exact sg_y_has h21 Y ha (by omega) (fun z1 => ⟨rfl, h1 z1 _ _⟩) (fun z1 => ⟨rfl, h0 z1 _ _⟩)
  refine pk_eq kd 7 (fun z => ?_) (fun n7 => ?_)
  · subst z
    obtain ⟨ha, eA⟩ := hA rfl
    obtain ⟨hb, eB⟩ := hB rfl
    rw [eA, eB, show nI k - nI k / 2 * 2 = nI (k % 2) from pk_rem (d := 2) (by omega) (by omega) (by omega), show nI k / 2 = nI (k / 2) from pk_div (d := 2) (by omega) (by omega) (by omega)]
    refine ⟨by decide, pk_eq (k % 2) 0 (fun z => ⟨hin, by decide, ?_⟩) (fun z => ⟨hin, by decide, ?_⟩)⟩
    · exact sg_y_has h21 Y ha (by omega) (fun z1 => ⟨rfl, h1 ⟨fun _ => z1, fun y => absurd z y⟩ _ _⟩) (fun z1 => ⟨rfl, h0 (fun (m : _ ∧ _) => z1 (m.1 z)) _ _⟩)
    · exact sg_y_has h21 Y hb (by omega) (fun z1 => ⟨rfl, h1 ⟨fun y => absurd y z, fun _ => z1⟩ _ _⟩) (fun z1 => ⟨rfl, h0 (fun (m : _ ∧ _) => z1 (m.2 z)) _ _⟩)
  · have e : kd = 8 := by omega
    subst e
    obtain ⟨ha, eA⟩ := hA rfl
    obtain ⟨hb, eB⟩ := hB rfl
    have q := sg_pl_le a b V k
    refine sg_y_walk hs ha hb hk eA eB ?_
    dsimp only
    rw [eA, eB]
    exact ⟨hin, sg_y_has h21 Y ha (by omega) (fun z1 => br_f (by decide) ⟨hin, sg_y_has h21 Y hb (by omega) (fun z2 => br_f (by decide) (h1 ⟨z1, z2⟩ _ _)) (fun z2 => br_t rfl (h0 (fun (m : _ ∧ _) => z2 m.2) _ _))⟩) (fun z1 => br_t rfl (h0 (fun (m : _ ∧ _) => z1 m.1) _ _))⟩
theorem sg_y_needs {post : Int32 → SY → Prop} {pa pb : Int32} {K A B H V : Nat → Int32} {c : Nat → Nat} {s k : Nat} (ok : sg_Ok K A B) (h21 : ∀ s, s < 6 → c s ≤ 21) (Y : sg_YI c H) (hs : s < 6) (hk : k < 21) (h1 : k ≤ c s → sg_MM K A B c V s k → ∀ pa pb, post 1 (pa, pb, K, A, B, H, V)) (h0 : (k ≤ c s → ¬ sg_MM K A B c V s k) → ∀ pa pb, post 0 (pa, pb, K, A, B, H, V)) : wpY_needsMet post (pa, pb, K, A, B, H, V) (nI s) (nI k) := by
  obtain ⟨hkd, eK, hA, hB⟩ := ok s hs
  unfold wpY_needsMet
  dsimp only
  refine pk_le k 0 (fun z => ?_) (fun z => ?_)
  · exact sg_y_17 h21 Y hs hk hkd eK hA hB (fun m => h1 (by omega) m) (fun m => h0 (fun _ => m))
  · rw [show nI k - 1 = nI (k - 1) from pk_sub (b := 1) (by omega)]
    refine sg_y_has h21 Y hs (by omega) (fun l => br_f (by decide) ?_) (fun l => br_t rfl (h0 (fun w => absurd w (by omega)) _ _))
    exact sg_y_17 h21 Y hs hk hkd eK hA hB (fun m => h1 (by omega) m) (fun m => h0 (fun _ => m))
theorem sg_y_246 {post : Int32 → SY → Prop} {pa pb : Int32} {K A B H V : Nat → Int32} {s k a : Nat} (hs : s < 6) (hk : k < 21) (ha : a < 6) (eA : A s = nI a) (hp : post (sg_sum a V (k + 1)) (pa, pb, K, A, B, H, V)) : ∀ d i, i + d = k + 1 → wY_worth_246 post (nI s) (nI k) pa pb K A B H V (d + 1) (sg_sum a V i) (nI i) := by
  intro d
  induction d with
  | zero =>
    intro i hi
    have e : i = k + 1 := by omega
    subst e
    exact br_t (nI_lt (a := k) (b := k + 1) (by omega) (by omega)) hp
  | succ d ih =>
    intro i hi
    have hin : vp_in (nI s) 6 := vp_in_nI hs (by decide)
    have ec := nI_clamp (show s < 2 ^ 31 by omega)
    refine br_f (nI_nlt (a := k) (b := i) (by omega) (by omega)) ⟨hin, ?_⟩
    rw [ec, eA]
    exact sg_y_at ha (by omega) (nm_e (nm_r (nI_1 i) (ih (i + 1) (by omega))))
theorem sg_y_worth {post : Int32 → SY → Prop} {pa pb : Int32} {K A B H V : Nat → Int32} {c : Nat → Nat} {s k kd a b : Nat} (h21 : ∀ s, s < 6 → c s ≤ 21) (hs : s < 6) (hk : k < 21) (hkd : kd ≤ 8) (eK : K s = nI kd) (hA : sg_na kd = true → a < 6 ∧ A s = nI a) (hB : sg_nb kd = true → b < 6 ∧ B s = nI b) (m : sg_M kd a b c V k) (h : ∀ pa pb, post (sg_F kd a b (A s) (B s) V k) (pa, pb, K, A, B, H, V)) : wpY_worth post (pa, pb, K, A, B, H, V) (nI s) (nI k) := by
  unfold wpY_worth
  dsimp only
  have hin : vp_in (nI s) 6 := vp_in_nI hs (by decide)
  have ec := nI_clamp (show s < 2 ^ 31 by omega)
  rw [ec, eK]
  refine ⟨hin, pk_eq kd 0 (fun z => ⟨hin, hin, ?_⟩) (fun n0 => ⟨hin, ?_⟩)⟩
  · subst z; exact h _ _
  refine pk_eq kd 1 (fun z => ?_) (fun n1 => ⟨hin, ?_⟩)
  · subst z
    obtain ⟨hb, eB⟩ := hB rfl
    have h : ∀ pa pb, post (if k = 0 then A s else V (21 * b + (k - 1))) (pa, pb, K, A, B, H, V) := h
    rw [eB]
    refine pk_eq k 0 (fun z => ⟨hin, ?_⟩) (fun z => ⟨hin, ?_⟩)
    · rw [if_pos z] at h; exact h _ _
    · rw [if_neg z] at h
      rw [show nI k - 1 = nI (k - 1) from pk_sub (b := 1) (by omega)]
      exact sg_y_at hb (by omega) (h _ _)
  refine pk_eq kd 2 (fun z => ⟨hin, ?_⟩) (fun n2 => ⟨hin, ?_⟩)
  · subst z
    obtain ⟨ha, eA⟩ := hA rfl
    have m : k + 1 < c a := m
    have := h21 a ha
    rw [eA, nI_1]
    exact sg_y_at ha (by omega) (h _ _)
  refine pk_eq kd 3 (fun z => ⟨hin, ?_⟩) (fun n3 => ⟨hin, ?_⟩)
  · subst z
    obtain ⟨ha, eA⟩ := hA rfl
    obtain ⟨hb, eB⟩ := hB rfl
    rw [eA, eB]
    exact sg_y_at ha hk ⟨hin, sg_y_at hb hk (h _ _)⟩
  refine pk_eq kd 4 (fun z => ⟨hin, ?_⟩) (fun n4 => ⟨hin, ?_⟩)
  · subst z
    obtain ⟨ha, eA⟩ := hA rfl
    obtain ⟨hb, eB⟩ := hB rfl
    rw [eA, eB]
    exact sg_y_at ha hk ⟨hin, sg_y_at hb hk (h _ _)⟩
  refine pk_eq kd 5 (fun z => ⟨hin, hin, ?_⟩) (fun n5 => ⟨hin, ?_⟩)
  · subst z
    obtain ⟨hb, eB⟩ := hB rfl
    rw [eB]
    exact sg_y_at hb hk (h _ _)
  refine pk_eq kd 7 (fun z => ?_) (fun n7 => ⟨hin, ?_⟩)
  · subst z
    obtain ⟨ha, eA⟩ := hA rfl
    obtain ⟨hb, eB⟩ := hB rfl
    have h : ∀ pa pb, post (if k % 2 = 0 then V (21 * a + k / 2) else V (21 * b + k / 2)) (pa, pb, K, A, B, H, V) := h
    rw [eA, eB, show nI k - nI k / 2 * 2 = nI (k % 2) from pk_rem (d := 2) (by omega) (by omega) (by omega), show nI k / 2 = nI (k / 2) from pk_div (d := 2) (by omega) (by omega) (by omega)]
    refine ⟨by decide, pk_eq (k % 2) 0 (fun z => ⟨hin, by decide, ?_⟩) (fun z => ⟨hin, by decide, ?_⟩)⟩
    · rw [if_pos z] at h; exact sg_y_at ha (by omega) (h _ _)
    · rw [if_neg z] at h; exact sg_y_at hb (by omega) (h _ _)
  refine pk_eq kd 6 (fun z => ?_) (fun n6 => ?_)
  · subst z
    obtain ⟨ha, eA⟩ := hA rfl
    exact ⟨k + 2, sg_y_246 hs hk ha eA (h _ _) (k + 1) 0 (by omega)⟩
  · have e : kd = 8 := by omega
    subst e
    obtain ⟨ha, eA⟩ := hA rfl
    obtain ⟨hb, eB⟩ := hB rfl
    have q := sg_pl_le a b V k
    refine sg_y_walk hs ha hb hk eA eB ?_
    dsimp only
    have h : ∀ pa pb, post (if V (21 * b + (sg_pl a b V k).2) ≤ V (21 * a + (sg_pl a b V k).1) then V (21 * b + (sg_pl a b V k).2) else V (21 * a + (sg_pl a b V k).1)) (pa, pb, K, A, B, H, V) := h
    rw [eA, eB]
    refine ⟨hin, sg_y_at ha (by omega) ⟨hin, sg_y_at hb (by omega) (br_c (fun z => ?_) (fun z => ?_))⟩⟩
    · rw [if_pos z] at h; exact h _ _
    · rw [if_neg z] at h; exact h _ _
