theorem sg_x_seq_t {post : Int32 → Prop} {s : Nat} (hs : s < 6) (h : post 1) : wpX_isSequence post (nI s) := by
  unfold wpX_isSequence
  exact br_f (nI_pos (by omega)) (br_f (nI_ge (b := 6) hs (by decide)) h)
theorem sg_x_seq_f {post : Int32 → Prop} {x : Int32} (hx : ¬ ∃ s, s < 6 ∧ x = nI s) (h : post 0) : wpX_isSequence post x := by
  unfold wpX_isSequence
  refine br_c (fun _ => h) (fun h0 => br_c (fun _ => h) (fun h6 => ?_))
  rcases pk_ix x (n := 6) (by decide) with z | z | z
  · exact absurd z h0
  · exact absurd z h6
  · exact absurd z hx
theorem sg_x_found {post : Int32 → Prop} {K A B R V F S : Nat → Int32} {s k c : Nat} (hs : s < 6) (hk : k < 2 ^ 31) (eR : R s = nI c) (hc : c ≤ 21) (h1 : k < c → post 1) (h0 : ¬ k < c → post 0) : wpX_isFound post (K, A, B, R, V, F, S) (nI s) (nI k) := by
  unfold wpX_isFound
  dsimp only
  refine sg_x_seq_t hs ?_
  refine br_f (by decide) (br_f (nI_pos hk) ⟨vp_in_nI hs (by decide), ?_⟩)
  rw [nI_clamp (show s < 2 ^ 31 by omega), eR]
  exact pk_le c k (fun z => h0 (by omega)) (fun z => h1 z)
theorem sg_ix (s k : Nat) : nI s * 21 + nI k = nI (21 * s + k) := by
  rw [show (21 : Int32) = nI 21 from rfl, pk_mul, nI_add, Nat.mul_comm]
theorem sg_iy (s k : Nat) : 21 * nI s + nI k = nI (21 * s + k) := by
  rw [show (21 : Int32) = nI 21 from rfl, pk_mul, nI_add]
theorem sg_x_val {post : Int32 → Prop} {K A B R V F S : Nat → Int32} {s k : Nat} (hs : s < 6) (hk : k < 21) (h : post (V (21 * s + k))) : wpX_valueOf post (K, A, B, R, V, F, S) (nI s) (nI k) := by
  unfold wpX_valueOf
  dsimp only
  rw [sg_ix, nI_clamp (show 21 * s + k < 2 ^ 31 by omega)]
  exact ⟨vp_in_nI (by omega) (by decide), h⟩
theorem sg_x_101 {post : Int32 → Prop} {K A B R V F S : Nat → Int32} {c : Nat → Nat} {a b k : Nat} (h21 : ∀ s, s < 6 → c s ≤ 21) (hR : ∀ s, s < 6 → R s = nI (c s)) (hk : k < 21) (ha : a < 6) (hb : b < 6) (h1 : k < c a ∧ k < c b → post 1) (h0 : ¬ (k < c a ∧ k < c b) → post 0) : wX_needsAreMet_101 post (nI k) (nI a) (nI b) K A B R V F S := by
  unfold wX_needsAreMet_101
  exact sg_x_found ha (by omega) (hR a ha) (h21 a ha) (fun z1 => br_f (by decide) (sg_x_found hb (by omega) (hR b hb) (h21 b hb) (fun z2 => br_f (by decide) (h1 ⟨z1, z2⟩)) (fun z2 => br_t rfl (h0 fun m => z2 m.2)))) (fun z1 => br_t rfl (h0 fun m => z1 m.1))
theorem sg_x_needs {post : Int32 → Prop} {K A B R V F S : Nat → Int32} {c : Nat → Nat} {s k kd a b : Nat} (h21 : ∀ s, s < 6 → c s ≤ 21) (hR : ∀ s, s < 6 → R s = nI (c s)) (hs : s < 6) (hk : k < 21) (hkd : kd ≤ 8) (eK : K s = nI kd) (hA : sg_na kd = true → a < 6 ∧ A s = nI a) (hB : sg_nb kd = true → b < 6 ∧ B s = nI b) (hP : kd = 8 → F s = nI (sg_pl a b V k).1 ∧ S s = nI (sg_pl a b V k).2) (h1 : sg_M kd a b c V k → post 1) (h0 : ¬ sg_M kd a b c V k → post 0) : wpX_needsAreMet post (K, A, B, R, V, F, S) (nI s) (nI k) := by
  unfold wpX_needsAreMet
  dsimp only
  rw [nI_clamp (show s < 2 ^ 31 by omega), eK]
  have hin : vp_in (nI s) 6 := vp_in_nI hs (by decide)
  refine ⟨hin, nm_e ⟨hin, nm_e ⟨hin, nm_e ?_⟩⟩⟩
  refine pk_lt kd 0 (fun z => absurd z (Nat.not_lt_zero _)) (fun _ => ?_)
  refine pk_lt 7 kd (fun z => ?_) (fun n8 => ?_)
  · have e : kd = 8 := by omega
    subst e
    obtain ⟨ha, eA⟩ := hA rfl
    obtain ⟨hb, eB⟩ := hB rfl
    obtain ⟨eF, eS⟩ := hP rfl
    have pl := sg_pl_le a b V k
    rw [eA, eB, eF, eS]
    exact ⟨hin, sg_x_found ha (by omega) (hR a ha) (h21 a ha) (fun z1 => br_f (by decide) ⟨hin, sg_x_found hb (by omega) (hR b hb) (h21 b hb) (fun z2 => br_f (by decide) (h1 ⟨z1, z2⟩)) (fun z2 => br_t rfl (h0 fun (m : _ ∧ _) => z2 m.2))⟩) (fun z1 => br_t rfl (h0 fun (m : _ ∧ _) => z1 m.1))⟩
  refine pk_eq kd 0 (fun z => ?_) (fun n0 => ?_)
  · subst z; exact h1 trivial
  refine pk_eq kd 1 (fun z => ?_) (fun n1 => ?_)
  · subst z
    obtain ⟨hb, eB⟩ := hB rfl
    rw [eB]
    refine pk_eq k 0 (fun z => h1 (Or.inl z)) (fun z => ?_)
    rw [show nI k - 1 = nI (k - 1) from pk_sub (b := 1) (by omega)]
    exact sg_x_found hb (by omega) (hR b hb) (h21 b hb) (fun z1 => br_f (by decide) (h1 (Or.inr z1))) (fun z1 => br_t rfl (h0 fun (m : _ ∨ _) => m.elim z z1))
  refine pk_eq kd 2 (fun z => ?_) (fun n2 => ?_)
  · subst z
    obtain ⟨ha, eA⟩ := hA rfl
    rw [eA, nI_1]
    exact sg_x_found ha (by omega) (hR a ha) (h21 a ha) (fun z1 => ⟨rfl, h1 z1⟩) (fun z1 => ⟨rfl, h0 z1⟩)
  refine pk_eq kd 3 (fun z => ?_) (fun n3 => ?_)
  · subst z
    obtain ⟨ha, eA⟩ := hA rfl
    obtain ⟨hb, eB⟩ := hB rfl
    rw [eA, eB]
    exact sg_x_101 h21 hR hk ha hb h1 h0
  refine pk_eq kd 4 (fun z => ?_) (fun n4 => ?_)
  · subst z
    obtain ⟨ha, eA⟩ := hA rfl
    obtain ⟨hb, eB⟩ := hB rfl
    rw [eA, eB]
    exact sg_x_101 h21 hR hk ha hb h1 h0
  refine pk_eq kd 5 (fun z => ?_) (fun n5 => ?_)
  · subst z
    obtain ⟨hb, eB⟩ := hB rfl
    rw [eB]
    exact sg_x_found hb (by omega) (hR b hb) (h21 b hb) (fun z1 => ⟨rfl, h1 z1⟩) (fun z1 => ⟨rfl, h0 z1⟩)
  refine pk_eq kd 6 (fun z => ?_) (fun n6 => ?_)
  · subst z
    obtain ⟨ha, eA⟩ := hA rfl
    rw [eA]
    exact sg_x_found ha (by omega) (hR a ha) (h21 a ha) (fun z1 => ⟨rfl, h1 z1⟩) (fun z1 => ⟨rfl, h0 z1⟩)
  refine pk_eq kd 7 (fun z => ?_) (fun _ => trivial)
  subst z
  obtain ⟨ha, eA⟩ := hA rfl
  obtain ⟨hb, eB⟩ := hB rfl
  rw [eA, eB, show nI k - nI k / 2 * 2 = nI (k % 2) from pk_rem (d := 2) (by omega) (by omega) (by omega), show nI k / 2 = nI (k / 2) from pk_div (d := 2) (by omega) (by omega) (by omega)]
  refine ⟨by decide, pk_eq (k % 2) 0 (fun z => ⟨by decide, ?_⟩) (fun z => ⟨by decide, ?_⟩)⟩
  · exact sg_x_found ha (by omega) (hR a ha) (h21 a ha) (fun z1 => ⟨rfl, h1 ⟨fun _ => z1, fun y => absurd z y⟩⟩) (fun z1 => ⟨rfl, h0 fun (m : _ ∧ _) => z1 (m.1 z)⟩)
  · exact sg_x_found hb (by omega) (hR b hb) (h21 b hb) (fun z1 => ⟨rfl, h1 ⟨fun y => absurd y z, fun _ => z1⟩⟩) (fun z1 => ⟨rfl, h0 fun (m : _ ∧ _) => z1 (m.2 z)⟩)
theorem sg_x_next {post : Int32 → Prop} {K A B R V F S : Nat → Int32} {c : Nat → Nat} {s k kd a b : Nat} (h21 : ∀ s, s < 6 → c s ≤ 21) (hs : s < 6) (hk : k < 21) (hkd : kd ≤ 8) (eK : K s = nI kd) (hA : sg_na kd = true → a < 6 ∧ A s = nI a) (hB : sg_nb kd = true → b < 6 ∧ B s = nI b) (hP : kd = 8 → F s = nI (sg_pl a b V k).1 ∧ S s = nI (sg_pl a b V k).2) (hsc : kd = 6 → k ≠ 0 → V (21 * s + (k - 1)) = sg_sum a V k) (m : sg_M kd a b c V k) (h : post (sg_F kd a b (A s) (B s) V k)) : wpX_nextValue post (K, A, B, R, V, F, S) (nI s) (nI k) := by
  unfold wpX_nextValue
  dsimp only
  rw [nI_clamp (show s < 2 ^ 31 by omega), eK]
  have hin : vp_in (nI s) 6 := vp_in_nI hs (by decide)
  refine ⟨hin, nm_e ⟨hin, nm_e ⟨hin, nm_e ?_⟩⟩⟩
  refine pk_lt kd 0 (fun z => absurd z (Nat.not_lt_zero _)) (fun _ => ?_)
  refine pk_lt 7 kd (fun z => ?_) (fun n8 => ?_)
  · have e : kd = 8 := by omega
    subst e
    obtain ⟨ha, eA⟩ := hA rfl
    obtain ⟨hb, eB⟩ := hB rfl
    obtain ⟨eF, eS⟩ := hP rfl
    have pl := sg_pl_le a b V k
    rw [eA, eB, eF, eS]
    have h : post (if V (21 * b + (sg_pl a b V k).2) ≤ V (21 * a + (sg_pl a b V k).1) then V (21 * b + (sg_pl a b V k).2) else V (21 * a + (sg_pl a b V k).1)) := h
    refine ⟨hin, sg_x_val ha (by omega) ⟨hin, sg_x_val hb (by omega) (br_c (fun z => ?_) (fun z => ?_))⟩⟩
    · rw [if_pos z] at h; exact h
    · rw [if_neg z] at h; exact h
  refine pk_eq kd 0 (fun z => ?_) (fun n0 => ?_)
  · subst z; exact h
  refine pk_eq kd 1 (fun z => ?_) (fun n1 => ?_)
  · subst z
    obtain ⟨hb, eB⟩ := hB rfl
    have h : post (if k = 0 then A s else V (21 * b + (k - 1))) := h
    rw [eB]
    refine pk_eq k 0 (fun z => ?_) (fun z => ?_)
    · rw [if_pos z] at h; exact h
    · rw [if_neg z] at h
      rw [show nI k - 1 = nI (k - 1) from pk_sub (b := 1) (by omega)]
      exact sg_x_val hb (by omega) h
  refine pk_eq kd 2 (fun z => ?_) (fun n2 => ?_)
  · subst z
    obtain ⟨ha, eA⟩ := hA rfl
    have m : k + 1 < c a := m
    have := h21 a ha
    rw [eA, nI_1]
    exact sg_x_val ha (by omega) h
  refine pk_eq kd 3 (fun z => ?_) (fun n3 => ?_)
  · subst z
    obtain ⟨ha, eA⟩ := hA rfl
    obtain ⟨hb, eB⟩ := hB rfl
    rw [eA, eB]
    exact sg_x_val ha hk (sg_x_val hb hk h)
  refine pk_eq kd 4 (fun z => ?_) (fun n4 => ?_)
  · subst z
    obtain ⟨ha, eA⟩ := hA rfl
    obtain ⟨hb, eB⟩ := hB rfl
    rw [eA, eB]
    exact sg_x_val ha hk (sg_x_val hb hk h)
  refine pk_eq kd 5 (fun z => ?_) (fun n5 => ?_)
  · subst z
    obtain ⟨hb, eB⟩ := hB rfl
    rw [eB]
    exact sg_x_val hb hk h
  refine pk_eq kd 6 (fun z => ?_) (fun n6 => ?_)
  · subst z
    obtain ⟨ha, eA⟩ := hA rfl
    have h : post (sg_sum a V k + V (21 * a + k)) := h
    rw [eA]
    refine pk_eq k 0 (fun z => ?_) (fun z => ?_)
    · subst z
      have h : post (0 + V (21 * a + 0)) := h
      rw [Int32.zero_add] at h
      exact sg_x_val (k := 0) ha (by omega) h
    · rw [show nI k - 1 = nI (k - 1) from pk_sub (b := 1) (by omega)]
      rw [← hsc rfl z] at h
      exact sg_x_val hs (by omega) (sg_x_val ha hk h)
  refine pk_eq kd 7 (fun z => ?_) (fun _ => trivial)
  subst z
  obtain ⟨ha, eA⟩ := hA rfl
  obtain ⟨hb, eB⟩ := hB rfl
  have h : post (if k % 2 = 0 then V (21 * a + k / 2) else V (21 * b + k / 2)) := h
  rw [eA, eB, show nI k - nI k / 2 * 2 = nI (k % 2) from pk_rem (d := 2) (by omega) (by omega) (by omega), show nI k / 2 = nI (k / 2) from pk_div (d := 2) (by omega) (by omega) (by omega)]
  refine ⟨by decide, pk_eq (k % 2) 0 (fun z => ⟨by decide, ?_⟩) (fun z => ⟨by decide, ?_⟩)⟩
  · rw [if_pos z] at h; exact sg_x_val ha (by omega) h
  · rw [if_neg z] at h; exact sg_x_val hb (by omega) h
theorem sg_st_t {x y : Int32} {i : Nat} (z : y < x) : nI i = nI (sg_st x y i) := congrArg nI (if_pos z).symm
theorem sg_st_f {x y : Int32} {i : Nat} (z : ¬ y < x) : nI i + 1 = nI (sg_st x y i) := (nI_1 i).trans (congrArg nI (if_neg z).symm)
theorem sg_x_49 {post : SX → Prop} {K A B R V F S : Nat → Int32} {s j : Nat} {x y : Int32} (hs : s < 6) (eS : S s = nI j) (h : ∀ S' : Nat → Int32, S' s = nI (sg_st y x j) → (∀ t, t ≠ s → S' t = S t) → post (K, A, B, R, V, F, S')) : wX_moveMergePlaces_49 post (nI s) x y K A B R V F S := by
  unfold wX_moveMergePlaces_49
  rw [nI_clamp (show s < 2 ^ 31 by omega), eS]
  have hin : vp_in (nI s) 6 := vp_in_nI hs (by decide)
  exact br_c (fun w => h S (eS.trans (sg_st_t w)) (fun _ _ => rfl)) (fun w => ⟨hin, hin, nm_e (h _ (pk_us.trans (sg_st_f w)) (fun _ ht => pk_un ht))⟩)
theorem sg_x_move {post : SX → Prop} {K A B R V F S : Nat → Int32} {s a b i j : Nat} (hs : s < 6) (ha : a < 6) (hb : b < 6) (hi : i < 21) (hj : j < 21) (eA : A s = nI a) (eB : B s = nI b) (eF : F s = nI i) (eS : S s = nI j) (h : ∀ F' S' : Nat → Int32, F' s = nI (sg_st (V (21 * a + i)) (V (21 * b + j)) i) → S' s = nI (sg_st (V (21 * b + j)) (V (21 * a + i)) j) → (∀ t, t ≠ s → F' t = F t ∧ S' t = S t) → post (K, A, B, R, V, F', S')) : wpX_moveMergePlaces post (K, A, B, R, V, F, S) (nI s) := by
  unfold wpX_moveMergePlaces
  dsimp only
  rw [nI_clamp (show s < 2 ^ 31 by omega), eA, eB, eF, eS]
  have hin : vp_in (nI s) 6 := vp_in_nI hs (by decide)
  refine ⟨hin, hin, sg_x_val ha hi ⟨hin, hin, sg_x_val hb hj ?_⟩⟩
  refine br_c (fun z => ?_) (fun z => ⟨hin, hin, nm_e ?_⟩)
  · exact sg_x_49 hs eS (fun S' e r => h F S' (eF.trans (sg_st_t z)) e (fun t ht => ⟨rfl, r t ht⟩))
  · exact sg_x_49 hs eS (fun S' e r => h _ S' (pk_us.trans (sg_st_f z)) e (fun t ht => ⟨pk_un ht, r t ht⟩))
/-- what the component's arrays say of the counts -/
def sg_XI (K A B : Nat → Int32) (c : Nat → Nat) (V R F S : Nat → Int32) : Prop := (∀ s, s < 6 → R s = nI (c s)) ∧ (∀ s, s < 6 → (K s).toNatClampNeg = 8 → F s = nI (sg_pl (A s).toNatClampNeg (B s).toNatClampNeg V (c s)).1 ∧ S s = nI (sg_pl (A s).toNatClampNeg (B s).toNatClampNeg V (c s)).2)
theorem sg_pl_keep {K A B : Nat → Int32} {c c' : Nat → Nat} {V V' : Nat → Int32} {s : Nat} (ok : sg_Ok K A B) (I : sg_Inv K A B c V) (L : sg_Le c V c' V') (hs : s < 6) (e8 : (K s).toNatClampNeg = 8) : sg_pl (A s).toNatClampNeg (B s).toNatClampNeg V (c s) = sg_pl (A s).toNatClampNeg (B s).toNatClampNeg V' (c s) := by
  obtain ⟨_, _, hA, hB⟩ := ok s hs
  rw [e8] at hA hB
  refine sg_pl_mono (hA rfl).1 (hB rfl).1 L (c s) (fun t ht => ?_)
  have m := (I.2.1 s hs t ht).1
  unfold sg_MM at m
  rw [e8] at m
  exact m
theorem sg_XI_step {K A B : Nat → Int32} {c : Nat → Nat} {V R F S F' S' : Nat → Int32} {s : Nat} {x : Int32} (ok : sg_Ok K A B) (I : sg_Inv K A B c V) (X : sg_XI K A B c V R F S) (hc : c s < 21) (hF : (K s).toNatClampNeg = 8 → F' s = nI (sg_pl (A s).toNatClampNeg (B s).toNatClampNeg (upd V (21 * s + c s) x) (c s + 1)).1 ∧ S' s = nI (sg_pl (A s).toNatClampNeg (B s).toNatClampNeg (upd V (21 * s + c s) x) (c s + 1)).2) (hr : ∀ t, t ≠ s → F' t = F t ∧ S' t = S t) : sg_XI K A B (sg_uN c s (c s + 1)) (upd V (21 * s + c s) x) (upd R s (nI (c s) + 1)) F' S' := by
  have L := sg_Le_step (v := V) (x := x) I.1 hc
  constructor
  · intro t ht
    by_cases e : t = s
    · subst e; rw [sg_uN_s, pk_us, nI_1]
    · rw [sg_uN_n e, pk_un e]; exact X.1 t ht
  · intro t ht e8
    by_cases e : t = s
    · subst e; rw [sg_uN_s]; exact hF e8
    · rw [sg_uN_n e, (hr t e).1, (hr t e).2, ← sg_pl_keep ok I L ht e8]
      exact X.2 t ht e8
theorem sg_x_extend {post : Int32 → SX → Prop} {K A B R V F S : Nat → Int32} {c : Nat → Nat} {s : Nat} (ok : sg_Ok K A B) (I : sg_Inv K A B c V) (X : sg_XI K A B c V R F S) (hs : s < 6) (h0 : (c s < 21 → ¬ sg_MM K A B c V s (c s)) → post 0 (K, A, B, R, V, F, S)) (h1 : ∀ R' V' F' S' : Nat → Int32, sg_Inv K A B (sg_uN c s (c s + 1)) V' → sg_XI K A B (sg_uN c s (c s + 1)) V' R' F' S' → post 1 (K, A, B, R', V', F', S')) : wpX_extend post (K, A, B, R, V, F, S) (nI s) := by
  obtain ⟨hkd, eK, hA, hB⟩ := ok s hs
  have c21 := I.1 s hs
  have hin : vp_in (nI s) 6 := vp_in_nI hs (by decide)
  unfold wpX_extend
  dsimp only
  rw [nI_clamp (show s < 2 ^ 31 by omega), X.1 s hs]
  refine ⟨hin, nm_e ?_⟩
  refine pk_le 21 (c s) (fun z => h0 (fun w => by omega)) (fun z => ?_)
  refine sg_x_needs (c := c) I.1 X.1 hs z hkd eK hA hB (X.2 s hs) (fun m => ?_) (fun m => br_t rfl (h0 fun _ => m))
  refine br_f (by decide) ?_
  refine sg_x_next (c := c) I.1 hs z hkd eK hA hB (X.2 s hs) (fun e6 z0 => ?_) m ?_
  · have o := (I.2.1 s hs (c s - 1) (by omega)).2
    unfold sg_FF at o
    rw [e6] at o
    rw [o]
    show sg_sum _ _ (c s - 1 + 1) = _
    rw [Nat.sub_add_cancel (by omega)]
  · rw [sg_ix, nI_clamp (show 21 * s + c s < 2 ^ 31 by omega)]
    refine ⟨vp_in_nI (by omega) (by decide), nm_e ⟨hin, ?_⟩⟩
    have I2 := sg_step ok I hs z m
    have L := sg_Le_step (v := V) (x := sg_FF K A B V s (c s)) I.1 z
    refine pk_eq (K s).toNatClampNeg 8 (hx := eK) (fun e8 => ?_) (fun n8 => ?_)
    · have e0 := sg_pl_keep ok I L hs e8
      have P := X.2 s hs e8
      rw [e0] at P
      have q := sg_pl_le (A s).toNatClampNeg (B s).toNatClampNeg (upd V (21 * s + c s) (sg_FF K A B V s (c s))) (c s)
      rw [e8] at hA hB
      refine sg_x_move hs (hA rfl).1 (hB rfl).1 (Nat.lt_of_le_of_lt q.1 z) (Nat.lt_of_le_of_lt q.2 z) (hA rfl).2 (hB rfl).2 P.1 P.2 (fun F' S' eF eS r => ?_)
      dsimp only
      unfold wX_extend_57
      rw [nI_clamp (show s < 2 ^ 31 by omega)]
      exact ⟨hin, nm_e (h1 _ _ _ _ I2 (sg_XI_step ok I X z (fun _ => ⟨eF, eS⟩) r))⟩
    · unfold wX_extend_57
      rw [nI_clamp (show s < 2 ^ 31 by omega)]
      exact ⟨hin, nm_e (h1 _ _ _ _ I2 (sg_XI_step ok I X z (fun e => absurd e n8) (fun _ _ => ⟨rfl, rfl⟩)))⟩
