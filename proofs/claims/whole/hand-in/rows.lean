section
theorem pk_us {f : Nat → Int32} {k : Nat} {x : Int32} : upd f k x k = x := if_pos rfl
theorem pk_un {f : Nat → Int32} {k j : Nat} {x : Int32} (h : j ≠ k) : upd f k x j = f j := if_neg h
theorem pk_sub {a b : Nat} (h : b ≤ a) : nI a - nI b = nI (a - b) := by
  obtain ⟨c, rfl⟩ : ∃ c, a = c + b := ⟨a - b, by omega⟩
  rw [← nI_add, Int32.add_sub_cancel, Nat.add_sub_cancel]
theorem pk_mul (a b : Nat) : nI a * nI b = nI (a * b) := (Int32.ofNat_mul a b).symm
theorem pk_div {a d : Nat} (ha : a < 2 ^ 31) (h0 : 0 < d) (hd : d < 2 ^ 31) : nI a / nI d = nI (a / d) := by
  apply Int32.toInt_inj.mp
  rw [lg_idiv_nonneg (by rw [nI_toInt ha]; omega) (by rw [nI_toInt hd]; omega), nI_toInt ha, nI_toInt hd, nI_toInt (Nat.lt_of_le_of_lt (Nat.div_le_self a d) ha)]
  first | rfl | exact (Int.natCast_ediv _ _).symm
theorem pk_rem {a d : Nat} (ha : a < 2 ^ 31) (h0 : 0 < d) (hd : d < 2 ^ 31) : nI a - nI a / nI d * nI d = nI (a % d) := by
  rw [pk_div ha h0 hd, pk_mul, pk_sub (Nat.div_mul_le_self a d)]
  exact congrArg nI (by have := Nat.div_add_mod' a d; omega)
theorem pk_ix (x : Int32) {n : Nat} (hn : n < 2 ^ 31) : x < 0 ∨ nI n ≤ x ∨ ∃ j : Nat, j < n ∧ x = nI j := by
  by_cases h : x < 0
  · exact Or.inl h
  · obtain ⟨j, hj, rfl⟩ := nI_of h
    by_cases h2 : j < n
    · exact Or.inr (Or.inr ⟨j, h2, rfl⟩)
    · exact Or.inr (Or.inl (nI_le (by omega) hj))
theorem pk_le {x y : Int32} {A B : Prop} (a b : Nat) (f : a ≤ b → A) (g : b < a → B) (hx : x = nI a := by rfl) (hy : y = nI b := by rfl) (ha : a < 2 ^ 31 := by omega) (hb : b < 2 ^ 31 := by omega) : (x ≤ y → A) ∧ (¬ x ≤ y → B) := by
  subst hx hy
  rw [nI_leI ha hb]
  exact ⟨f, fun z => g (by omega)⟩
theorem pk_lt {x y : Int32} {A B : Prop} (a b : Nat) (f : a < b → A) (g : b ≤ a → B) (hx : x = nI a := by rfl) (hy : y = nI b := by rfl) (ha : a < 2 ^ 31 := by omega) (hb : b < 2 ^ 31 := by omega) : (x < y → A) ∧ (¬ x < y → B) := by
  subst hx hy
  rw [nI_ltI ha hb]
  exact ⟨f, fun z => g (by omega)⟩
theorem pk_eq {x y : Int32} {A B : Prop} (a b : Nat) (f : a = b → A) (g : a ≠ b → B) (hx : x = nI a := by rfl) (hy : y = nI b := by rfl) (ha : a < 2 ^ 31 := by omega) (hb : b < 2 ^ 31 := by omega) : (x = y → A) ∧ (¬ x = y → B) := by
  subst hx hy
  rw [nI_eq ha hb]
  exact ⟨f, g⟩
/-- a MERGE's place after one step: it stays where the other element is smaller -/
def sg_st (x y : Int32) (i : Nat) : Nat := if y < x then i else i + 1
theorem sg_st_ge (x y : Int32) (i : Nat) : i ≤ sg_st x y i := by unfold sg_st; split <;> omega
theorem sg_st_le (x y : Int32) (i : Nat) : sg_st x y i ≤ i + 1 := by unfold sg_st; split <;> omega
/-- a MERGE's two places after k steps -/
def sg_pl (a b : Nat) (v : Nat → Int32) : Nat → Nat × Nat
  | 0 => (0, 0)
  | k + 1 => (sg_st (v (21 * a + (sg_pl a b v k).1)) (v (21 * b + (sg_pl a b v k).2)) (sg_pl a b v k).1, sg_st (v (21 * b + (sg_pl a b v k).2)) (v (21 * a + (sg_pl a b v k).1)) (sg_pl a b v k).2)
def sg_sum (a : Nat) (v : Nat → Int32) : Nat → Int32
  | 0 => 0
  | k + 1 => sg_sum a v k + v (21 * a + k)
/-- what the element k needs is among the first c of each sequence -/
def sg_M (kd a b : Nat) (c : Nat → Nat) (v : Nat → Int32) (k : Nat) : Prop :=
  match kd with
  | 0 => True
  | 1 => k = 0 ∨ k - 1 < c b
  | 2 => k + 1 < c a
  | 3 => k < c a ∧ k < c b
  | 4 => k < c a ∧ k < c b
  | 5 => k < c b
  | 6 => k < c a
  | 7 => (k % 2 = 0 → k / 2 < c a) ∧ (k % 2 ≠ 0 → k / 2 < c b)
  | _ => (sg_pl a b v k).1 < c a ∧ (sg_pl a b v k).2 < c b
def sg_F (kd a b : Nat) (xa xb : Int32) (v : Nat → Int32) (k : Nat) : Int32 :=
  match kd with
  | 0 => xa + nI k * xb
  | 1 => if k = 0 then xa else v (21 * b + (k - 1))
  | 2 => v (21 * a + (k + 1))
  | 3 => v (21 * a + k) + v (21 * b + k)
  | 4 => v (21 * a + k) * v (21 * b + k)
  | 5 => xa * v (21 * b + k)
  | 6 => sg_sum a v (k + 1)
  | 7 => if k % 2 = 0 then v (21 * a + k / 2) else v (21 * b + k / 2)
  | _ => if v (21 * b + (sg_pl a b v k).2) ≤ v (21 * a + (sg_pl a b v k).1) then v (21 * b + (sg_pl a b v k).2) else v (21 * a + (sg_pl a b v k).1)
/-- the kinds whose first, whose second number names a sequence -/
def sg_na (kd : Nat) : Bool := kd == 2 || kd == 3 || kd == 4 || kd == 6 || kd == 7 || kd == 8
def sg_nb (kd : Nat) : Bool := kd == 1 || kd == 3 || kd == 4 || kd == 5 || kd == 7 || kd == 8
def sg_Ok1 (x y z : Int32) : Prop := x.toNatClampNeg ≤ 8 ∧ x = nI x.toNatClampNeg ∧ (sg_na x.toNatClampNeg = true → y.toNatClampNeg < 6 ∧ y = nI y.toNatClampNeg) ∧ (sg_nb x.toNatClampNeg = true → z.toNatClampNeg < 6 ∧ z = nI z.toNatClampNeg)
def sg_Ok (K A B : Nat → Int32) : Prop := ∀ s, s < 6 → sg_Ok1 (K s) (A s) (B s)
def sg_MM (K A B : Nat → Int32) (c : Nat → Nat) (v : Nat → Int32) (s k : Nat) : Prop := sg_M (K s).toNatClampNeg (A s).toNatClampNeg (B s).toNatClampNeg c v k
def sg_FF (K A B : Nat → Int32) (v : Nat → Int32) (s k : Nat) : Int32 := sg_F (K s).toNatClampNeg (A s).toNatClampNeg (B s).toNatClampNeg (A s) (B s) v k
def sg_Le (c : Nat → Nat) (v : Nat → Int32) (c' : Nat → Nat) (v' : Nat → Int32) : Prop := ∀ s, s < 6 → c s ≤ c' s ∧ ∀ k, k < c s → v (21 * s + k) = v' (21 * s + k)
def sg_Sat (K A B : Nat → Int32) (c : Nat → Nat) (v : Nat → Int32) : Prop := ∀ s, s < 6 → c s < 21 → ¬ sg_MM K A B c v s (c s)
def sg_Cl (K A B : Nat → Int32) (c : Nat → Nat) (v : Nat → Int32) : Prop := (∀ s, s < 6 → c s ≤ 21) ∧ (∀ s, s < 6 → ∀ k, k < c s → v (21 * s + k) = sg_FF K A B v s k) ∧ sg_Sat K A B c v
/-- every element that is in has its needs and its value, and is in every closed pair -/
def sg_Inv (K A B : Nat → Int32) (c : Nat → Nat) (v : Nat → Int32) : Prop := (∀ s, s < 6 → c s ≤ 21) ∧ (∀ s, s < 6 → ∀ k, k < c s → sg_MM K A B c v s k ∧ v (21 * s + k) = sg_FF K A B v s k) ∧ (∀ c' v', sg_Cl K A B c' v' → sg_Le c v c' v')
def sg_uN (c : Nat → Nat) (s x : Nat) : Nat → Nat := fun j => if j = s then x else c j
theorem sg_uN_s {c : Nat → Nat} {s x : Nat} : sg_uN c s x s = x := if_pos rfl
theorem sg_uN_n {c : Nat → Nat} {s x j : Nat} (h : j ≠ s) : sg_uN c s x j = c j := if_neg h
def sg_tot (c : Nat → Nat) : Nat := c 0 + c 1 + c 2 + c 3 + c 4 + c 5
theorem sg_6 {P : Nat → Prop} (h0 : P 0) (h1 : P 1) (h2 : P 2) (h3 : P 3) (h4 : P 4) (h5 : P 5) : ∀ s, s < 6 → P s
  | 0, _ => h0
  | 1, _ => h1
  | 2, _ => h2
  | 3, _ => h3
  | 4, _ => h4
  | 5, _ => h5
  | n + 6, h => absurd h (by omega)
theorem sg_9 {P : Nat → Prop} (h0 : P 0) (h1 : P 1) (h2 : P 2) (h3 : P 3) (h4 : P 4) (h5 : P 5) (h6 : P 6) (h7 : P 7) (h8 : P 8) : ∀ s, s ≤ 8 → P s
  | 0, _ => h0
  | 1, _ => h1
  | 2, _ => h2
  | 3, _ => h3
  | 4, _ => h4
  | 5, _ => h5
  | 6, _ => h6
  | 7, _ => h7
  | 8, _ => h8
  | n + 9, h => absurd h (by omega)
theorem sg_tot_up (c : Nat → Nat) : ∀ s, s < 6 → sg_tot (sg_uN c s (c s + 1)) = sg_tot c + 1 := by
  refine sg_6 ?_ ?_ ?_ ?_ ?_ ?_ <;> · simp [sg_tot, sg_uN]; try omega
theorem sg_tot_le {c : Nat → Nat} (h : ∀ s, s < 6 → c s ≤ 21) : sg_tot c ≤ 126 := by
  have h0 := h 0 (by omega)
  have h1 := h 1 (by omega)
  have h2 := h 2 (by omega)
  have h3 := h 3 (by omega)
  have h4 := h 4 (by omega)
  have h5 := h 5 (by omega)
  unfold sg_tot; omega
theorem sg_pl_le (a b : Nat) (v : Nat → Int32) : ∀ t, (sg_pl a b v t).1 ≤ t ∧ (sg_pl a b v t).2 ≤ t
  | 0 => ⟨Nat.le_refl _, Nat.le_refl _⟩
  | t + 1 => by
    have ih := sg_pl_le a b v t
    exact ⟨Nat.le_trans (sg_st_le _ _ _) (by omega), Nat.le_trans (sg_st_le _ _ _) (by omega)⟩
theorem sg_pl_up (a b : Nat) (v : Nat → Int32) (t : Nat) : ∀ d, (sg_pl a b v t).1 ≤ (sg_pl a b v (t + d)).1 ∧ (sg_pl a b v t).2 ≤ (sg_pl a b v (t + d)).2
  | 0 => ⟨Nat.le_refl _, Nat.le_refl _⟩
  | d + 1 => by
    have ih := sg_pl_up a b v t d
    exact ⟨Nat.le_trans ih.1 (sg_st_ge _ _ _), Nat.le_trans ih.2 (sg_st_ge _ _ _)⟩
theorem sg_pl_mono {a b : Nat} {c c' : Nat → Nat} {v v' : Nat → Int32} (ha : a < 6) (hb : b < 6) (L : sg_Le c v c' v') : ∀ k, (∀ t, t < k → (sg_pl a b v t).1 < c a ∧ (sg_pl a b v t).2 < c b) → sg_pl a b v k = sg_pl a b v' k
  | 0, _ => rfl
  | k + 1, h => by
    have ih := sg_pl_mono ha hb L k (fun t ht => h t (by omega))
    have hk := h k (by omega)
    show (_, _) = (_, _)
    rw [← ih, ← (L a ha).2 _ hk.1, ← (L b hb).2 _ hk.2]
theorem sg_pl_all {a b : Nat} {c : Nat → Nat} {v : Nat → Int32} {k : Nat} (h : (sg_pl a b v k).1 < c a ∧ (sg_pl a b v k).2 < c b) : ∀ t, t ≤ k → (sg_pl a b v t).1 < c a ∧ (sg_pl a b v t).2 < c b := by
  intro t ht
  have u := sg_pl_up a b v t (k - t)
  rw [show t + (k - t) = k by omega] at u
  omega
theorem sg_sum_mono {a : Nat} {c c' : Nat → Nat} {v v' : Nat → Int32} (ha : a < 6) (L : sg_Le c v c' v') : ∀ k, k ≤ c a → sg_sum a v k = sg_sum a v' k
  | 0, _ => rfl
  | k + 1, h => by
    show _ + _ = _ + _
    rw [sg_sum_mono ha L k (by omega), (L a ha).2 k (by omega)]
theorem sg_M_mono0 {a b : Nat} {xa xb : Int32} {c c' : Nat → Nat} {v v' : Nat → Int32} {k : Nat} (L : sg_Le c v c' v') : (sg_na 0 = true → a < 6) → (sg_nb 0 = true → b < 6) → sg_M 0 a b c v k → sg_M 0 a b c' v' k ∧ sg_F 0 a b xa xb v k = sg_F 0 a b xa xb v' k := by
  intro _ _ _
  refine ⟨trivial, ?_⟩
  show xa + nI k * xb = xa + nI k * xb
  rfl
theorem sg_M_mono1 {a b : Nat} {xa xb : Int32} {c c' : Nat → Nat} {v v' : Nat → Int32} {k : Nat} (L : sg_Le c v c' v') : (sg_na 1 = true → a < 6) → (sg_nb 1 = true → b < 6) → sg_M 1 a b c v k → sg_M 1 a b c' v' k ∧ sg_F 1 a b xa xb v k = sg_F 1 a b xa xb v' k := by
  intro _ nb h
  have hb := L b (nb rfl)
  have h : k = 0 ∨ k - 1 < c b := h
  refine ⟨show k = 0 ∨ k - 1 < c' b by omega, ?_⟩
  show (if k = 0 then xa else v (21 * b + (k - 1))) = (if k = 0 then xa else v' (21 * b + (k - 1)))
  by_cases z : k = 0
  · rw [if_pos z, if_pos z]
  · rw [if_neg z, if_neg z, hb.2 _ (by omega)]
theorem sg_M_mono2 {a b : Nat} {xa xb : Int32} {c c' : Nat → Nat} {v v' : Nat → Int32} {k : Nat} (L : sg_Le c v c' v') : (sg_na 2 = true → a < 6) → (sg_nb 2 = true → b < 6) → sg_M 2 a b c v k → sg_M 2 a b c' v' k ∧ sg_F 2 a b xa xb v k = sg_F 2 a b xa xb v' k := by
  intro na _ h
  have ha := L a (na rfl)
  have h : k + 1 < c a := h
  exact ⟨show k + 1 < c' a by omega, ha.2 _ h⟩
theorem sg_M_mono3 {a b : Nat} {xa xb : Int32} {c c' : Nat → Nat} {v v' : Nat → Int32} {k : Nat} (L : sg_Le c v c' v') : (sg_na 3 = true → a < 6) → (sg_nb 3 = true → b < 6) → sg_M 3 a b c v k → sg_M 3 a b c' v' k ∧ sg_F 3 a b xa xb v k = sg_F 3 a b xa xb v' k := by
  intro na nb h
  have ha := L a (na rfl)
  have hb := L b (nb rfl)
  have h : k < c a ∧ k < c b := h
  refine ⟨show k < c' a ∧ k < c' b by omega, ?_⟩
  show v _ + v _ = v' _ + v' _
  rw [ha.2 _ h.1, hb.2 _ h.2]
theorem sg_M_mono4 {a b : Nat} {xa xb : Int32} {c c' : Nat → Nat} {v v' : Nat → Int32} {k : Nat} (L : sg_Le c v c' v') : (sg_na 4 = true → a < 6) → (sg_nb 4 = true → b < 6) → sg_M 4 a b c v k → sg_M 4 a b c' v' k ∧ sg_F 4 a b xa xb v k = sg_F 4 a b xa xb v' k := by
  intro na nb h
  have ha := L a (na rfl)
  have hb := L b (nb rfl)
  have h : k < c a ∧ k < c b := h
  refine ⟨show k < c' a ∧ k < c' b by omega, ?_⟩
  show v _ * v _ = v' _ * v' _
  rw [ha.2 _ h.1, hb.2 _ h.2]
theorem sg_M_mono5 {a b : Nat} {xa xb : Int32} {c c' : Nat → Nat} {v v' : Nat → Int32} {k : Nat} (L : sg_Le c v c' v') : (sg_na 5 = true → a < 6) → (sg_nb 5 = true → b < 6) → sg_M 5 a b c v k → sg_M 5 a b c' v' k ∧ sg_F 5 a b xa xb v k = sg_F 5 a b xa xb v' k := by
  intro _ nb h
  have hb := L b (nb rfl)
  have h : k < c b := h
  refine ⟨show k < c' b by omega, ?_⟩
  show xa * v _ = xa * v' _
  rw [hb.2 _ h]
theorem sg_M_mono6 {a b : Nat} {xa xb : Int32} {c c' : Nat → Nat} {v v' : Nat → Int32} {k : Nat} (L : sg_Le c v c' v') : (sg_na 6 = true → a < 6) → (sg_nb 6 = true → b < 6) → sg_M 6 a b c v k → sg_M 6 a b c' v' k ∧ sg_F 6 a b xa xb v k = sg_F 6 a b xa xb v' k := by
  intro na _ h
  have ha := L a (na rfl)
  have h : k < c a := h
  exact ⟨show k < c' a by omega, sg_sum_mono (na rfl) L _ (by omega)⟩
theorem sg_M_mono7 {a b : Nat} {xa xb : Int32} {c c' : Nat → Nat} {v v' : Nat → Int32} {k : Nat} (L : sg_Le c v c' v') : (sg_na 7 = true → a < 6) → (sg_nb 7 = true → b < 6) → sg_M 7 a b c v k → sg_M 7 a b c' v' k ∧ sg_F 7 a b xa xb v k = sg_F 7 a b xa xb v' k := by
  intro na nb h
  have ha := L a (na rfl)
  have hb := L b (nb rfl)
  have h : (k % 2 = 0 → k / 2 < c a) ∧ (k % 2 ≠ 0 → k / 2 < c b) := h
  refine ⟨show (k % 2 = 0 → k / 2 < c' a) ∧ (k % 2 ≠ 0 → k / 2 < c' b) from ⟨fun z => Nat.lt_of_lt_of_le (h.1 z) ha.1, fun z => Nat.lt_of_lt_of_le (h.2 z) hb.1⟩, ?_⟩
  show (if k % 2 = 0 then v (21 * a + k / 2) else v (21 * b + k / 2)) = (if k % 2 = 0 then v' (21 * a + k / 2) else v' (21 * b + k / 2))
  by_cases z : k % 2 = 0
  · rw [if_pos z, if_pos z, ha.2 _ (h.1 z)]
  · rw [if_neg z, if_neg z, hb.2 _ (h.2 z)]
theorem sg_M_mono8 {a b : Nat} {xa xb : Int32} {c c' : Nat → Nat} {v v' : Nat → Int32} {k : Nat} (L : sg_Le c v c' v') : (sg_na 8 = true → a < 6) → (sg_nb 8 = true → b < 6) → sg_M 8 a b c v k → sg_M 8 a b c' v' k ∧ sg_F 8 a b xa xb v k = sg_F 8 a b xa xb v' k := by
  intro na nb h
  have ha := L a (na rfl)
  have hb := L b (nb rfl)
  have h : (sg_pl a b v k).1 < c a ∧ (sg_pl a b v k).2 < c b := h
  have e := sg_pl_mono (na rfl) (nb rfl) L k (fun t ht => sg_pl_all h t (by omega))
  refine ⟨show (sg_pl a b v' k).1 < c' a ∧ (sg_pl a b v' k).2 < c' b by rw [← e]; omega, ?_⟩
  show (if v (21 * b + (sg_pl a b v k).2) ≤ v (21 * a + (sg_pl a b v k).1) then v (21 * b + (sg_pl a b v k).2) else v (21 * a + (sg_pl a b v k).1)) = (if v' (21 * b + (sg_pl a b v' k).2) ≤ v' (21 * a + (sg_pl a b v' k).1) then v' (21 * b + (sg_pl a b v' k).2) else v' (21 * a + (sg_pl a b v' k).1))
  rw [← e, ← ha.2 _ h.1, ← hb.2 _ h.2]
theorem sg_M_mono {a b : Nat} {xa xb : Int32} {c c' : Nat → Nat} {v v' : Nat → Int32} {k : Nat} (L : sg_Le c v c' v') : ∀ kd, kd ≤ 8 → (sg_na kd = true → a < 6) → (sg_nb kd = true → b < 6) → sg_M kd a b c v k → sg_M kd a b c' v' k ∧ sg_F kd a b xa xb v k = sg_F kd a b xa xb v' k :=
  sg_9 (sg_M_mono0 L) (sg_M_mono1 L) (sg_M_mono2 L) (sg_M_mono3 L) (sg_M_mono4 L) (sg_M_mono5 L) (sg_M_mono6 L) (sg_M_mono7 L) (sg_M_mono8 L)
theorem sg_MM_mono {K A B : Nat → Int32} {c c' : Nat → Nat} {v v' : Nat → Int32} {s k : Nat} (ok : sg_Ok K A B) (L : sg_Le c v c' v') (hs : s < 6) (h : sg_MM K A B c v s k) : sg_MM K A B c' v' s k ∧ sg_FF K A B v s k = sg_FF K A B v' s k := by
  obtain ⟨h8, _, hA, hB⟩ := ok s hs
  exact sg_M_mono L _ h8 (fun z => (hA z).1) (fun z => (hB z).1) h
theorem sg_Le_step {c : Nat → Nat} {v : Nat → Int32} {s : Nat} {x : Int32} (h21 : ∀ s, s < 6 → c s ≤ 21) (hs : c s < 21) : sg_Le c v (sg_uN c s (c s + 1)) (upd v (21 * s + c s) x) := by
  intro j hj
  have hj21 := h21 j hj
  constructor
  · by_cases e : j = s
    · subst e; rw [sg_uN_s]; omega
    · rw [sg_uN_n e]; omega
  · intro k hk
    have ne : 21 * j + k ≠ 21 * s + c s := by
      intro e
      have : j = s := by omega
      subst this
      omega
    rw [pk_un ne]
/-- one step: the next element of s comes in -/
theorem sg_step {K A B : Nat → Int32} {c : Nat → Nat} {v : Nat → Int32} {s : Nat} (ok : sg_Ok K A B) (I : sg_Inv K A B c v) (hs : s < 6) (hc : c s < 21) (h : sg_MM K A B c v s (c s)) : sg_Inv K A B (sg_uN c s (c s + 1)) (upd v (21 * s + c s) (sg_FF K A B v s (c s))) := by
  obtain ⟨h21, hI, hL⟩ := I
  have L := sg_Le_step (v := v) (x := sg_FF K A B v s (c s)) h21 hc
  have old : ∀ j, j < 6 → ∀ k, k < c j → sg_MM K A B (sg_uN c s (c s + 1)) (upd v (21 * s + c s) (sg_FF K A B v s (c s))) j k ∧ upd v (21 * s + c s) (sg_FF K A B v s (c s)) (21 * j + k) = sg_FF K A B (upd v (21 * s + c s) (sg_FF K A B v s (c s))) j k := by
    intro j hj k hk
    have o := hI j hj k hk
    have m := sg_MM_mono ok L hj o.1
    exact ⟨m.1, by rw [← (L j hj).2 k hk, o.2, m.2]⟩
  refine ⟨?_, ?_, ?_⟩
  · intro j hj
    by_cases e : j = s
    · subst e; rw [sg_uN_s]; omega
    · rw [sg_uN_n e]; exact h21 j hj
  · intro j hj k hk
    by_cases e : j = s
    · subst e
      rw [sg_uN_s] at hk
      by_cases ek : k = c j
      · subst ek
        have m := sg_MM_mono ok L hj h
        exact ⟨m.1, by rw [pk_us]; exact m.2⟩
      · exact old j hj k (by omega)
    · rw [sg_uN_n e] at hk
      exact old j hj k hk
  · intro c' v' C
    have L' := hL c' v' C
    have m := sg_MM_mono ok L' hs h
    have lt : c s < c' s := by
      have le := (L' s hs).1
      apply Nat.lt_of_le_of_ne le
      intro e
      have no := C.2.2 s hs (by omega)
      rw [← e] at no
      exact no m.1
    intro j hj
    by_cases e : j = s
    · subst e
      rw [sg_uN_s]
      refine ⟨by omega, fun k hk => ?_⟩
      by_cases ek : k = c j
      · subst ek
        rw [pk_us, m.2, C.2.1 j hj _ lt]
      · rw [pk_un (by omega)]
        exact (L' j hj).2 k (by omega)
    · rw [sg_uN_n e]
      refine ⟨(L' j hj).1, fun k hk => ?_⟩
      have hj21 := h21 j hj
      rw [pk_un (by omega)]
      exact (L' j hj).2 k hk
theorem sg_Inv0 (K A B : Nat → Int32) (v : Nat → Int32) : sg_Inv K A B (fun _ => 0) v :=
  ⟨fun _ _ => Nat.zero_le _, fun _ _ _ h => absurd h (Nat.not_lt_zero _), fun _ _ _ _ _ => ⟨Nat.zero_le _, fun _ h => absurd h (Nat.not_lt_zero _)⟩⟩
/-- two pairs that are reached and closed are the same -/
theorem sg_same {K A B : Nat → Int32} {c c' : Nat → Nat} {v v' : Nat → Int32} (I : sg_Inv K A B c v) (S : sg_Sat K A B c v) (I' : sg_Inv K A B c' v') (S' : sg_Sat K A B c' v') : ∀ s, s < 6 → c' s = c s ∧ ∀ k, k < c s → v' (21 * s + k) = v (21 * s + k) := by
  intro s hs
  have L := I.2.2 c' v' ⟨I'.1, fun s hs k hk => (I'.2.1 s hs k hk).2, S'⟩ s hs
  have L' := I'.2.2 c v ⟨I.1, fun s hs k hk => (I.2.1 s hs k hk).2, S⟩ s hs
  exact ⟨by omega, fun k hk => (L.2 k hk).symm⟩
end
section
theorem sg_x_seq_t {post : Int32 → Prop} {s : Nat} (hs : s < 6) (h : post 1) : wpX_isSequence post (nI s) := by
  unfold wpX_isSequence
  exact br_f (nI_pos (by omega)) (br_f (nI_ge (b := 6) hs (by decide)) h)
theorem sg_x_seq_f {post : Int32 → Prop} {x : Int32} (hx : ¬ ∃ s, s < 6 ∧ x = nI s) (h : post 0) : wpX_isSequence post x := by
  unfold wpX_isSequence
  refine br_c (fun _ => h) (fun h0 => br_c (fun _ => h) (fun h6 => ?_))
  rcases pk_ix x (n := 6) (by decide) with z | z | z
  · exact absurd z h0
  · exact absurd z h6
  · exact absurd z hx
theorem sg_x_found {post : Int32 → Prop} {K A B R V F S : Nat → Int32} {s k c : Nat} (hs : s < 6) (hk : k < 2 ^ 31) (eR : R s = nI c) (hc : c ≤ 21) (h1 : k < c → post 1) (h0 : ¬ k < c → post 0) : wpX_isFound post (K, A, B, R, V, F, S) (nI s) (nI k) := by
  unfold wpX_isFound
  dsimp only
  refine sg_x_seq_t hs ?_
  refine br_f (by decide) (br_f (nI_pos hk) ⟨vp_in_nI hs (by decide), ?_⟩)
  rw [nI_clamp (show s < 2 ^ 31 by omega), eR]
  exact pk_le c k (fun z => h0 (by omega)) (fun z => h1 z)
theorem sg_ix (s k : Nat) : nI s * 21 + nI k = nI (21 * s + k) := by
  rw [show (21 : Int32) = nI 21 from rfl, pk_mul, nI_add, Nat.mul_comm]
theorem sg_iy (s k : Nat) : 21 * nI s + nI k = nI (21 * s + k) := by
  rw [show (21 : Int32) = nI 21 from rfl, pk_mul, nI_add]
theorem sg_x_val {post : Int32 → Prop} {K A B R V F S : Nat → Int32} {s k : Nat} (hs : s < 6) (hk : k < 21) (h : post (V (21 * s + k))) : wpX_valueOf post (K, A, B, R, V, F, S) (nI s) (nI k) := by
  unfold wpX_valueOf
  dsimp only
  rw [sg_ix, nI_clamp (show 21 * s + k < 2 ^ 31 by omega)]
  exact ⟨vp_in_nI (by omega) (by decide), h⟩
theorem sg_x_101 {post : Int32 → Prop} {K A B R V F S : Nat → Int32} {c : Nat → Nat} {a b k : Nat} (h21 : ∀ s, s < 6 → c s ≤ 21) (hR : ∀ s, s < 6 → R s = nI (c s)) (hk : k < 21) (ha : a < 6) (hb : b < 6) (h1 : k < c a ∧ k < c b → post 1) (h0 : ¬ (k < c a ∧ k < c b) → post 0) : wX_needsAreMet_101 post (nI k) (nI a) (nI b) K A B R V F S := by
  unfold wX_needsAreMet_101
  exact sg_x_found ha (by omega) (hR a ha) (h21 a ha) (fun z1 => br_f (by decide) (sg_x_found hb (by omega) (hR b hb) (h21 b hb) (fun z2 => br_f (by decide) (h1 ⟨z1, z2⟩)) (fun z2 => br_t rfl (h0 fun m => z2 m.2)))) (fun z1 => br_t rfl (h0 fun m => z1 m.1))
theorem sg_x_needs {post : Int32 → Prop} {K A B R V F S : Nat → Int32} {c : Nat → Nat} {s k kd a b : Nat} (h21 : ∀ s, s < 6 → c s ≤ 21) (hR : ∀ s, s < 6 → R s = nI (c s)) (hs : s < 6) (hk : k < 21) (hkd : kd ≤ 8) (eK : K s = nI kd) (hA : sg_na kd = true → a < 6 ∧ A s = nI a) (hB : sg_nb kd = true → b < 6 ∧ B s = nI b) (hP : kd = 8 → F s = nI (sg_pl a b V k).1 ∧ S s = nI (sg_pl a b V k).2) (h1 : sg_M kd a b c V k → post 1) (h0 : ¬ sg_M kd a b c V k → post 0) : wpX_needsAreMet post (K, A, B, R, V, F, S) (nI s) (nI k) := by
  unfold wpX_needsAreMet
  dsimp only
  rw [nI_clamp (show s < 2 ^ 31 by omega), eK]
  have hin : vp_in (nI s) 6 := vp_in_nI hs (by decide)
  refine ⟨hin, nm_e ⟨hin, nm_e ⟨hin, nm_e ?_⟩⟩⟩
  refine pk_lt kd 0 (fun z => absurd z (Nat.not_lt_zero _)) (fun _ => ?_)
  refine pk_lt 7 kd (fun z => ?_) (fun n8 => ?_)
  · have e : kd = 8 := by omega
    subst e
    obtain ⟨ha, eA⟩ := hA rfl
    obtain ⟨hb, eB⟩ := hB rfl
    obtain ⟨eF, eS⟩ := hP rfl
    have pl := sg_pl_le a b V k
    rw [eA, eB, eF, eS]
    exact ⟨hin, sg_x_found ha (by omega) (hR a ha) (h21 a ha) (fun z1 => br_f (by decide) ⟨hin, sg_x_found hb (by omega) (hR b hb) (h21 b hb) (fun z2 => br_f (by decide) (h1 ⟨z1, z2⟩)) (fun z2 => br_t rfl (h0 fun (m : _ ∧ _) => z2 m.2))⟩) (fun z1 => br_t rfl (h0 fun (m : _ ∧ _) => z1 m.1))⟩
  refine pk_eq kd 0 (fun z => ?_) (fun n0 => ?_)
  · subst z; exact h1 trivial
  refine pk_eq kd 1 (fun z => ?_) (fun n1 => ?_)
  · subst z
    obtain ⟨hb, eB⟩ := hB rfl
    rw [eB]
    refine pk_eq k 0 (fun z => h1 (Or.inl z)) (fun z => ?_)
    rw [show nI k - 1 = nI (k - 1) from pk_sub (b := 1) (by omega)]
    exact sg_x_found hb (by omega) (hR b hb) (h21 b hb) (fun z1 => br_f (by decide) (h1 (Or.inr z1))) (fun z1 => br_t rfl (h0 fun (m : _ ∨ _) => m.elim z z1))
  refine pk_eq kd 2 (fun z => ?_) (fun n2 => ?_)
  · subst z
    obtain ⟨ha, eA⟩ := hA rfl
    rw [eA, nI_1]
    exact sg_x_found ha (by omega) (hR a ha) (h21 a ha) (fun z1 => ⟨rfl, h1 z1⟩) (fun z1 => ⟨rfl, h0 z1⟩)
  refine pk_eq kd 3 (fun z => ?_) (fun n3 => ?_)
  · subst z
    obtain ⟨ha, eA⟩ := hA rfl
    obtain ⟨hb, eB⟩ := hB rfl
    rw [eA, eB]
    exact sg_x_101 h21 hR hk ha hb h1 h0
  refine pk_eq kd 4 (fun z => ?_) (fun n4 => ?_)
  · subst z
    obtain ⟨ha, eA⟩ := hA rfl
    obtain ⟨hb, eB⟩ := hB rfl
    rw [eA, eB]
    exact sg_x_101 h21 hR hk ha hb h1 h0
  refine pk_eq kd 5 (fun z => ?_) (fun n5 => ?_)
  · subst z
    obtain ⟨hb, eB⟩ := hB rfl
    rw [eB]
    exact sg_x_found hb (by omega) (hR b hb) (h21 b hb) (fun z1 => ⟨rfl, h1 z1⟩) (fun z1 => ⟨rfl, h0 z1⟩)
  refine pk_eq kd 6 (fun z => ?_) (fun n6 => ?_)
  · subst z
    obtain ⟨ha, eA⟩ := hA rfl
    rw [eA]
    exact sg_x_found ha (by omega) (hR a ha) (h21 a ha) (fun z1 => ⟨rfl, h1 z1⟩) (fun z1 => ⟨rfl, h0 z1⟩)
  refine pk_eq kd 7 (fun z => ?_) (fun _ => trivial)
  subst z
  obtain ⟨ha, eA⟩ := hA rfl
  obtain ⟨hb, eB⟩ := hB rfl
  rw [eA, eB, show nI k - nI k / 2 * 2 = nI (k % 2) from pk_rem (d := 2) (by omega) (by omega) (by omega), show nI k / 2 = nI (k / 2) from pk_div (d := 2) (by omega) (by omega) (by omega)]
  refine ⟨by decide, pk_eq (k % 2) 0 (fun z => ⟨by decide, ?_⟩) (fun z => ⟨by decide, ?_⟩)⟩
  · exact sg_x_found ha (by omega) (hR a ha) (h21 a ha) (fun z1 => ⟨rfl, h1 ⟨fun _ => z1, fun y => absurd z y⟩⟩) (fun z1 => ⟨rfl, h0 fun (m : _ ∧ _) => z1 (m.1 z)⟩)
  · exact sg_x_found hb (by omega) (hR b hb) (h21 b hb) (fun z1 => ⟨rfl, h1 ⟨fun y => absurd y z, fun _ => z1⟩⟩) (fun z1 => ⟨rfl, h0 fun (m : _ ∧ _) => z1 (m.2 z)⟩)
theorem sg_x_next {post : Int32 → Prop} {K A B R V F S : Nat → Int32} {c : Nat → Nat} {s k kd a b : Nat} (h21 : ∀ s, s < 6 → c s ≤ 21) (hs : s < 6) (hk : k < 21) (hkd : kd ≤ 8) (eK : K s = nI kd) (hA : sg_na kd = true → a < 6 ∧ A s = nI a) (hB : sg_nb kd = true → b < 6 ∧ B s = nI b) (hP : kd = 8 → F s = nI (sg_pl a b V k).1 ∧ S s = nI (sg_pl a b V k).2) (hsc : kd = 6 → k ≠ 0 → V (21 * s + (k - 1)) = sg_sum a V k) (m : sg_M kd a b c V k) (h : post (sg_F kd a b (A s) (B s) V k)) : wpX_nextValue post (K, A, B, R, V, F, S) (nI s) (nI k) := by
  unfold wpX_nextValue
  dsimp only
  rw [nI_clamp (show s < 2 ^ 31 by omega), eK]
  have hin : vp_in (nI s) 6 := vp_in_nI hs (by decide)
  refine ⟨hin, nm_e ⟨hin, nm_e ⟨hin, nm_e ?_⟩⟩⟩
  refine pk_lt kd 0 (fun z => absurd z (Nat.not_lt_zero _)) (fun _ => ?_)
  refine pk_lt 7 kd (fun z => ?_) (fun n8 => ?_)
  · have e : kd = 8 := by omega
    subst e
    obtain ⟨ha, eA⟩ := hA rfl
    obtain ⟨hb, eB⟩ := hB rfl
    obtain ⟨eF, eS⟩ := hP rfl
    have pl := sg_pl_le a b V k
    rw [eA, eB, eF, eS]
    have h : post (if V (21 * b + (sg_pl a b V k).2) ≤ V (21 * a + (sg_pl a b V k).1) then V (21 * b + (sg_pl a b V k).2) else V (21 * a + (sg_pl a b V k).1)) := h
    refine ⟨hin, sg_x_val ha (by omega) ⟨hin, sg_x_val hb (by omega) (br_c (fun z => ?_) (fun z => ?_))⟩⟩
    · rw [if_pos z] at h; exact h
    · rw [if_neg z] at h; exact h
  refine pk_eq kd 0 (fun z => ?_) (fun n0 => ?_)
  · subst z; exact h
  refine pk_eq kd 1 (fun z => ?_) (fun n1 => ?_)
  · subst z
    obtain ⟨hb, eB⟩ := hB rfl
    have h : post (if k = 0 then A s else V (21 * b + (k - 1))) := h
    rw [eB]
    refine pk_eq k 0 (fun z => ?_) (fun z => ?_)
    · rw [if_pos z] at h; exact h
    · rw [if_neg z] at h
      rw [show nI k - 1 = nI (k - 1) from pk_sub (b := 1) (by omega)]
      exact sg_x_val hb (by omega) h
  refine pk_eq kd 2 (fun z => ?_) (fun n2 => ?_)
  · subst z
    obtain ⟨ha, eA⟩ := hA rfl
    have m : k + 1 < c a := m
    have := h21 a ha
    rw [eA, nI_1]
    exact sg_x_val ha (by omega) h
  refine pk_eq kd 3 (fun z => ?_) (fun n3 => ?_)
  · subst z
    obtain ⟨ha, eA⟩ := hA rfl
    obtain ⟨hb, eB⟩ := hB rfl
    rw [eA, eB]
    exact sg_x_val ha hk (sg_x_val hb hk h)
  refine pk_eq kd 4 (fun z => ?_) (fun n4 => ?_)
  · subst z
    obtain ⟨ha, eA⟩ := hA rfl
    obtain ⟨hb, eB⟩ := hB rfl
    rw [eA, eB]
    exact sg_x_val ha hk (sg_x_val hb hk h)
  refine pk_eq kd 5 (fun z => ?_) (fun n5 => ?_)
  · subst z
    obtain ⟨hb, eB⟩ := hB rfl
    rw [eB]
    exact sg_x_val hb hk h
  refine pk_eq kd 6 (fun z => ?_) (fun n6 => ?_)
  · subst z
    obtain ⟨ha, eA⟩ := hA rfl
    have h : post (sg_sum a V k + V (21 * a + k)) := h
    rw [eA]
    refine pk_eq k 0 (fun z => ?_) (fun z => ?_)
    · subst z
      have h : post (0 + V (21 * a + 0)) := h
      rw [Int32.zero_add] at h
      exact sg_x_val (k := 0) ha (by omega) h
    · rw [show nI k - 1 = nI (k - 1) from pk_sub (b := 1) (by omega)]
      rw [← hsc rfl z] at h
      exact sg_x_val hs (by omega) (sg_x_val ha hk h)
  refine pk_eq kd 7 (fun z => ?_) (fun _ => trivial)
  subst z
  obtain ⟨ha, eA⟩ := hA rfl
  obtain ⟨hb, eB⟩ := hB rfl
  have h : post (if k % 2 = 0 then V (21 * a + k / 2) else V (21 * b + k / 2)) := h
  rw [eA, eB, show nI k - nI k / 2 * 2 = nI (k % 2) from pk_rem (d := 2) (by omega) (by omega) (by omega), show nI k / 2 = nI (k / 2) from pk_div (d := 2) (by omega) (by omega) (by omega)]
  refine ⟨by decide, pk_eq (k % 2) 0 (fun z => ⟨by decide, ?_⟩) (fun z => ⟨by decide, ?_⟩)⟩
  · rw [if_pos z] at h; exact sg_x_val ha (by omega) h
  · rw [if_neg z] at h; exact sg_x_val hb (by omega) h
theorem sg_st_t {x y : Int32} {i : Nat} (z : y < x) : nI i = nI (sg_st x y i) := congrArg nI (if_pos z).symm
theorem sg_st_f {x y : Int32} {i : Nat} (z : ¬ y < x) : nI i + 1 = nI (sg_st x y i) := (nI_1 i).trans (congrArg nI (if_neg z).symm)
theorem sg_x_49 {post : SX → Prop} {K A B R V F S : Nat → Int32} {s j : Nat} {x y : Int32} (hs : s < 6) (eS : S s = nI j) (h : ∀ S' : Nat → Int32, S' s = nI (sg_st y x j) → (∀ t, t ≠ s → S' t = S t) → post (K, A, B, R, V, F, S')) : wX_moveMergePlaces_49 post (nI s) x y K A B R V F S := by
  unfold wX_moveMergePlaces_49
  rw [nI_clamp (show s < 2 ^ 31 by omega), eS]
  have hin : vp_in (nI s) 6 := vp_in_nI hs (by decide)
  exact br_c (fun w => h S (eS.trans (sg_st_t w)) (fun _ _ => rfl)) (fun w => ⟨hin, hin, nm_e (h _ (pk_us.trans (sg_st_f w)) (fun _ ht => pk_un ht))⟩)
theorem sg_x_move {post : SX → Prop} {K A B R V F S : Nat → Int32} {s a b i j : Nat} (hs : s < 6) (ha : a < 6) (hb : b < 6) (hi : i < 21) (hj : j < 21) (eA : A s = nI a) (eB : B s = nI b) (eF : F s = nI i) (eS : S s = nI j) (h : ∀ F' S' : Nat → Int32, F' s = nI (sg_st (V (21 * a + i)) (V (21 * b + j)) i) → S' s = nI (sg_st (V (21 * b + j)) (V (21 * a + i)) j) → (∀ t, t ≠ s → F' t = F t ∧ S' t = S t) → post (K, A, B, R, V, F', S')) : wpX_moveMergePlaces post (K, A, B, R, V, F, S) (nI s) := by
  unfold wpX_moveMergePlaces
  dsimp only
  rw [nI_clamp (show s < 2 ^ 31 by omega), eA, eB, eF, eS]
  have hin : vp_in (nI s) 6 := vp_in_nI hs (by decide)
  refine ⟨hin, hin, sg_x_val ha hi ⟨hin, hin, sg_x_val hb hj ?_⟩⟩
  refine br_c (fun z => ?_) (fun z => ⟨hin, hin, nm_e ?_⟩)
  · exact sg_x_49 hs eS (fun S' e r => h F S' (eF.trans (sg_st_t z)) e (fun t ht => ⟨rfl, r t ht⟩))
  · exact sg_x_49 hs eS (fun S' e r => h _ S' (pk_us.trans (sg_st_f z)) e (fun t ht => ⟨pk_un ht, r t ht⟩))
/-- what the component's arrays say of the counts -/
def sg_XI (K A B : Nat → Int32) (c : Nat → Nat) (V R F S : Nat → Int32) : Prop := (∀ s, s < 6 → R s = nI (c s)) ∧ (∀ s, s < 6 → (K s).toNatClampNeg = 8 → F s = nI (sg_pl (A s).toNatClampNeg (B s).toNatClampNeg V (c s)).1 ∧ S s = nI (sg_pl (A s).toNatClampNeg (B s).toNatClampNeg V (c s)).2)
theorem sg_pl_keep {K A B : Nat → Int32} {c c' : Nat → Nat} {V V' : Nat → Int32} {s : Nat} (ok : sg_Ok K A B) (I : sg_Inv K A B c V) (L : sg_Le c V c' V') (hs : s < 6) (e8 : (K s).toNatClampNeg = 8) : sg_pl (A s).toNatClampNeg (B s).toNatClampNeg V (c s) = sg_pl (A s).toNatClampNeg (B s).toNatClampNeg V' (c s) := by
  obtain ⟨_, _, hA, hB⟩ := ok s hs
  rw [e8] at hA hB
  refine sg_pl_mono (hA rfl).1 (hB rfl).1 L (c s) (fun t ht => ?_)
  have m := (I.2.1 s hs t ht).1
  unfold sg_MM at m
  rw [e8] at m
  exact m
theorem sg_XI_step {K A B : Nat → Int32} {c : Nat → Nat} {V R F S F' S' : Nat → Int32} {s : Nat} {x : Int32} (ok : sg_Ok K A B) (I : sg_Inv K A B c V) (X : sg_XI K A B c V R F S) (hc : c s < 21) (hF : (K s).toNatClampNeg = 8 → F' s = nI (sg_pl (A s).toNatClampNeg (B s).toNatClampNeg (upd V (21 * s + c s) x) (c s + 1)).1 ∧ S' s = nI (sg_pl (A s).toNatClampNeg (B s).toNatClampNeg (upd V (21 * s + c s) x) (c s + 1)).2) (hr : ∀ t, t ≠ s → F' t = F t ∧ S' t = S t) : sg_XI K A B (sg_uN c s (c s + 1)) (upd V (21 * s + c s) x) (upd R s (nI (c s) + 1)) F' S' := by
  have L := sg_Le_step (v := V) (x := x) I.1 hc
  constructor
  · intro t ht
    by_cases e : t = s
    · subst e; rw [sg_uN_s, pk_us, nI_1]
    · rw [sg_uN_n e, pk_un e]; exact X.1 t ht
  · intro t ht e8
    by_cases e : t = s
    · subst e; rw [sg_uN_s]; exact hF e8
    · rw [sg_uN_n e, (hr t e).1, (hr t e).2, ← sg_pl_keep ok I L ht e8]
      exact X.2 t ht e8
theorem sg_x_extend {post : Int32 → SX → Prop} {K A B R V F S : Nat → Int32} {c : Nat → Nat} {s : Nat} (ok : sg_Ok K A B) (I : sg_Inv K A B c V) (X : sg_XI K A B c V R F S) (hs : s < 6) (h0 : (c s < 21 → ¬ sg_MM K A B c V s (c s)) → post 0 (K, A, B, R, V, F, S)) (h1 : ∀ R' V' F' S' : Nat → Int32, sg_Inv K A B (sg_uN c s (c s + 1)) V' → sg_XI K A B (sg_uN c s (c s + 1)) V' R' F' S' → post 1 (K, A, B, R', V', F', S')) : wpX_extend post (K, A, B, R, V, F, S) (nI s) := by
  obtain ⟨hkd, eK, hA, hB⟩ := ok s hs
  have c21 := I.1 s hs
  have hin : vp_in (nI s) 6 := vp_in_nI hs (by decide)
  unfold wpX_extend
  dsimp only
  rw [nI_clamp (show s < 2 ^ 31 by omega), X.1 s hs]
  refine ⟨hin, nm_e ?_⟩
  refine pk_le 21 (c s) (fun z => h0 (fun w => by omega)) (fun z => ?_)
  refine sg_x_needs (c := c) I.1 X.1 hs z hkd eK hA hB (X.2 s hs) (fun m => ?_) (fun m => br_t rfl (h0 fun _ => m))
  refine br_f (by decide) ?_
  refine sg_x_next (c := c) I.1 hs z hkd eK hA hB (X.2 s hs) (fun e6 z0 => ?_) m ?_
  · have o := (I.2.1 s hs (c s - 1) (by omega)).2
    unfold sg_FF at o
    rw [e6] at o
    rw [o]
    show sg_sum _ _ (c s - 1 + 1) = _
    rw [Nat.sub_add_cancel (by omega)]
  · rw [sg_ix, nI_clamp (show 21 * s + c s < 2 ^ 31 by omega)]
    refine ⟨vp_in_nI (by omega) (by decide), nm_e ⟨hin, ?_⟩⟩
    have I2 := sg_step ok I hs z m
    have L := sg_Le_step (v := V) (x := sg_FF K A B V s (c s)) I.1 z
    refine pk_eq (K s).toNatClampNeg 8 (hx := eK) (fun e8 => ?_) (fun n8 => ?_)
    · have e0 := sg_pl_keep ok I L hs e8
      have P := X.2 s hs e8
      rw [e0] at P
      have q := sg_pl_le (A s).toNatClampNeg (B s).toNatClampNeg (upd V (21 * s + c s) (sg_FF K A B V s (c s))) (c s)
      rw [e8] at hA hB
      refine sg_x_move hs (hA rfl).1 (hB rfl).1 (Nat.lt_of_le_of_lt q.1 z) (Nat.lt_of_le_of_lt q.2 z) (hA rfl).2 (hB rfl).2 P.1 P.2 (fun F' S' eF eS r => ?_)
      dsimp only
      unfold wX_extend_57
      rw [nI_clamp (show s < 2 ^ 31 by omega)]
      exact ⟨hin, nm_e (h1 _ _ _ _ I2 (sg_XI_step ok I X z (fun _ => ⟨eF, eS⟩) r))⟩
    · unfold wX_extend_57
      rw [nI_clamp (show s < 2 ^ 31 by omega)]
      exact ⟨hin, nm_e (h1 _ _ _ _ I2 (sg_XI_step ok I X z (fun e => absurd e n8) (fun _ _ => ⟨rfl, rfl⟩)))⟩
end
section
theorem sg_x_53 {post : SX → Prop} {J : Int32 → Int32 → (Nat → Int32) → (Nat → Int32) → (Nat → Int32) → (Nat → Int32) → (Nat → Int32) → (Nat → Int32) → (Nat → Int32) → Prop} {x2 : Int32} {K A B : Nat → Int32} (ok : sg_Ok K A B) (t0 : Nat) (hJ : ∀ (g : Int32) (c : Nat → Nat) (V R F S : Nat → Int32), sg_Inv K A B c V → sg_XI K A B c V R F S → ((g = 0 ∧ sg_Sat K A B c V) ∨ (g = 1 ∧ t0 < sg_tot c)) → J g (x2 + 1) K A B R V F S) : ∀ d s, s + d = 6 → ∀ (g : Int32) (c : Nat → Nat) (V R F S : Nat → Int32), sg_Inv K A B c V → sg_XI K A B c V R F S → t0 ≤ sg_tot c → ((g = 0 ∧ ∀ j, j < s → c j < 21 → ¬ sg_MM K A B c V j (c j)) ∨ (g = 1 ∧ t0 < sg_tot c)) → wX_evaluate_53 post J x2 (d + 1) g (nI s) K A B R V F S := by
  intro d
  induction d with
  | zero =>
    intro s hs g c V R F S I X ht hg
    have e : s = 6 := by omega
    subst e
    exact br_t (nI_le (a := 6) (b := 6) (by omega) (by omega)) (nm_e (hJ g c V R F S I X hg))
  | succ d ih =>
    intro s hs g c V R F S I X ht hg
    have hs6 : s < 6 := by omega
    refine br_f (nI_ge (b := 6) hs6 (by omega)) ?_
    refine sg_x_extend ok I X hs6 (fun no => ?_) (fun R' V' F' S' I2 X2 => ?_)
    · refine br_t rfl (nm_r (nI_1 s) (ih (s + 1) (by omega) g c V R F S I X ht ?_))
      refine hg.elim (fun w => Or.inl ⟨w.1, fun j hj => ?_⟩) Or.inr
      by_cases e : j = s
      · subst e; exact no
      · exact w.2 j (by omega)
    · have t := sg_tot_up c s hs6
      exact br_f (by decide) (nm_r (nI_1 s) (ih (s + 1) (by omega) 1 _ V' R' F' S' I2 X2 (by omega) (Or.inr ⟨rfl, by omega⟩)))
theorem sg_x_39 {post : SX → Prop} {K A B : Nat → Int32} (ok : sg_Ok K A B) (hp : ∀ (c : Nat → Nat) (V R F S : Nat → Int32), sg_Inv K A B c V → sg_XI K A B c V R F S → sg_Sat K A B c V → post (K, A, B, R, V, F, S)) : ∀ d r, r + d = 127 → ∀ (g : Int32) (c : Nat → Nat) (V R F S : Nat → Int32), sg_Inv K A B c V → sg_XI K A B c V R F S → ((g = 0 ∧ sg_Sat K A B c V) ∨ (g = 1 ∧ r ≤ sg_tot c)) → wX_evaluate_39 post (d + 1) g (nI r) K A B R V F S := by
  intro d
  induction d with
  | zero =>
    intro r hr g c V R F S I X hg
    have e : r = 127 := by omega
    subst e
    refine br_t (nI_lt (a := 126) (b := 127) (by omega) (by omega)) (hp c V R F S I X ?_)
    have t := sg_tot_le I.1
    exact hg.elim (fun w => w.2) (fun w => absurd w.2 (by omega))
  | succ d ih =>
    intro r hr g c V R F S I X hg
    refine br_f (nI_nlt (b := r) (a := 126) (by omega) (by omega)) ?_
    rcases hg with ⟨rfl, sat⟩ | ⟨rfl, ht⟩
    · exact br_t rfl (hp c V R F S I X sat)
    · refine br_f (by decide) ⟨7, ?_⟩
      refine sg_x_53 ok r (fun g c V R F S I X hg => ?_) 6 0 rfl 0 c V R F S I X ht (Or.inl ⟨rfl, fun j hj => absurd hj (Nat.not_lt_zero _)⟩)
      rw [nI_1]
      exact ih (r + 1) (by omega) g c V R F S I X hg
theorem sg_x_2 {post : SX → Prop} {K A B V : Nat → Int32} (ok : sg_Ok K A B) (hp : ∀ (c : Nat → Nat) (V R F S : Nat → Int32), sg_Inv K A B c V → sg_XI K A B c V R F S → sg_Sat K A B c V → post (K, A, B, R, V, F, S)) : ∀ d s, s + d = 6 → ∀ R F S : Nat → Int32, (∀ j, j < s → R j = 0 ∧ F j = 0 ∧ S j = 0) → wX_evaluate_2 post (d + 1) (nI s) K A B R V F S := by
  intro d
  induction d with
  | zero =>
    intro s hs R F S h
    have e : s = 6 := by omega
    subst e
    refine br_t (nI_le (a := 6) (b := 6) (by omega) (by omega)) ⟨128, ?_⟩
    refine sg_x_39 ok hp 127 0 rfl 1 (fun _ => 0) V R F S (sg_Inv0 K A B V) ⟨fun j hj => (h j hj).1, fun j hj _ => ⟨(h j hj).2.1, (h j hj).2.2⟩⟩ (Or.inr ⟨rfl, Nat.zero_le _⟩)
  | succ d ih =>
    intro s hs R F S h
    have hs6 : s < 6 := by omega
    have hin : vp_in (nI s) 6 := vp_in_nI hs6 (by decide)
    refine br_f (nI_ge (b := 6) hs6 (by omega)) ⟨hin, nm_e ⟨hin, nm_e ⟨hin, nm_e (nm_r (nI_1 s) (ih (s + 1) (by omega) _ _ _ ?_))⟩⟩⟩
    rw [nI_clamp (show s < 2 ^ 31 by omega)]
    intro j hj
    by_cases e : j = s
    · subst e; exact ⟨pk_us, pk_us, pk_us⟩
    · rw [pk_un e, pk_un e, pk_un e]; exact h j (by omega)
/-- the class's evaluation: from any state with sound definitions it ends in the pair that is reached and closed -/
theorem sg_x_eval {post : SX → Prop} {K A B R V F S : Nat → Int32} (ok : sg_Ok K A B) (hp : ∀ (c : Nat → Nat) (V R F S : Nat → Int32), sg_Inv K A B c V → sg_Sat K A B c V → (∀ s, s < 6 → R s = nI (c s)) → post (K, A, B, R, V, F, S)) : wpX_evaluate post (K, A, B, R, V, F, S) := by
  unfold wpX_evaluate
  exact ⟨7, sg_x_2 ok (fun c V R F S I X sat => hp c V R F S I sat X.1) 6 0 rfl R F S (fun j hj => absurd hj (Nat.not_lt_zero _))⟩
/-- the first n cells of f are 0 -/
def sg_z (n : Nat) (f : Nat → Int32) : Nat → Int32 := fun j => if j < n then 0 else f j
theorem sg_z_0 (f : Nat → Int32) : sg_z 0 f = f := by
  funext j; exact if_neg (Nat.not_lt_zero _)
theorem sg_z_up (n : Nat) (f : Nat → Int32) : upd (sg_z n f) n 0 = sg_z (n + 1) f := by
  funext j
  unfold upd sg_z
  by_cases e : j = n
  · rw [if_pos e, if_pos (by omega)]
  · rw [if_neg e]
    by_cases l : j < n
    · rw [if_pos l, if_pos (by omega)]
    · rw [if_neg l, if_neg (by omega)]
theorem sg_z_lt {n j : Nat} {f : Nat → Int32} (h : j < n) : sg_z n f j = 0 := if_pos h
theorem sg_z_6 : sg_z 6 (fun _ => 0) = fun _ => 0 := by
  funext j; unfold sg_z; split <;> rfl
theorem sg_z_ok (K A B : Nat → Int32) : sg_Ok (sg_z 6 K) (sg_z 6 A) (sg_z 6 B) := by
  intro s hs
  rw [sg_z_lt hs, sg_z_lt hs, sg_z_lt hs]
  refine ⟨by decide, by decide, fun h => absurd h (by decide), fun h => absurd h (by decide)⟩
theorem sg_x_zero {post : SX → Prop} {K A B R V F S : Nat → Int32} (hp : post (sg_z 6 K, sg_z 6 A, sg_z 6 B, R, V, F, S)) : ∀ d s, s + d = 6 → wX_defineAllAsZeros_2 post (d + 1) (nI s) (sg_z s K) (sg_z s A) (sg_z s B) R V F S := by
  intro d
  induction d with
  | zero =>
    intro s hs
    have e : s = 6 := by omega
    subst e
    exact br_t (nI_le (a := 6) (b := 6) (by omega) (by omega)) hp
  | succ d ih =>
    intro s hs
    have hs6 : s < 6 := by omega
    have hin : vp_in (nI s) 6 := vp_in_nI hs6 (by decide)
    have ec := nI_clamp (show s < 2 ^ 31 by omega)
    refine br_f (nI_ge (b := 6) hs6 (by omega)) ⟨hin, nm_e ⟨hin, nm_e ⟨hin, nm_e (nm_r (nI_1 s) ?_)⟩⟩⟩
    rw [ec, sg_z_up, sg_z_up, sg_z_up]
    exact ih (s + 1) (by omega)
theorem sg_x_zeros {post : SX → Prop} {K A B R V F S : Nat → Int32} (hp : post (sg_z 6 K, sg_z 6 A, sg_z 6 B, R, V, F, S)) : wpX_defineAllAsZeros post (K, A, B, R, V, F, S) := by
  unfold wpX_defineAllAsZeros
  have h := sg_x_zero hp 6 0 rfl
  rw [sg_z_0, sg_z_0, sg_z_0] at h
  exact ⟨7, h⟩
end
section
/-- what the reference's marks say of the counts -/
def sg_YI (c : Nat → Nat) (H : Nat → Int32) : Prop := ∀ s, s < 6 → ∀ k, k < 21 → H (21 * s + k) = if k < c s then 1 else 0
theorem sg_y_has {post : Int32 → Prop} {pa pb : Int32} {K A B H V : Nat → Int32} {c : Nat → Nat} {s k : Nat} (h21 : ∀ s, s < 6 → c s ≤ 21) (Y : sg_YI c H) (hs : s < 6) (hk : k < 2 ^ 31) (h1 : k < c s → post 1) (h0 : ¬ k < c s → post 0) : wpY_hasAt post (pa, pb, K, A, B, H, V) (nI s) (nI k) := by
  have c21 := h21 s hs
  unfold wpY_hasAt
  dsimp only
  refine br_f (nI_pos hk) (pk_lt 20 k (fun z => h0 (by omega)) (fun z => ?_))
  rw [sg_iy, nI_clamp (show 21 * s + k < 2 ^ 31 by omega), Y s hs k (by omega)]
  refine ⟨vp_in_nI (by omega) (by decide), ?_⟩
  by_cases l : k < c s
  · rw [if_pos l]; exact br_f (by decide) (h1 l)
  · rw [if_neg l]; exact br_t rfl (h0 l)
theorem sg_y_at {post : Int32 → Prop} {pa pb : Int32} {K A B H V : Nat → Int32} {s k : Nat} (hs : s < 6) (hk : k < 21) (h : post (V (21 * s + k))) : wpY_at post (pa, pb, K, A, B, H, V) (nI s) (nI k) := by
  unfold wpY_at
  dsimp only
  rw [sg_iy, nI_clamp (show 21 * s + k < 2 ^ 31 by omega)]
  exact ⟨vp_in_nI (by omega) (by decide), h⟩
theorem sg_y_66 {post : SY → Prop} {J : Int32 → Int32 → Int32 → Prop} {x1 x2 x y pa : Int32} {K A B H V : Nat → Int32} {t j : Nat} (h : J (nI (t + 1)) pa (nI (sg_st y x j))) : wY_walk_66 post J x1 x2 (nI t) x y pa (nI j) K A B H V := by
  unfold wY_walk_66
  refine br_c (fun w => nm_r (nI_1 t) ?_) (fun w => nm_r (sg_st_f w) (nm_r (nI_1 t) h))
  rw [sg_st_t (i := j) w]
  exact h
theorem sg_y_w12 {post : SY → Prop} {K A B H V : Nat → Int32} {s a b k : Nat} (hs : s < 6) (ha : a < 6) (hb : b < 6) (hk : k < 21) (eA : A s = nI a) (eB : B s = nI b) (hp : post (nI (sg_pl a b V k).1, nI (sg_pl a b V k).2, K, A, B, H, V)) : ∀ d t, t + d = k → wY_walk_12 post (nI s) (nI k) K A B H V (d + 1) (nI t) (nI (sg_pl a b V t).1) (nI (sg_pl a b V t).2) := by
  intro d
  induction d with
  | zero =>
    intro t ht
    have e : t = k := by omega
    subst e
    exact br_t (nI_le (a := t) (b := t) (by omega) (by omega)) hp
  | succ d ih =>
    intro t ht
    have hin : vp_in (nI s) 6 := vp_in_nI hs (by decide)
    have ec := nI_clamp (show s < 2 ^ 31 by omega)
    have q := sg_pl_le a b V t
    refine br_f (nI_ge (b := k) (a := t) (by omega) (by omega)) ⟨hin, ?_⟩
    rw [ec, eA, eB]
    refine sg_y_at ha (by omega) ⟨hin, sg_y_at hb (by omega) (br_c (fun z => ?_) (fun z => nm_r (sg_st_f z) ?_))⟩
    · refine sg_y_66 ?_
      have i := ih (t + 1) (by omega)
      rw [show nI (sg_pl a b V (t + 1)).1 = nI (sg_pl a b V t).1 from (sg_st_t z).symm] at i
      exact i
    · exact sg_y_66 (ih (t + 1) (by omega))
theorem sg_y_walk {post : SY → Prop} {pa pb : Int32} {K A B H V : Nat → Int32} {s a b k : Nat} (hs : s < 6) (ha : a < 6) (hb : b < 6) (hk : k < 21) (eA : A s = nI a) (eB : B s = nI b) (hp : post (nI (sg_pl a b V k).1, nI (sg_pl a b V k).2, K, A, B, H, V)) : wpY_walk post (pa, pb, K, A, B, H, V) (nI s) (nI k) := by
  unfold wpY_walk
  exact ⟨k + 1, sg_y_w12 hs ha hb hk eA eB hp k 0 (by omega)⟩
theorem sg_y_108 {post : Int32 → SY → Prop} {pa pb : Int32} {K A B H V : Nat → Int32} {c : Nat → Nat} {s k a b : Nat} (h21 : ∀ s, s < 6 → c s ≤ 21) (Y : sg_YI c H) (hs : s < 6) (hk : k < 21) (ha : a < 6) (hb : b < 6) (eA : A s = nI a) (eB : B s = nI b) (h1 : k < c a ∧ k < c b → post 1 (pa, pb, K, A, B, H, V)) (h0 : ¬ (k < c a ∧ k < c b) → post 0 (pa, pb, K, A, B, H, V)) : wY_needsMet_108 post (nI s) (nI k) pa pb K A B H V := by
  unfold wY_needsMet_108
  have hin : vp_in (nI s) 6 := vp_in_nI hs (by decide)
  rw [nI_clamp (show s < 2 ^ 31 by omega), eA, eB]
  exact ⟨hin, sg_y_has h21 Y ha (by omega) (fun z1 => br_f (by decide) ⟨hin, sg_y_has h21 Y hb (by omega) (fun z2 => br_f (by decide) (h1 ⟨z1, z2⟩)) (fun z2 => br_t rfl (h0 fun m => z2 m.2))⟩) (fun z1 => br_t rfl (h0 fun m => z1 m.1))⟩
theorem sg_y_17 {post : Int32 → SY → Prop} {pa pb : Int32} {K A B H V : Nat → Int32} {c : Nat → Nat} {s k kd a b : Nat} (h21 : ∀ s, s < 6 → c s ≤ 21) (Y : sg_YI c H) (hs : s < 6) (hk : k < 21) (hkd : kd ≤ 8) (eK : K s = nI kd) (hA : sg_na kd = true → a < 6 ∧ A s = nI a) (hB : sg_nb kd = true → b < 6 ∧ B s = nI b) (h1 : sg_M kd a b c V k → ∀ pa pb, post 1 (pa, pb, K, A, B, H, V)) (h0 : ¬ sg_M kd a b c V k → ∀ pa pb, post 0 (pa, pb, K, A, B, H, V)) : wY_needsMet_17 post (nI s) (nI k) pa pb K A B H V := by
  unfold wY_needsMet_17
  have hin : vp_in (nI s) 6 := vp_in_nI hs (by decide)
  have ec := nI_clamp (show s < 2 ^ 31 by omega)
  rw [ec, eK]
  refine ⟨hin, pk_eq kd 0 (fun z => ?_) (fun n0 => ⟨hin, ?_⟩)⟩
  · subst z; exact h1 trivial _ _
  refine pk_eq kd 1 (fun z => ?_) (fun n1 => ⟨hin, ?_⟩)
  · subst z
    obtain ⟨hb, eB⟩ := hB rfl
    rw [eB]
    refine pk_eq k 0 (fun z => h1 (Or.inl z) _ _) (fun z => ⟨hin, ?_⟩)
    rw [show nI k - 1 = nI (k - 1) from pk_sub (b := 1) (by omega)]
    exact sg_y_has h21 Y hb (by omega) (fun z1 => br_f (by decide) (h1 (Or.inr z1) _ _)) (fun z1 => br_t rfl (h0 (fun (m : _ ∨ _) => m.elim z z1) _ _))
  refine pk_eq kd 2 (fun z => ⟨hin, ?_⟩) (fun n2 => ⟨hin, ?_⟩)
  · subst z
    obtain ⟨ha, eA⟩ := hA rfl
    rw [eA, nI_1]
    exact sg_y_has h21 Y ha (by omega) (fun z1 => ⟨rfl, h1 z1 _ _⟩) (fun z1 => ⟨rfl, h0 z1 _ _⟩)
  refine pk_eq kd 3 (fun z => ?_) (fun n3 => ⟨hin, ?_⟩)
  · subst z
    obtain ⟨ha, eA⟩ := hA rfl
    obtain ⟨hb, eB⟩ := hB rfl
    exact sg_y_108 h21 Y hs hk ha hb eA eB (fun m => h1 m _ _) (fun m => h0 m _ _)
  refine pk_eq kd 4 (fun z => ?_) (fun n4 => ⟨hin, ?_⟩)
  · subst z
    obtain ⟨ha, eA⟩ := hA rfl
    obtain ⟨hb, eB⟩ := hB rfl
    exact sg_y_108 h21 Y hs hk ha hb eA eB (fun m => h1 m _ _) (fun m => h0 m _ _)
  refine pk_eq kd 5 (fun z => ⟨hin, ?_⟩) (fun n5 => ⟨hin, ?_⟩)
  · subst z
    obtain ⟨hb, eB⟩ := hB rfl
    rw [eB]
    exact sg_y_has h21 Y hb (by omega) (fun z1 => ⟨rfl, h1 z1 _ _⟩) (fun z1 => ⟨rfl, h0 z1 _ _⟩)
  refine pk_eq kd 6 (fun z => ⟨hin, ?_⟩) (fun n6 => ⟨hin, ?_⟩)
  · subst z
    obtain ⟨ha, eA⟩ := hA rfl
    rw [eA]
    exact sg_y_has h21 Y ha (by omega) (fun z1 => ⟨rfl, h1 z1 _ _⟩) (fun z1 => ⟨rfl, h0 z1 _ _⟩)
  refine pk_eq kd 7 (fun z => ?_) (fun n7 => ?_)
  · subst z
    obtain ⟨ha, eA⟩ := hA rfl
    obtain ⟨hb, eB⟩ := hB rfl
    rw [eA, eB, show nI k - nI k / 2 * 2 = nI (k % 2) from pk_rem (d := 2) (by omega) (by omega) (by omega), show nI k / 2 = nI (k / 2) from pk_div (d := 2) (by omega) (by omega) (by omega)]
    refine ⟨by decide, pk_eq (k % 2) 0 (fun z => ⟨hin, by decide, ?_⟩) (fun z => ⟨hin, by decide, ?_⟩)⟩
    · exact sg_y_has h21 Y ha (by omega) (fun z1 => ⟨rfl, h1 ⟨fun _ => z1, fun y => absurd z y⟩ _ _⟩) (fun z1 => ⟨rfl, h0 (fun (m : _ ∧ _) => z1 (m.1 z)) _ _⟩)
    · exact sg_y_has h21 Y hb (by omega) (fun z1 => ⟨rfl, h1 ⟨fun y => absurd y z, fun _ => z1⟩ _ _⟩) (fun z1 => ⟨rfl, h0 (fun (m : _ ∧ _) => z1 (m.2 z)) _ _⟩)
  · have e : kd = 8 := by omega
    subst e
    obtain ⟨ha, eA⟩ := hA rfl
    obtain ⟨hb, eB⟩ := hB rfl
    have q := sg_pl_le a b V k
    refine sg_y_walk hs ha hb hk eA eB ?_
    dsimp only
    rw [eA, eB]
    exact ⟨hin, sg_y_has h21 Y ha (by omega) (fun z1 => br_f (by decide) ⟨hin, sg_y_has h21 Y hb (by omega) (fun z2 => br_f (by decide) (h1 ⟨z1, z2⟩ _ _)) (fun z2 => br_t rfl (h0 (fun (m : _ ∧ _) => z2 m.2) _ _))⟩) (fun z1 => br_t rfl (h0 (fun (m : _ ∧ _) => z1 m.1) _ _))⟩
theorem sg_y_needs {post : Int32 → SY → Prop} {pa pb : Int32} {K A B H V : Nat → Int32} {c : Nat → Nat} {s k : Nat} (ok : sg_Ok K A B) (h21 : ∀ s, s < 6 → c s ≤ 21) (Y : sg_YI c H) (hs : s < 6) (hk : k < 21) (h1 : k ≤ c s → sg_MM K A B c V s k → ∀ pa pb, post 1 (pa, pb, K, A, B, H, V)) (h0 : (k ≤ c s → ¬ sg_MM K A B c V s k) → ∀ pa pb, post 0 (pa, pb, K, A, B, H, V)) : wpY_needsMet post (pa, pb, K, A, B, H, V) (nI s) (nI k) := by
  obtain ⟨hkd, eK, hA, hB⟩ := ok s hs
  unfold wpY_needsMet
  dsimp only
  refine pk_le k 0 (fun z => ?_) (fun z => ?_)
  · exact sg_y_17 h21 Y hs hk hkd eK hA hB (fun m => h1 (by omega) m) (fun m => h0 (fun _ => m))
  · rw [show nI k - 1 = nI (k - 1) from pk_sub (b := 1) (by omega)]
    refine sg_y_has h21 Y hs (by omega) (fun l => br_f (by decide) ?_) (fun l => br_t rfl (h0 (fun w => absurd w (by omega)) _ _))
    exact sg_y_17 h21 Y hs hk hkd eK hA hB (fun m => h1 (by omega) m) (fun m => h0 (fun _ => m))
theorem sg_y_246 {post : Int32 → SY → Prop} {pa pb : Int32} {K A B H V : Nat → Int32} {s k a : Nat} (hs : s < 6) (hk : k < 21) (ha : a < 6) (eA : A s = nI a) (hp : post (sg_sum a V (k + 1)) (pa, pb, K, A, B, H, V)) : ∀ d i, i + d = k + 1 → wY_worth_246 post (nI s) (nI k) pa pb K A B H V (d + 1) (sg_sum a V i) (nI i) := by
  intro d
  induction d with
  | zero =>
    intro i hi
    have e : i = k + 1 := by omega
    subst e
    exact br_t (nI_lt (a := k) (b := k + 1) (by omega) (by omega)) hp
  | succ d ih =>
    intro i hi
    have hin : vp_in (nI s) 6 := vp_in_nI hs (by decide)
    have ec := nI_clamp (show s < 2 ^ 31 by omega)
    refine br_f (nI_nlt (a := k) (b := i) (by omega) (by omega)) ⟨hin, ?_⟩
    rw [ec, eA]
    exact sg_y_at ha (by omega) (nm_e (nm_r (nI_1 i) (ih (i + 1) (by omega))))
theorem sg_y_worth {post : Int32 → SY → Prop} {pa pb : Int32} {K A B H V : Nat → Int32} {c : Nat → Nat} {s k kd a b : Nat} (h21 : ∀ s, s < 6 → c s ≤ 21) (hs : s < 6) (hk : k < 21) (hkd : kd ≤ 8) (eK : K s = nI kd) (hA : sg_na kd = true → a < 6 ∧ A s = nI a) (hB : sg_nb kd = true → b < 6 ∧ B s = nI b) (m : sg_M kd a b c V k) (h : ∀ pa pb, post (sg_F kd a b (A s) (B s) V k) (pa, pb, K, A, B, H, V)) : wpY_worth post (pa, pb, K, A, B, H, V) (nI s) (nI k) := by
  unfold wpY_worth
  dsimp only
  have hin : vp_in (nI s) 6 := vp_in_nI hs (by decide)
  have ec := nI_clamp (show s < 2 ^ 31 by omega)
  rw [ec, eK]
  refine ⟨hin, pk_eq kd 0 (fun z => ⟨hin, hin, ?_⟩) (fun n0 => ⟨hin, ?_⟩)⟩
  · subst z; exact h _ _
  refine pk_eq kd 1 (fun z => ?_) (fun n1 => ⟨hin, ?_⟩)
  · subst z
    obtain ⟨hb, eB⟩ := hB rfl
    have h : ∀ pa pb, post (if k = 0 then A s else V (21 * b + (k - 1))) (pa, pb, K, A, B, H, V) := h
    rw [eB]
    refine pk_eq k 0 (fun z => ⟨hin, ?_⟩) (fun z => ⟨hin, ?_⟩)
    · rw [if_pos z] at h; exact h _ _
    · rw [if_neg z] at h
      rw [show nI k - 1 = nI (k - 1) from pk_sub (b := 1) (by omega)]
      exact sg_y_at hb (by omega) (h _ _)
  refine pk_eq kd 2 (fun z => ⟨hin, ?_⟩) (fun n2 => ⟨hin, ?_⟩)
  · subst z
    obtain ⟨ha, eA⟩ := hA rfl
    have m : k + 1 < c a := m
    have := h21 a ha
    rw [eA, nI_1]
    exact sg_y_at ha (by omega) (h _ _)
  refine pk_eq kd 3 (fun z => ⟨hin, ?_⟩) (fun n3 => ⟨hin, ?_⟩)
  · subst z
    obtain ⟨ha, eA⟩ := hA rfl
    obtain ⟨hb, eB⟩ := hB rfl
    rw [eA, eB]
    exact sg_y_at ha hk ⟨hin, sg_y_at hb hk (h _ _)⟩
  refine pk_eq kd 4 (fun z => ⟨hin, ?_⟩) (fun n4 => ⟨hin, ?_⟩)
  · subst z
    obtain ⟨ha, eA⟩ := hA rfl
    obtain ⟨hb, eB⟩ := hB rfl
    rw [eA, eB]
    exact sg_y_at ha hk ⟨hin, sg_y_at hb hk (h _ _)⟩
  refine pk_eq kd 5 (fun z => ⟨hin, hin, ?_⟩) (fun n5 => ⟨hin, ?_⟩)
  · subst z
    obtain ⟨hb, eB⟩ := hB rfl
    rw [eB]
    exact sg_y_at hb hk (h _ _)
  refine pk_eq kd 7 (fun z => ?_) (fun n7 => ⟨hin, ?_⟩)
  · subst z
    obtain ⟨ha, eA⟩ := hA rfl
    obtain ⟨hb, eB⟩ := hB rfl
    have h : ∀ pa pb, post (if k % 2 = 0 then V (21 * a + k / 2) else V (21 * b + k / 2)) (pa, pb, K, A, B, H, V) := h
    rw [eA, eB, show nI k - nI k / 2 * 2 = nI (k % 2) from pk_rem (d := 2) (by omega) (by omega) (by omega), show nI k / 2 = nI (k / 2) from pk_div (d := 2) (by omega) (by omega) (by omega)]
    refine ⟨by decide, pk_eq (k % 2) 0 (fun z => ⟨hin, by decide, ?_⟩) (fun z => ⟨hin, by decide, ?_⟩)⟩
    · rw [if_pos z] at h; exact sg_y_at ha (by omega) (h _ _)
    · rw [if_neg z] at h; exact sg_y_at hb (by omega) (h _ _)
  refine pk_eq kd 6 (fun z => ?_) (fun n6 => ?_)
  · subst z
    obtain ⟨ha, eA⟩ := hA rfl
    exact ⟨k + 2, sg_y_246 hs hk ha eA (h _ _) (k + 1) 0 (by omega)⟩
  · have e : kd = 8 := by omega
    subst e
    obtain ⟨ha, eA⟩ := hA rfl
    obtain ⟨hb, eB⟩ := hB rfl
    have q := sg_pl_le a b V k
    refine sg_y_walk hs ha hb hk eA eB ?_
    dsimp only
    have h : ∀ pa pb, post (if V (21 * b + (sg_pl a b V k).2) ≤ V (21 * a + (sg_pl a b V k).1) then V (21 * b + (sg_pl a b V k).2) else V (21 * a + (sg_pl a b V k).1)) (pa, pb, K, A, B, H, V) := h
    rw [eA, eB]
    refine ⟨hin, sg_y_at ha (by omega) ⟨hin, sg_y_at hb (by omega) (br_c (fun z => ?_) (fun z => ?_))⟩⟩
    · rw [if_pos z] at h; exact h _ _
    · rw [if_neg z] at h; exact h _ _
end
section
theorem sg_nar1 : vp_nar .boolean 1 = 1 := rfl
theorem sg_nar0 : vp_nar .boolean 0 = 0 := rfl
theorem sg_YI_step {c : Nat → Nat} {H : Nat → Int32} {s : Nat} (Y : sg_YI c H) (hc : c s < 21) : sg_YI (sg_uN c s (c s + 1)) (upd H (21 * s + c s) (vp_nar .boolean 1)) := by
  intro t ht k hk
  by_cases e : 21 * t + k = 21 * s + c s
  · have e1 : t = s := by omega
    subst e1
    have e2 : k = c t := by omega
    subst e2
    rw [pk_us, sg_uN_s, if_pos (by omega), sg_nar1]
  · rw [pk_un e, Y t ht k hk]
    by_cases e1 : t = s
    · subst e1
      rw [sg_uN_s]
      by_cases l : k < c t
      · rw [if_pos l, if_pos (by omega)]
      · rw [if_neg l, if_neg (by omega)]
    · rw [sg_uN_n e1]
/-- the mark 'grown' of a sweep that stands before the cell (s, k) -/
def sg_G (K A B : Nat → Int32) (t0 : Nat) (c : Nat → Nat) (V : Nat → Int32) (g : Int32) (k s : Nat) : Prop := (g = 0 ∧ ∀ j, j < 6 → c j < 21 → (c j < k ∨ (c j = k ∧ j < s)) → ¬ sg_MM K A B c V j (c j)) ∨ (g = 1 ∧ t0 < sg_tot c)
theorem sg_y_12 {post : Int32 → SY → Prop} {J : Int32 → Int32 → Int32 → Int32 → (Nat → Int32) → (Nat → Int32) → (Nat → Int32) → (Nat → Int32) → (Nat → Int32) → Prop} {K A B : Nat → Int32} {k : Nat} (ok : sg_Ok K A B) (hk : k < 21) (t0 : Nat) (hJ : ∀ (g : Int32) (c : Nat → Nat) (pa pb : Int32) (H V : Nat → Int32), sg_Inv K A B c V → sg_YI c H → t0 ≤ sg_tot c → sg_G K A B t0 c V g (k + 1) 0 → J g (nI (k + 1)) pa pb K A B H V) : ∀ d s, s + d = 6 → ∀ (g : Int32) (c : Nat → Nat) (pa pb : Int32) (H V : Nat → Int32), sg_Inv K A B c V → sg_YI c H → t0 ≤ sg_tot c → sg_G K A B t0 c V g k s → wY_sweep_12 post J (nI k) (d + 1) g (nI s) pa pb K A B H V := by
  intro d
  induction d with
  | zero =>
    intro s hs g c pa pb H V I Y ht hg
    have e : s = 6 := by omega
    subst e
    refine br_t (nI_le (a := 6) (b := 6) (by omega) (by omega)) (nm_r (nI_1 k) (hJ g c pa pb H V I Y ht ?_))
    exact hg.elim (fun w => Or.inl ⟨w.1, fun j hj hc l => w.2 j hj hc (by omega)⟩) Or.inr
  | succ d ih =>
    intro s hs g c pa pb H V I Y ht hg
    have hs6 : s < 6 := by omega
    have hix : vp_in (nI (21 * s + k)) 126 := vp_in_nI (by omega) (by decide)
    have ec := nI_clamp (show 21 * s + k < 2 ^ 31 by omega)
    refine br_f (nI_ge (b := 6) hs6 (by omega)) ?_
    rw [sg_iy, ec, Y s hs6 k hk]
    refine ⟨hix, ?_⟩
    by_cases l : k < c s
    · rw [if_pos l]
      refine br_f (by decide) (nm_r (nI_1 s) (ih (s + 1) (by omega) g c pa pb H V I Y ht ?_))
      refine hg.elim (fun w => Or.inl ⟨w.1, fun j hj hc y => w.2 j hj hc ?_⟩) Or.inr
      by_cases e : j = s
      · subst e; omega
      · omega
    · rw [if_neg l]
      refine br_t rfl (sg_y_needs ok I.1 Y hs6 hk (fun le m pa pb => ?_) (fun no pa pb => ?_))
      · have e : k = c s := by omega
        subst e
        obtain ⟨hkd, eK, hA, hB⟩ := ok s hs6
        have t := sg_tot_up c s hs6
        refine br_f (by decide) (sg_y_worth (c := c) I.1 hs6 hk hkd eK hA hB m (fun pa pb => ?_))
        exact ⟨hix, nm_e ⟨hix, nm_e (nm_r (nI_1 s) (ih (s + 1) (by omega) 1 _ pa pb _ _ (sg_step ok I hs6 hk m) (sg_YI_step Y hk) (by omega) (Or.inr ⟨rfl, by omega⟩)))⟩⟩
      · refine br_t rfl (nm_r (nI_1 s) (ih (s + 1) (by omega) g c pa pb H V I Y ht ?_))
        refine hg.elim (fun w => Or.inl ⟨w.1, fun j hj hc y => ?_⟩) Or.inr
        by_cases e : j = s ∧ c j = k
        · obtain ⟨e1, e2⟩ := e
          subst e1
          rw [e2]
          exact no (by omega)
        · exact w.2 j hj hc (by omega)
theorem sg_y_4 {post : Int32 → SY → Prop} {K A B : Nat → Int32} (ok : sg_Ok K A B) (t0 : Nat) (hp : ∀ (g : Int32) (c : Nat → Nat) (pa pb : Int32) (H V : Nat → Int32), sg_Inv K A B c V → sg_YI c H → ((g = 0 ∧ sg_Sat K A B c V) ∨ (g = 1 ∧ t0 < sg_tot c)) → post g (pa, pb, K, A, B, H, V)) : ∀ d k, k + d = 21 → ∀ (g : Int32) (c : Nat → Nat) (pa pb : Int32) (H V : Nat → Int32), sg_Inv K A B c V → sg_YI c H → t0 ≤ sg_tot c → sg_G K A B t0 c V g k 0 → wY_sweep_4 post (d + 1) g (nI k) pa pb K A B H V := by
  intro d
  induction d with
  | zero =>
    intro k hk g c pa pb H V I Y ht hg
    have e : k = 21 := by omega
    subst e
    refine br_t (nI_lt (a := 20) (b := 21) (by omega) (by omega)) ⟨?_, hp g c pa pb H V I Y ?_⟩
    · rcases hg with ⟨rfl, _⟩ | ⟨rfl, _⟩ <;> rfl
    · exact hg.elim (fun w => Or.inl ⟨w.1, fun j hj hc => w.2 j hj hc (Or.inl hc)⟩) Or.inr
  | succ d ih =>
    intro k hk g c pa pb H V I Y ht hg
    exact br_f (nI_nlt (a := 20) (b := k) (by omega) (by omega)) ⟨7, sg_y_12 ok (by omega) t0 (fun g c pa pb H V I Y ht hg => ih (k + 1) (by omega) g c pa pb H V I Y ht hg) 6 0 rfl g c pa pb H V I Y ht hg⟩
theorem sg_y_sweep {post : Int32 → SY → Prop} {pa pb : Int32} {K A B H V : Nat → Int32} {c : Nat → Nat} (ok : sg_Ok K A B) (I : sg_Inv K A B c V) (Y : sg_YI c H) (hp : ∀ (g : Int32) (c' : Nat → Nat) (pa pb : Int32) (H V : Nat → Int32), sg_Inv K A B c' V → sg_YI c' H → ((g = 0 ∧ sg_Sat K A B c' V) ∨ (g = 1 ∧ sg_tot c < sg_tot c')) → post g (pa, pb, K, A, B, H, V)) : wpY_sweep post (pa, pb, K, A, B, H, V) := by
  unfold wpY_sweep
  exact ⟨22, sg_y_4 ok (sg_tot c) hp 21 0 rfl 0 c pa pb H V I Y (Nat.le_refl _) (Or.inl ⟨rfl, fun j hj hc y => absurd y (by omega)⟩)⟩
theorem sg_y_25 {post : SY → Prop} {K A B : Nat → Int32} (ok : sg_Ok K A B) (hp : ∀ (c : Nat → Nat) (pa pb : Int32) (H V : Nat → Int32), sg_Inv K A B c V → sg_YI c H → sg_Sat K A B c V → post (pa, pb, K, A, B, H, V)) : ∀ d r, r + d = 127 → ∀ (g : Int32) (c : Nat → Nat) (pa pb : Int32) (H V : Nat → Int32), sg_Inv K A B c V → sg_YI c H → ((g = 0 ∧ sg_Sat K A B c V) ∨ (g = 1 ∧ r ≤ sg_tot c)) → wY_fill_25 post (d + 1) g (nI r) pa pb K A B H V := by
  intro d
  induction d with
  | zero =>
    intro r hr g c pa pb H V I Y hg
    have e : r = 127 := by omega
    subst e
    refine br_t (nI_le (a := 127) (b := 127) (by omega) (by omega)) (hp c pa pb H V I Y ?_)
    have t := sg_tot_le I.1
    exact hg.elim (fun w => w.2) (fun w => absurd w.2 (by omega))
  | succ d ih =>
    intro r hr g c pa pb H V I Y hg
    refine br_f (nI_ge (b := 127) (a := r) (by omega) (by omega)) ?_
    rcases hg with ⟨rfl, sat⟩ | ⟨rfl, ht⟩
    · exact br_t rfl (hp c pa pb H V I Y sat)
    · refine br_f (by decide) (sg_y_sweep ok I Y (fun g c' pa pb H V I Y hg => nm_r (nI_1 r) (ih (r + 1) (by omega) g c' pa pb H V I Y ?_)))
      exact hg.elim Or.inl (fun w => Or.inr ⟨w.1, by omega⟩)
theorem sg_y_f2 {post : SY → Prop} {pa pb : Int32} {K A B H V : Nat → Int32} (ok : sg_Ok K A B) (hp : ∀ (c : Nat → Nat) (pa pb : Int32) (H V : Nat → Int32), sg_Inv K A B c V → sg_YI c H → sg_Sat K A B c V → post (pa, pb, K, A, B, H, V)) : ∀ d i, i + d = 126 → wY_fill_2 post pa pb (d + 1) (nI i) K A B (sg_z i H) V := by
  intro d
  induction d with
  | zero =>
    intro i hi
    have e : i = 126 := by omega
    subst e
    refine br_t (nI_le (a := 126) (b := 126) (by omega) (by omega)) ⟨128, ?_⟩
    refine sg_y_25 ok hp 127 0 rfl 1 (fun _ => 0) pa pb _ V (sg_Inv0 K A B V) (fun s hs k hk => ?_) (Or.inr ⟨rfl, Nat.zero_le _⟩)
    rw [sg_z_lt (by omega), if_neg (Nat.not_lt_zero _)]
  | succ d ih =>
    intro i hi
    have hi6 : i < 126 := by omega
    refine br_f (nI_ge (b := 126) hi6 (by omega)) ⟨vp_in_nI hi6 (by decide), nm_e (nm_r (nI_1 i) ?_)⟩
    rw [nI_clamp (show i < 2 ^ 31 by omega), sg_nar0, sg_z_up]
    exact ih (i + 1) (by omega)
/-- the reference's filling ends in the pair that is reached and closed -/
theorem sg_y_fill {post : SY → Prop} {pa pb : Int32} {K A B H V : Nat → Int32} (ok : sg_Ok K A B) (hp : ∀ (c : Nat → Nat) (pa pb : Int32) (H V : Nat → Int32), sg_Inv K A B c V → sg_YI c H → sg_Sat K A B c V → post (pa, pb, K, A, B, H, V)) : wpY_fill post (pa, pb, K, A, B, H, V) := by
  unfold wpY_fill
  have h := sg_y_f2 (pa := pa) (pb := pb) (H := H) (V := V) ok hp 126 0 rfl
  rw [sg_z_0] at h
  exact ⟨127, h⟩
end
section
theorem sg_y_seq_t {post : Int32 → Prop} {v : SY} {s : Nat} (hs : s < 6) (h : post 1) : wpY_isSequence post v (nI s) := by
  obtain ⟨pa, pb, K, A, B, H, W⟩ := v
  unfold wpY_isSequence
  exact br_f (nI_pos (by omega)) (br_f (nI_nlt (a := 5) (b := s) (by omega) (by omega)) h)
theorem sg_y_seq_f {post : Int32 → Prop} {v : SY} {x : Int32} (hx : ¬ ∃ s, s < 6 ∧ x = nI s) (h : post 0) : wpY_isSequence post v x := by
  obtain ⟨pa, pb, K, A, B, H, W⟩ := v
  unfold wpY_isSequence
  refine br_c (fun _ => h) (fun h0 => br_c (fun _ => h) (fun h6 => ?_))
  obtain ⟨j, hj, rfl⟩ := nI_of h0
  by_cases l : j < 6
  · exact absurd ⟨j, l, rfl⟩ hx
  · exact absurd (nI_lt (a := 5) (b := j) (by omega) hj) h6
/-- define takes these arguments -/
def sg_dv (p0 p1 p2 p3 : Int32) : Prop := (∃ s, s < 6 ∧ p0 = nI s) ∧ ∃ kd, kd ≤ 8 ∧ p1 = nI kd ∧ (sg_na kd = true → ∃ a, a < 6 ∧ p2 = nI a) ∧ (sg_nb kd = true → ∃ b, b < 6 ∧ p3 = nI b)
theorem sg_dv_k {p0 p2 p3 : Int32} {kd : Nat} (hk : kd ≤ 8) (h : sg_dv p0 (nI kd) p2 p3) : (sg_na kd = true → ∃ a, a < 6 ∧ p2 = nI a) ∧ (sg_nb kd = true → ∃ b, b < 6 ∧ p3 = nI b) := by
  obtain ⟨_, kd', hk', e, h⟩ := h
  have e := (nI_eq (by omega) (by omega)).mp e
  subst e
  exact h
theorem sg_dv_n {p0 p1 p2 p3 : Int32} (h : p1 < 0) : ¬ sg_dv p0 p1 p2 p3 := by
  rintro ⟨_, kd, hk, rfl, _⟩
  exact nI_pos (by omega) h
theorem sg_dv_8 {p0 p1 p2 p3 : Int32} (h : ¬ p1 ≤ 8) : ¬ sg_dv p0 p1 p2 p3 := by
  rintro ⟨_, kd, hk, rfl, _⟩
  exact h (nI_le (a := kd) (b := 8) hk (by omega))
theorem sg_x_fis {post : Int32 → Prop} : ∀ kd, kd ≤ 8 → (sg_na kd = true → post 1) → (sg_na kd = false → post 0) → wpX_firstIsSequence post (nI kd) := by
  unfold wpX_firstIsSequence
  refine sg_9 ?_ ?_ ?_ ?_ ?_ ?_ ?_ ?_ ?_ <;> intro h1 h0
  · exact br_t rfl (h0 rfl)
  · exact br_f (by decide) (br_t rfl (h0 rfl))
  · exact br_f (by decide) (br_f (by decide) (br_f (by decide) (h1 rfl)))
  · exact br_f (by decide) (br_f (by decide) (br_f (by decide) (h1 rfl)))
  · exact br_f (by decide) (br_f (by decide) (br_f (by decide) (h1 rfl)))
  · exact br_f (by decide) (br_f (by decide) (br_t rfl (h0 rfl)))
  · exact br_f (by decide) (br_f (by decide) (br_f (by decide) (h1 rfl)))
  · exact br_f (by decide) (br_f (by decide) (br_f (by decide) (h1 rfl)))
  · exact br_f (by decide) (br_f (by decide) (br_f (by decide) (h1 rfl)))
theorem sg_x_sis {post : Int32 → Prop} : ∀ kd, kd ≤ 8 → (sg_nb kd = true → post 1) → (sg_nb kd = false → post 0) → wpX_secondIsSequence post (nI kd) := by
  unfold wpX_secondIsSequence
  refine sg_9 ?_ ?_ ?_ ?_ ?_ ?_ ?_ ?_ ?_ <;> intro h1 h0
  · exact br_t rfl (h0 rfl)
  · exact br_f (by decide) (br_f (by decide) (br_f (by decide) (h1 rfl)))
  · exact br_f (by decide) (br_t rfl (h0 rfl))
  · exact br_f (by decide) (br_f (by decide) (br_f (by decide) (h1 rfl)))
  · exact br_f (by decide) (br_f (by decide) (br_f (by decide) (h1 rfl)))
  · exact br_f (by decide) (br_f (by decide) (br_f (by decide) (h1 rfl)))
  · exact br_f (by decide) (br_f (by decide) (br_t rfl (h0 rfl)))
  · exact br_f (by decide) (br_f (by decide) (br_f (by decide) (h1 rfl)))
  · exact br_f (by decide) (br_f (by decide) (br_f (by decide) (h1 rfl)))
theorem sg_y_na {post : Int32 → Prop} {v : SY} : ∀ kd, kd ≤ 8 → (sg_na kd = true → post 1) → (sg_na kd = false → post 0) → wpY_namesA post v (nI kd) := by
  obtain ⟨pa, pb, K, A, B, H, W⟩ := v
  unfold wpY_namesA
  dsimp only
  refine sg_9 ?_ ?_ ?_ ?_ ?_ ?_ ?_ ?_ ?_ <;> intro h1 h0
  · exact br_f (by decide) (br_f (by decide) (br_f (by decide) (br_f (by decide) (br_f (by decide) (br_f (by decide) (h0 rfl))))))
  · exact br_f (by decide) (br_f (by decide) (br_f (by decide) (br_f (by decide) (br_f (by decide) (br_f (by decide) (h0 rfl))))))
  · exact br_t rfl (h1 rfl)
  · exact br_f (by decide) (br_t rfl (h1 rfl))
  · exact br_f (by decide) (br_f (by decide) (br_t rfl (h1 rfl)))
  · exact br_f (by decide) (br_f (by decide) (br_f (by decide) (br_f (by decide) (br_f (by decide) (br_f (by decide) (h0 rfl))))))
  · exact br_f (by decide) (br_f (by decide) (br_f (by decide) (br_t rfl (h1 rfl))))
  · exact br_f (by decide) (br_f (by decide) (br_f (by decide) (br_f (by decide) (br_t rfl (h1 rfl)))))
  · exact br_f (by decide) (br_f (by decide) (br_f (by decide) (br_f (by decide) (br_f (by decide) (br_t rfl (h1 rfl))))))
theorem sg_y_nb {post : Int32 → Prop} {v : SY} : ∀ kd, kd ≤ 8 → (sg_nb kd = true → post 1) → (sg_nb kd = false → post 0) → wpY_namesB post v (nI kd) := by
  obtain ⟨pa, pb, K, A, B, H, W⟩ := v
  unfold wpY_namesB
  dsimp only
  refine sg_9 ?_ ?_ ?_ ?_ ?_ ?_ ?_ ?_ ?_ <;> intro h1 h0
  · exact br_f (by decide) (br_f (by decide) (br_f (by decide) (br_f (by decide) (br_f (by decide) (br_f (by decide) (h0 rfl))))))
  · exact br_t rfl (h1 rfl)
  · exact br_f (by decide) (br_f (by decide) (br_f (by decide) (br_f (by decide) (br_f (by decide) (br_f (by decide) (h0 rfl))))))
  · exact br_f (by decide) (br_t rfl (h1 rfl))
  · exact br_f (by decide) (br_f (by decide) (br_t rfl (h1 rfl)))
  · exact br_f (by decide) (br_f (by decide) (br_f (by decide) (br_t rfl (h1 rfl))))
  · exact br_f (by decide) (br_f (by decide) (br_f (by decide) (br_f (by decide) (br_f (by decide) (br_f (by decide) (h0 rfl))))))
  · exact br_f (by decide) (br_f (by decide) (br_f (by decide) (br_f (by decide) (br_t rfl (h1 rfl)))))
  · exact br_f (by decide) (br_f (by decide) (br_f (by decide) (br_f (by decide) (br_f (by decide) (br_t rfl (h1 rfl))))))
theorem sg_x_35 {post : Int32 → SX → Prop} {p0 p2 p3 : Int32} {K A B R V F S : Nat → Int32} {kd : Nat} (hk : kd ≤ 8) (h1 : (sg_nb kd = true → ∃ b, b < 6 ∧ p3 = nI b) → wX_define_52 post p0 (nI kd) p2 p3 K A B R V F S) (h0 : ¬ (sg_nb kd = true → ∃ b, b < 6 ∧ p3 = nI b) → post 0 (K, A, B, R, V, F, S)) : wX_define_35 post p0 (nI kd) p2 p3 K A B R V F S := by
  unfold wX_define_35
  refine sg_x_sis kd hk (fun t => br_f (by decide) ?_) (fun f => br_t rfl (h1 (fun t => absurd (f.symm.trans t) (by decide))))
  by_cases hb : ∃ b, b < 6 ∧ p3 = nI b
  · obtain ⟨b, hb6, rfl⟩ := hb
    exact sg_x_seq_t hb6 (br_f (by decide) (h1 (fun _ => ⟨b, hb6, rfl⟩)))
  · exact sg_x_seq_f hb (br_t rfl (h0 (fun w => hb (w t))))
theorem sg_x_def {post : Int32 → SX → Prop} {p0 p1 p2 p3 : Int32} {K A B R V F S : Nat → Int32} (h1 : sg_dv p0 p1 p2 p3 → wX_define_52 post p0 p1 p2 p3 K A B R V F S) (h0 : ¬ sg_dv p0 p1 p2 p3 → post 0 (K, A, B, R, V, F, S)) : wpX_define post (K, A, B, R, V, F, S) p0 p1 p2 p3 := by
  unfold wpX_define
  dsimp only
  by_cases hs : ∃ s, s < 6 ∧ p0 = nI s
  · obtain ⟨s, hs6, rfl⟩ := hs
    refine sg_x_seq_t hs6 (br_f (by decide) (br_c (fun z => h0 (sg_dv_n z)) (fun z => br_c (fun z8 => ?_) (fun z8 => h0 (sg_dv_8 z8)))))
    obtain ⟨kd, hk, rfl⟩ := nI_of2 (M := 8) (n := 8) (by decide) z z8
    refine sg_x_fis kd hk (fun t => br_f (by decide) ?_) (fun f => br_t rfl ?_)
    · by_cases ha : ∃ a, a < 6 ∧ p2 = nI a
      · obtain ⟨a, ha6, rfl⟩ := ha
        exact sg_x_seq_t ha6 (br_f (by decide) (sg_x_35 hk (fun w => h1 ⟨⟨s, hs6, rfl⟩, kd, hk, rfl, fun _ => ⟨a, ha6, rfl⟩, w⟩) (fun w => h0 (fun y => w (sg_dv_k hk y).2))))
      · exact sg_x_seq_f ha (br_t rfl (h0 (fun y => ha ((sg_dv_k hk y).1 t))))
    · exact sg_x_35 hk (fun w => h1 ⟨⟨s, hs6, rfl⟩, kd, hk, rfl, fun t => absurd (f.symm.trans t) (by decide), w⟩) (fun w => h0 (fun y => w (sg_dv_k hk y).2))
  · exact sg_x_seq_f hs (br_t rfl (h0 (fun w => hs w.1)))
theorem sg_y_36 {post : Int32 → SY → Prop} {p0 p2 p3 pa pb : Int32} {K A B H W : Nat → Int32} {kd : Nat} (hk : kd ≤ 8) (h1 : (sg_nb kd = true → ∃ b, b < 6 ∧ p3 = nI b) → wY_define_55 post p0 (nI kd) p2 p3 pa pb K A B H W) (h0 : ¬ (sg_nb kd = true → ∃ b, b < 6 ∧ p3 = nI b) → post 0 (pa, pb, K, A, B, H, W)) : wY_define_36 post p0 (nI kd) p2 p3 pa pb K A B H W := by
  unfold wY_define_36
  refine sg_y_nb kd hk (fun t => br_f (by decide) ?_) (fun f => br_t rfl (h1 (fun t => absurd (f.symm.trans t) (by decide))))
  by_cases hb : ∃ b, b < 6 ∧ p3 = nI b
  · obtain ⟨b, hb6, rfl⟩ := hb
    exact sg_y_seq_t hb6 (br_f (by decide) (h1 (fun _ => ⟨b, hb6, rfl⟩)))
  · exact sg_y_seq_f hb (br_t rfl (h0 (fun w => hb (w t))))
theorem sg_y_def {post : Int32 → SY → Prop} {p0 p1 p2 p3 pa pb : Int32} {K A B H W : Nat → Int32} (h1 : sg_dv p0 p1 p2 p3 → wY_define_55 post p0 p1 p2 p3 pa pb K A B H W) (h0 : ¬ sg_dv p0 p1 p2 p3 → post 0 (pa, pb, K, A, B, H, W)) : wpY_define post (pa, pb, K, A, B, H, W) p0 p1 p2 p3 := by
  unfold wpY_define
  dsimp only
  by_cases hs : ∃ s, s < 6 ∧ p0 = nI s
  · obtain ⟨s, hs6, rfl⟩ := hs
    refine sg_y_seq_t hs6 (br_f (by decide) (br_c (fun z => h0 (sg_dv_n z)) (fun z => br_c (fun z8 => ?_) (fun z8 => h0 (sg_dv_8 z8)))))
    obtain ⟨kd, hk, rfl⟩ := nI_of2 (M := 8) (n := 8) (by decide) z z8
    refine sg_y_na kd hk (fun t => br_f (by decide) ?_) (fun f => br_t rfl ?_)
    · by_cases ha : ∃ a, a < 6 ∧ p2 = nI a
      · obtain ⟨a, ha6, rfl⟩ := ha
        exact sg_y_seq_t ha6 (br_f (by decide) (sg_y_36 hk (fun w => h1 ⟨⟨s, hs6, rfl⟩, kd, hk, rfl, fun _ => ⟨a, ha6, rfl⟩, w⟩) (fun w => h0 (fun y => w (sg_dv_k hk y).2))))
      · exact sg_y_seq_f ha (br_t rfl (h0 (fun y => ha ((sg_dv_k hk y).1 t))))
    · exact sg_y_36 hk (fun w => h1 ⟨⟨s, hs6, rfl⟩, kd, hk, rfl, fun t => absurd (f.symm.trans t) (by decide), w⟩) (fun w => h0 (fun y => w (sg_dv_k hk y).2))
  · exact sg_y_seq_f hs (br_t rfl (h0 (fun w => hs w.1)))
theorem sg_y_55 {post : Int32 → SY → Prop} {p1 p2 p3 pa pb : Int32} {K A B H W : Nat → Int32} {s : Nat} (hs : s < 6) (h : post 1 (pa, pb, upd K s p1, upd A s p2, upd B s p3, H, W)) : wY_define_55 post (nI s) p1 p2 p3 pa pb K A B H W := by
  unfold wY_define_55
  rw [nI_clamp (show s < 2 ^ 31 by omega)]
  have hin : vp_in (nI s) 6 := vp_in_nI hs (by decide)
  exact ⟨hin, nm_e ⟨hin, nm_e ⟨hin, nm_e h⟩⟩⟩
theorem sg_x_52 {post : Int32 → SX → Prop} {p1 p2 p3 : Int32} {K A B R V F S : Nat → Int32} {s : Nat} (hs : s < 6) (h : wpX_evaluate (post 1) (upd K s p1, upd A s p2, upd B s p3, R, V, F, S)) : wX_define_52 post (nI s) p1 p2 p3 K A B R V F S := by
  unfold wX_define_52
  rw [nI_clamp (show s < 2 ^ 31 by omega)]
  have hin : vp_in (nI s) 6 := vp_in_nI hs (by decide)
  exact ⟨hin, nm_e ⟨hin, nm_e ⟨hin, nm_e h⟩⟩⟩
theorem sg_Ok_upd {p1 p2 p3 : Int32} {K A B : Nat → Int32} {s : Nat} (ok : sg_Ok K A B) (h : sg_dv (nI s) p1 p2 p3) : sg_Ok (upd K s p1) (upd A s p2) (upd B s p3) := by
  intro j hj
  by_cases e : j = s
  · subst e
    rw [pk_us, pk_us, pk_us]
    obtain ⟨_, kd, hk, rfl, hA, hB⟩ := h
    unfold sg_Ok1
    rw [nI_clamp (show kd < 2 ^ 31 by omega)]
    refine ⟨hk, rfl, fun t => ?_, fun t => ?_⟩
    · obtain ⟨a, ha, rfl⟩ := hA t
      rw [nI_clamp (show a < 2 ^ 31 by omega)]
      exact ⟨ha, rfl⟩
    · obtain ⟨b, hb, rfl⟩ := hB t
      rw [nI_clamp (show b < 2 ^ 31 by omega)]
      exact ⟨hb, rfl⟩
  · rw [pk_un e, pk_un e, pk_un e]
    exact ok j hj
/-- the filling beside a pair that is reached and closed: the same counts, the same elements -/
theorem sg_y_fill2 {post : SY → Prop} {pa pb : Int32} {K A B H W V : Nat → Int32} {c : Nat → Nat} (ok : sg_Ok K A B) (I : sg_Inv K A B c V) (sat : sg_Sat K A B c V) (hp : ∀ (pa pb : Int32) (H W : Nat → Int32), sg_YI c H → (∀ s, s < 6 → ∀ k, k < c s → W (21 * s + k) = V (21 * s + k)) → post (pa, pb, K, A, B, H, W)) : wpY_fill post (pa, pb, K, A, B, H, W) := by
  refine sg_y_fill ok (fun c' pa pb H W I' Y' sat' => ?_)
  have e := sg_same I sat I' sat'
  refine hp pa pb H W (fun s hs k hk => ?_) (fun s hs => (e s hs).2)
  rw [Y' s hs k hk, (e s hs).1]
end
section
theorem sg_x_ready_t {post : Int32 → Prop} {K A B R V F S : Nat → Int32} {s k c : Nat} (hs : s < 6) (hk : k < 16) (eR : R s = nI c) (hc : c ≤ 21) (h1 : k < c → post 1) (h0 : ¬ k < c → post 0) : wpX_ready post (K, A, B, R, V, F, S) (nI s) (nI k) := by
  unfold wpX_ready
  dsimp only
  exact br_f (nI_ge (b := 16) hk (by omega)) (sg_x_found hs (by omega) eR hc (fun z => br_f (by decide) (h1 z)) (fun z => br_t rfl (h0 z)))
theorem sg_x_ready_f {post : Int32 → Prop} {K A B R V F S : Nat → Int32} {p0 p1 : Int32} (no : ¬ ((∃ s, s < 6 ∧ p0 = nI s) ∧ ∃ k, k < 16 ∧ p1 = nI k)) (h : post 0) : wpX_ready post (K, A, B, R, V, F, S) p0 p1 := by
  unfold wpX_ready
  dsimp only
  refine br_c (fun _ => h) (fun z16 => ?_)
  unfold wpX_isFound
  dsimp only
  by_cases hs : ∃ s, s < 6 ∧ p0 = nI s
  · obtain ⟨s, hs6, rfl⟩ := hs
    refine sg_x_seq_t hs6 (br_f (by decide) ?_)
    rcases pk_ix p1 (n := 16) (by decide) with z | z | z
    · exact br_t z (br_t rfl h)
    · exact absurd z z16
    · exact absurd ⟨⟨s, hs6, rfl⟩, z⟩ no
  · exact sg_x_seq_f hs (br_t rfl (br_t rfl h))
theorem sg_y_asked_t {post : Int32 → Prop} {pa pb : Int32} {K A B H W : Nat → Int32} {s k : Nat} (hs : s < 6) (hk : k < 16) (h : post 1) : wpY_asked post (pa, pb, K, A, B, H, W) (nI s) (nI k) := by
  unfold wpY_asked
  dsimp only
  exact sg_y_seq_t hs (br_f (by decide) (br_f (nI_pos (by omega)) (br_f (nI_nlt (a := 15) (b := k) (by omega) (by omega)) h)))
theorem sg_y_asked_f {post : Int32 → Prop} {pa pb : Int32} {K A B H W : Nat → Int32} {p0 p1 : Int32} (no : ¬ ((∃ s, s < 6 ∧ p0 = nI s) ∧ ∃ k, k < 16 ∧ p1 = nI k)) (h : post 0) : wpY_asked post (pa, pb, K, A, B, H, W) p0 p1 := by
  unfold wpY_asked
  dsimp only
  by_cases hs : ∃ s, s < 6 ∧ p0 = nI s
  · obtain ⟨s, hs6, rfl⟩ := hs
    refine sg_y_seq_t hs6 (br_f (by decide) (br_c (fun _ => h) (fun z0 => br_c (fun _ => h) (fun z15 => ?_))))
    obtain ⟨j, hj, rfl⟩ := nI_of z0
    by_cases l : j < 16
    · exact absurd ⟨⟨s, hs6, rfl⟩, j, l, rfl⟩ no
    · exact absurd (nI_lt (a := 15) (b := j) (by omega) hj) z15
  · exact sg_y_seq_f hs (br_t rfl h)
def sg_mn (c k : Nat) : Nat := if c < k then c else k
theorem sg_y_known {post : Int32 → SY → Prop} {pa pb : Int32} {K A B H W : Nat → Int32} {c : Nat → Nat} {s : Nat} (h21 : ∀ s, s < 6 → c s ≤ 21) (Y : sg_YI c H) (hs : s < 6) (hp : post (nI (sg_mn (c s) 16)) (pa, pb, K, A, B, H, W)) : ∀ d k, k + d = 16 → wY_known_18 post (nI s) pa pb K A B H W (d + 1) (nI (sg_mn (c s) k)) (nI k) := by
  intro d
  induction d with
  | zero =>
    intro k hk
    have e : k = 16 := by omega
    subst e
    exact br_t (nI_lt (a := 15) (b := 16) (by omega) (by omega)) hp
  | succ d ih =>
    intro k hk
    refine br_f (nI_nlt (a := 15) (b := k) (by omega) (by omega)) (sg_y_has h21 Y hs (by omega) (fun l => br_f (by decide) (nm_r (e' := nI (sg_mn (c s) (k + 1))) ?_ (nm_r (nI_1 k) (ih (k + 1) (by omega))))) (fun l => br_t rfl (nm_r (nI_1 k) ?_)))
    · rw [nI_1]
      unfold sg_mn
      rw [if_neg (by omega), if_neg (by omega)]
    · have i := ih (k + 1) (by omega)
      rw [show sg_mn (c s) (k + 1) = sg_mn (c s) k by unfold sg_mn; split <;> split <;> omega] at i
      exact i
theorem sg_fa {K A B R V F S : Nat → Int32} {c : Nat → Nat} {s : Nat} (x : Int32) (h21 : ∀ s, s < 6 → c s ≤ 21) (hR : ∀ s, s < 6 → R s = nI (c s)) (hs : s < 6) : ∀ d k, k + d = 16 → ∃ r : Int32, (∀ post : Int32 → Prop, post r → wX_firstAbove_11 post (nI s) x K A B R V F S (d + 1) (nI k)) ∧ (∀ (pa pb : Int32) (H W : Nat → Int32), sg_YI c H → (∀ s, s < 6 → ∀ k, k < c s → W (21 * s + k) = V (21 * s + k)) → ∀ post : Int32 → SY → Prop, post r (pa, pb, K, A, B, H, W) → wY_firstAbove_16 post (nI s) x pa pb K A B H W (d + 1) (nI k)) := by
  intro d
  induction d with
  | zero =>
    intro k hk
    have e : k = 16 := by omega
    subst e
    exact ⟨-2, fun _ hp => br_t (nI_le (a := 16) (b := 16) (by omega) (by omega)) hp, fun _ _ _ _ _ _ _ hp => br_t (nI_lt (a := 15) (b := 16) (by omega) (by omega)) hp⟩
  | succ d ih =>
    intro k hk
    obtain ⟨r, hX, hY⟩ := ih (k + 1) (by omega)
    have x16 : ¬ (16 : Int32) ≤ nI k := nI_ge (b := 16) (a := k) (by omega) (by omega)
    have y15 : ¬ (15 : Int32) < nI k := nI_nlt (a := 15) (b := k) (by omega) (by omega)
    by_cases l : k < c s
    · by_cases z : V (21 * s + k) ≤ x
      · refine ⟨r, fun post hp => br_f x16 (sg_x_found hs (by omega) (hR s hs) (h21 s hs) (fun _ => br_f (by decide) (sg_x_val hs (by omega) (br_t z (nm_r (nI_1 k) (hX post hp))))) (fun w => absurd l w)), fun pa pb H W Y hW post hp => br_f y15 (sg_y_has h21 Y hs (by omega) (fun _ => br_f (by decide) (sg_y_at hs (by omega) ?_)) (fun w => absurd l w))⟩
        rw [hW s hs k l]
        exact br_t z (nm_r (nI_1 k) (hY pa pb H W Y hW post hp))
      · refine ⟨nI k, fun post hp => br_f x16 (sg_x_found hs (by omega) (hR s hs) (h21 s hs) (fun _ => br_f (by decide) (sg_x_val hs (by omega) (br_f z hp))) (fun w => absurd l w)), fun pa pb H W Y hW post hp => br_f y15 (sg_y_has h21 Y hs (by omega) (fun _ => br_f (by decide) (sg_y_at hs (by omega) ?_)) (fun w => absurd l w))⟩
        rw [hW s hs k l]
        exact br_f z hp
    · exact ⟨r, fun post hp => br_f x16 (sg_x_found hs (by omega) (hR s hs) (h21 s hs) (fun w => absurd w l) (fun _ => br_t rfl (nm_r (nI_1 k) (hX post hp)))), fun pa pb H W Y hW post hp => br_f y15 (sg_y_has h21 Y hs (by omega) (fun w => absurd w l) (fun _ => br_t rfl (nm_r (nI_1 k) (hY pa pb H W Y hW post hp))))⟩
theorem sg_ag {K A B R V F S : Nat → Int32} {c : Nat → Nat} {s t : Nat} (h21 : ∀ s, s < 6 → c s ≤ 21) (hR : ∀ s, s < 6 → R s = nI (c s)) (hs : s < 6) (ht : t < 6) : ∀ d k, k + d = 16 → ∀ q : Int32, ∃ r : Int32, (∀ post : Int32 → Prop, post r → wX_agree_21 post (nI s) (nI t) K A B R V F S (d + 1) q (nI k)) ∧ (∀ (pa pb : Int32) (H W : Nat → Int32), sg_YI c H → (∀ s, s < 6 → ∀ k, k < c s → W (21 * s + k) = V (21 * s + k)) → ∀ post : Int32 → SY → Prop, post r (pa, pb, K, A, B, H, W) → wY_agree_27 post (nI s) (nI t) pa pb K A B H W (d + 1) q (nI k)) := by
  intro d
  induction d with
  | zero =>
    intro k hk q
    have e : k = 16 := by omega
    subst e
    exact ⟨q, fun _ hp => br_t (nI_le (a := 16) (b := 16) (by omega) (by omega)) hp, fun _ _ _ _ _ _ _ hp => br_t (nI_lt (a := 15) (b := 16) (by omega) (by omega)) hp⟩
  | succ d ih =>
    intro k hk q
    have x16 : ¬ (16 : Int32) ≤ nI k := nI_ge (b := 16) (a := k) (by omega) (by omega)
    have y15 : ¬ (15 : Int32) < nI k := nI_nlt (a := 15) (b := k) (by omega) (by omega)
    by_cases l : k < c s
    · by_cases l2 : k < c t
      · by_cases z : V (21 * s + k) = V (21 * t + k)
        · obtain ⟨r, hX, hY⟩ := ih (k + 1) (by omega) (q + 1)
          refine ⟨r, fun post hp => br_f x16 (sg_x_found hs (by omega) (hR s hs) (h21 s hs) (fun _ => br_f (by decide) (sg_x_found ht (by omega) (hR t ht) (h21 t ht) (fun _ => br_f (by decide) (sg_x_val hs (by omega) (sg_x_val ht (by omega) (br_t z (nm_e (nm_r (nI_1 k) (hX post hp))))))) (fun w => absurd l2 w))) (fun w => absurd l w)), fun pa pb H W Y hW post hp => br_f y15 (sg_y_has h21 Y hs (by omega) (fun _ => br_f (by decide) (sg_y_has h21 Y ht (by omega) (fun _ => br_f (by decide) (sg_y_at hs (by omega) (sg_y_at ht (by omega) ?_))) (fun w => absurd l2 w))) (fun w => absurd l w))⟩
          rw [hW s hs k l, hW t ht k l2]
          exact br_t z (nm_e (nm_r (nI_1 k) (hY pa pb H W Y hW post hp)))
        · obtain ⟨r, hX, hY⟩ := ih (k + 1) (by omega) q
          refine ⟨r, fun post hp => br_f x16 (sg_x_found hs (by omega) (hR s hs) (h21 s hs) (fun _ => br_f (by decide) (sg_x_found ht (by omega) (hR t ht) (h21 t ht) (fun _ => br_f (by decide) (sg_x_val hs (by omega) (sg_x_val ht (by omega) (br_f z (nm_r (nI_1 k) (hX post hp)))))) (fun w => absurd l2 w))) (fun w => absurd l w)), fun pa pb H W Y hW post hp => br_f y15 (sg_y_has h21 Y hs (by omega) (fun _ => br_f (by decide) (sg_y_has h21 Y ht (by omega) (fun _ => br_f (by decide) (sg_y_at hs (by omega) (sg_y_at ht (by omega) ?_))) (fun w => absurd l2 w))) (fun w => absurd l w))⟩
          rw [hW s hs k l, hW t ht k l2]
          exact br_f z (nm_r (nI_1 k) (hY pa pb H W Y hW post hp))
      · obtain ⟨r, hX, hY⟩ := ih (k + 1) (by omega) q
        exact ⟨r, fun post hp => br_f x16 (sg_x_found hs (by omega) (hR s hs) (h21 s hs) (fun _ => br_f (by decide) (sg_x_found ht (by omega) (hR t ht) (h21 t ht) (fun w => absurd w l2) (fun _ => br_t rfl (nm_r (nI_1 k) (hX post hp))))) (fun w => absurd l w)), fun pa pb H W Y hW post hp => br_f y15 (sg_y_has h21 Y hs (by omega) (fun _ => br_f (by decide) (sg_y_has h21 Y ht (by omega) (fun w => absurd w l2) (fun _ => br_t rfl (nm_r (nI_1 k) (hY pa pb H W Y hW post hp))))) (fun w => absurd l w))⟩
    · obtain ⟨r, hX, hY⟩ := ih (k + 1) (by omega) q
      exact ⟨r, fun post hp => br_f x16 (sg_x_found hs (by omega) (hR s hs) (h21 s hs) (fun w => absurd w l) (fun _ => br_t rfl (nm_r (nI_1 k) (hX post hp)))), fun pa pb H W Y hW post hp => br_f y15 (sg_y_has h21 Y hs (by omega) (fun w => absurd w l) (fun _ => br_t rfl (nm_r (nI_1 k) (hY pa pb H W Y hW post hp))))⟩
theorem sg_dv_0 {s : Nat} (hs : s < 6) : sg_dv (nI s) 0 0 0 := ⟨⟨s, hs, rfl⟩, 0, by omega, rfl, fun h => absurd h (by decide), fun h => absurd h (by decide)⟩
theorem sg_y_zero {post : SY → Prop} {pa pb : Int32} {K A B H W : Nat → Int32} (hp : post (pa, pb, sg_z 6 K, sg_z 6 A, sg_z 6 B, H, W)) : ∀ d s, s + d = 6 → wY_reset_2 post (d + 1) (nI s) pa pb (sg_z s K) (sg_z s A) (sg_z s B) H W := by
  intro d
  induction d with
  | zero =>
    intro s hs
    have e : s = 6 := by omega
    subst e
    exact br_t (nI_le (a := 6) (b := 6) (by omega) (by omega)) hp
  | succ d ih =>
    intro s hs
    have hs6 : s < 6 := by omega
    refine br_f (nI_ge (b := 6) hs6 (by omega)) (sg_y_def (fun _ => sg_y_55 hs6 (nm_r (nI_1 s) ?_)) (fun no => absurd (sg_dv_0 hs6) no))
    rw [sg_z_up, sg_z_up, sg_z_up]
    exact ih (s + 1) (by omega)
theorem sg_y_reset {post : SY → Prop} {pa pb : Int32} {K A B H W : Nat → Int32} (hp : post (pa, pb, sg_z 6 K, sg_z 6 A, sg_z 6 B, H, W)) : wpY_reset post (pa, pb, K, A, B, H, W) := by
  unfold wpY_reset
  have h := sg_y_zero hp 6 0 rfl
  rw [sg_z_0, sg_z_0, sg_z_0] at h
  exact ⟨7, h⟩
end
section
/-- the same definitions on both sides, sound; the component holds the pair that is reached and closed -/
def i_Rel (k : Nat) (u : SX) (v : SY) : Prop := ∃ (K A B R V F S : Nat → Int32) (c : Nat → Nat) (pa pb : Int32) (H W : Nat → Int32), u = (K, A, B, R, V, F, S) ∧ v = (pa, pb, K, A, B, H, W) ∧ sg_Ok K A B ∧ sg_Inv K A B c V ∧ sg_Sat K A B c V ∧ (∀ s, s < 6 → R s = nI (c s))
theorem sg_rel {k : Nat} {K A B R V F S : Nat → Int32} {c : Nat → Nat} {pa pb : Int32} {H W : Nat → Int32} (ok : sg_Ok K A B) (I : sg_Inv K A B c V) (sat : sg_Sat K A B c V) (hR : ∀ s, s < 6 → R s = nI (c s)) : i_Rel k (K, A, B, R, V, F, S) (pa, pb, K, A, B, H, W) := ⟨K, A, B, R, V, F, S, c, pa, pb, H, W, rfl, rfl, ok, I, sat, hR⟩
theorem i_up {k : Nat} {u : SX} {v : SY} (h : i_Rel k u v) : i_Rel (k + 5) u v := h
theorem i_vc0 : wpX_init (fun u => wpY_init (fun v => i_Rel 0 u v)) := by
  have ok := sg_z_ok (fun _ => 0) (fun _ => 0) (fun _ => 0)
  rw [sg_z_6] at ok
  unfold wpX_init
  refine sg_x_zeros ?_
  rw [sg_z_6]
  exact sg_x_eval ok (fun c V R F S I sat hR => sg_rel (k := 0) ok I sat hR)
theorem i_vc_define {k : Nat} {u : SX} {v : SY} (I : i_Rel k u v) (hk : k + 5 ≤ 2560) (v1 : Int32) (v2 : Int32) (v3 : Int32) (v4 : Int32) : wpX_define (fun r u' => wpY_define (fun r' v' => r' = r ∧ i_Rel (k + 5) u' v') v v1 v2 v3 v4) u v1 v2 v3 v4 := by
  obtain ⟨K, A, B, R, V, F, S, c, pa, pb, H, W, rfl, rfl, ok, I, sat, hR⟩ := I
  refine sg_x_def (fun d => ?_) (fun no => sg_y_def (fun d => absurd d no) (fun _ => ⟨rfl, sg_rel ok I sat hR⟩))
  obtain ⟨s, hs, rfl⟩ := d.1
  have ok2 := sg_Ok_upd ok d
  exact sg_x_52 hs (sg_x_eval ok2 (fun c V R F S I sat hR => sg_y_def (fun _ => sg_y_55 hs ⟨rfl, sg_rel ok2 I sat hR⟩) (fun no => absurd d no)))
theorem i_vc_ready {k : Nat} {u : SX} {v : SY} (I : i_Rel k u v) (hk : k + 5 ≤ 2560) (v1 : Int32) (v2 : Int32) : wpX_ready (fun r => wpY_ready (fun r' v' => r' = r ∧ i_Rel (k + 5) u v') v v1 v2) u v1 v2 := by
  obtain ⟨K, A, B, R, V, F, S, c, pa, pb, H, W, rfl, rfl, ok, I, sat, hR⟩ := I
  by_cases hv : (∃ s, s < 6 ∧ v1 = nI s) ∧ ∃ k, k < 16 ∧ v2 = nI k
  · obtain ⟨⟨s, hs, rfl⟩, j, hj, rfl⟩ := hv
    refine sg_x_ready_t hs hj (hR s hs) (I.1 s hs) (fun l => ?_) (fun l => ?_)
    · unfold wpY_ready
      exact sg_y_asked_t hs hj (br_f (by decide) (sg_y_fill2 ok I sat (fun pa pb H W Y hW => sg_y_has I.1 Y hs (by omega) (fun _ => ⟨rfl, rfl, sg_rel ok I sat hR⟩) (fun w => absurd l w))))
    · unfold wpY_ready
      exact sg_y_asked_t hs hj (br_f (by decide) (sg_y_fill2 ok I sat (fun pa pb H W Y hW => sg_y_has I.1 Y hs (by omega) (fun w => absurd w l) (fun _ => ⟨rfl, rfl, sg_rel ok I sat hR⟩))))
  · refine sg_x_ready_f hv ?_
    unfold wpY_ready
    exact sg_y_asked_f hv (br_t rfl ⟨rfl, sg_rel ok I sat hR⟩)
theorem i_vc_element {k : Nat} {u : SX} {v : SY} (I : i_Rel k u v) (hk : k + 5 ≤ 2560) (v1 : Int32) (v2 : Int32) : wpX_element (fun r => wpY_element (fun r' v' => r' = r ∧ i_Rel (k + 5) u v') v v1 v2) u v1 v2 := by
  obtain ⟨K, A, B, R, V, F, S, c, pa, pb, H, W, rfl, rfl, ok, I, sat, hR⟩ := I
  unfold wpX_element
  dsimp only
  by_cases hv : (∃ s, s < 6 ∧ v1 = nI s) ∧ ∃ k, k < 16 ∧ v2 = nI k
  · obtain ⟨⟨s, hs, rfl⟩, j, hj, rfl⟩ := hv
    refine sg_x_ready_t hs hj (hR s hs) (I.1 s hs) (fun l => br_f (by decide) (sg_x_val hs (by omega) ?_)) (fun l => br_t rfl ?_)
    · unfold wpY_element
      exact sg_y_asked_t hs hj (br_f (by decide) (sg_y_fill2 ok I sat (fun pa pb H W Y hW => sg_y_has I.1 Y hs (by omega) (fun _ => br_f (by decide) (sg_y_at hs (by omega) ⟨hW s hs j l, sg_rel ok I sat hR⟩)) (fun w => absurd l w))))
    · unfold wpY_element
      exact sg_y_asked_t hs hj (br_f (by decide) (sg_y_fill2 ok I sat (fun pa pb H W Y hW => sg_y_has I.1 Y hs (by omega) (fun w => absurd w l) (fun _ => br_t rfl ⟨rfl, sg_rel ok I sat hR⟩))))
  · refine sg_x_ready_f hv (br_t rfl ?_)
    unfold wpY_element
    exact sg_y_asked_f hv (br_t rfl ⟨rfl, sg_rel ok I sat hR⟩)
theorem sg_mn_16 {c : Nat} : (16 ≤ c → (16 : Int32) = nI (sg_mn c 16)) ∧ (¬ 16 ≤ c → nI c = nI (sg_mn c 16)) := by
  unfold sg_mn
  exact ⟨fun h => by rw [if_neg (by omega)]; rfl, fun h => by rw [if_pos (by omega)]⟩
theorem i_vc_known {k : Nat} {u : SX} {v : SY} (I : i_Rel k u v) (hk : k + 5 ≤ 2560) (v1 : Int32) : wpX_known (fun r => wpY_known (fun r' v' => r' = r ∧ i_Rel (k + 5) u v') v v1) u v1 := by
  obtain ⟨K, A, B, R, V, F, S, c, pa, pb, H, W, rfl, rfl, ok, I, sat, hR⟩ := I
  unfold wpX_known
  dsimp only
  by_cases hv : ∃ s, s < 6 ∧ v1 = nI s
  · obtain ⟨s, hs, rfl⟩ := hv
    have hin : vp_in (nI s) 6 := vp_in_nI hs (by decide)
    have c21 := I.1 s hs
    have y : wpY_known (fun r' v' => r' = nI (sg_mn (c s) 16) ∧ i_Rel (k + 5) (K, A, B, R, V, F, S) v') (pa, pb, K, A, B, H, W) (nI s) := by
      unfold wpY_known
      exact sg_y_seq_t hs (br_f (by decide) (sg_y_fill2 ok I sat (fun pa pb H W Y hW => ⟨17, sg_y_known I.1 Y hs ⟨rfl, sg_rel ok I sat hR⟩ 16 0 rfl⟩)))
    refine sg_x_seq_t hs (br_f (by decide) ?_)
    rw [nI_clamp (show s < 2 ^ 31 by omega), hR s hs]
    refine ⟨hin, pk_le 16 (c s) (fun z => ?_) (fun z => ⟨hin, ?_⟩)⟩
    · rw [sg_mn_16.1 z]; exact y
    · rw [sg_mn_16.2 (by omega)]; exact y
  · refine sg_x_seq_f hv (br_t rfl ?_)
    unfold wpY_known
    exact sg_y_seq_f hv (br_t rfl ⟨rfl, sg_rel ok I sat hR⟩)
theorem i_vc_firstAbove {k : Nat} {u : SX} {v : SY} (I : i_Rel k u v) (hk : k + 5 ≤ 2560) (v1 : Int32) (v2 : Int32) : wpX_firstAbove (fun r => wpY_firstAbove (fun r' v' => r' = r ∧ i_Rel (k + 5) u v') v v1 v2) u v1 v2 := by
  obtain ⟨K, A, B, R, V, F, S, c, pa, pb, H, W, rfl, rfl, ok, I, sat, hR⟩ := I
  unfold wpX_firstAbove
  dsimp only
  by_cases hv : ∃ s, s < 6 ∧ v1 = nI s
  · obtain ⟨s, hs, rfl⟩ := hv
    obtain ⟨r, hX, hY⟩ := sg_fa (K := K) (A := A) (B := B) (V := V) (F := F) (S := S) v2 I.1 hR hs 16 0 rfl
    refine sg_x_seq_t hs (br_f (by decide) ⟨17, hX _ ?_⟩)
    unfold wpY_firstAbove
    exact sg_y_seq_t hs (br_f (by decide) (sg_y_fill2 ok I sat (fun pa pb H W Y hW => ⟨17, hY pa pb H W Y hW _ ⟨rfl, sg_rel ok I sat hR⟩⟩)))
  · refine sg_x_seq_f hv (br_t rfl ?_)
    unfold wpY_firstAbove
    exact sg_y_seq_f hv (br_t rfl ⟨rfl, sg_rel ok I sat hR⟩)
theorem i_vc_agree {k : Nat} {u : SX} {v : SY} (I : i_Rel k u v) (hk : k + 5 ≤ 2560) (v1 : Int32) (v2 : Int32) : wpX_agree (fun r => wpY_agree (fun r' v' => r' = r ∧ i_Rel (k + 5) u v') v v1 v2) u v1 v2 := by
  obtain ⟨K, A, B, R, V, F, S, c, pa, pb, H, W, rfl, rfl, ok, I, sat, hR⟩ := I
  unfold wpX_agree
  dsimp only
  by_cases hv : ∃ s, s < 6 ∧ v1 = nI s
  · obtain ⟨s, hs, rfl⟩ := hv
    refine sg_x_seq_t hs (br_f (by decide) ?_)
    by_cases ht : ∃ t, t < 6 ∧ v2 = nI t
    · obtain ⟨t, ht, rfl⟩ := ht
      obtain ⟨r, hX, hY⟩ := sg_ag (K := K) (A := A) (B := B) (V := V) (F := F) (S := S) I.1 hR hs ht 16 0 rfl 0
      refine sg_x_seq_t ht (br_f (by decide) ⟨17, hX _ ?_⟩)
      unfold wpY_agree
      exact sg_y_seq_t hs (br_f (by decide) (sg_y_seq_t ht (br_f (by decide) (sg_y_fill2 ok I sat (fun pa pb H W Y hW => ⟨17, hY pa pb H W Y hW _ ⟨rfl, sg_rel ok I sat hR⟩⟩)))))
    · refine sg_x_seq_f ht (br_t rfl ?_)
      unfold wpY_agree
      exact sg_y_seq_t hs (br_f (by decide) (sg_y_seq_f ht (br_t rfl ⟨rfl, sg_rel ok I sat hR⟩)))
  · refine sg_x_seq_f hv (br_t rfl ?_)
    unfold wpY_agree
    exact sg_y_seq_f hv (br_t rfl ⟨rfl, sg_rel ok I sat hR⟩)
theorem i_vc_kind {k : Nat} {u : SX} {v : SY} (I : i_Rel k u v) (hk : k + 5 ≤ 2560) (v1 : Int32) : wpX_kind (fun r => wpY_kind (fun r' => r' = r ∧ i_Rel (k + 5) u v) v v1) u v1 := by
  obtain ⟨K, A, B, R, V, F, S, c, pa, pb, H, W, rfl, rfl, ok, I, sat, hR⟩ := I
  unfold wpX_kind
  dsimp only
  by_cases hv : ∃ s, s < 6 ∧ v1 = nI s
  · obtain ⟨s, hs, rfl⟩ := hv
    have hin : vp_in (nI s) 6 := vp_in_nI hs (by decide)
    refine sg_x_seq_t hs (br_f (by decide) ⟨hin, ?_⟩)
    unfold wpY_kind
    exact sg_y_seq_t hs (br_f (by decide) ⟨hin, rfl, sg_rel ok I sat hR⟩)
  · refine sg_x_seq_f hv (br_t rfl ?_)
    unfold wpY_kind
    exact sg_y_seq_f hv (br_t rfl ⟨rfl, sg_rel ok I sat hR⟩)
theorem i_vc_reset {k : Nat} {u : SX} {v : SY} (I : i_Rel k u v) (hk : k + 5 ≤ 2560) : wpX_reset (fun u' => wpY_reset (fun v' => i_Rel (k + 5) u' v') v) u := by
  obtain ⟨K, A, B, R, V, F, S, c, pa, pb, H, W, rfl, rfl, ok, I, sat, hR⟩ := I
  have ok2 := sg_z_ok K A B
  unfold wpX_reset
  dsimp only
  refine sg_x_zeros ?_
  exact sg_x_eval ok2 (fun c V R F S I sat hR => sg_y_reset (sg_rel ok2 I sat hR))
end
