theorem sg_y_seq_t {post : Int32 → Prop} {v : SY} {s : Nat} (hs : s < 6) (h : post 1) : wpY_isSequence post v (nI s) := by
  obtain ⟨pa, pb, K, A, B, H, W⟩ := v
  unfold wpY_isSequence
  exact br_f (nI_pos (by omega)) (br_f (nI_nlt (a := 5) (b := s) (by omega) (by omega)) h)
theorem sg_y_seq_f {post : Int32 → Prop} {v : SY} {x : Int32} (hx : ¬ ∃ s, s < 6 ∧ x = nI s) (h : post 0) : wpY_isSequence post v x := by
  obtain ⟨pa, pb, K, A, B, H, W⟩ := v
  unfold wpY_isSequence
  refine br_c (fun _ => h) (fun h0 => br_c (fun _ => h) (fun h6 => ?_))
  obtain ⟨j, hj, rfl⟩ := nI_of h0
  by_cases l : j < 6
  · exact absurd ⟨j, l, rfl⟩ hx
  · exact absurd (nI_lt (a := 5) (b := j) (by omega) hj) h6
/-- define takes these arguments -/
def sg_dv (p0 p1 p2 p3 : Int32) : Prop := (∃ s, s < 6 ∧ p0 = nI s) ∧ ∃ kd, kd ≤ 8 ∧ p1 = nI kd ∧ (sg_na kd = true → ∃ a, a < 6 ∧ p2 = nI a) ∧ (sg_nb kd = true → ∃ b, b < 6 ∧ p3 = nI b)
theorem sg_dv_k {p0 p2 p3 : Int32} {kd : Nat} (hk : kd ≤ 8) (h : sg_dv p0 (nI kd) p2 p3) : (sg_na kd = true → ∃ a, a < 6 ∧ p2 = nI a) ∧ (sg_nb kd = true → ∃ b, b < 6 ∧ p3 = nI b) := by
  obtain ⟨_, kd', hk', e, h⟩ := h
  have e := (nI_eq (by omega) (by omega)).mp e
  subst e
  exact h
theorem sg_dv_n {p0 p1 p2 p3 : Int32} (h : p1 < 0) : ¬ sg_dv p0 p1 p2 p3 := by
  rintro ⟨_, kd, hk, rfl, _⟩
  exact nI_pos (by omega) h
theorem sg_dv_8 {p0 p1 p2 p3 : Int32} (h : ¬ p1 ≤ 8) : ¬ sg_dv p0 p1 p2 p3 := by
  rintro ⟨_, kd, hk, rfl, _⟩
  exact h (nI_le (a := kd) (b := 8) hk (by omega))
theorem sg_x_fis {post : Int32 → Prop} : ∀ kd, kd ≤ 8 → (sg_na kd = true → post 1) → (sg_na kd = false → post 0) → wpX_firstIsSequence post (nI kd) := by
  unfold wpX_firstIsSequence
  refine sg_9 ?_ ?_ ?_ ?_ ?_ ?_ ?_ ?_ ?_ <;> intro h1 h0
  · exact br_t rfl (h0 rfl)
  · exact br_f (by decide) (br_t rfl (h0 rfl))
  · exact br_f (by decide) (br_f (by decide) (br_f (by decide) (h1 rfl)))
  · exact br_f (by decide) (br_f (by decide) (br_f (by decide) (h1 rfl)))
  · exact br_f (by decide) (br_f (by decide) (br_f (by decide) (h1 rfl)))
  · exact br_f (by decide) (br_f (by decide) (br_t rfl (h0 rfl)))
  · exact br_f (by decide) (br_f (by decide) (br_f (by decide) (h1 rfl)))
  · exact br_f (by decide) (br_f (by decide) (br_f (by decide) (h1 rfl)))
  · exact br_f (by decide) (br_f (by decide) (br_f (by decide) (h1 rfl)))
theorem sg_x_sis {post : Int32 → Prop} : ∀ kd, kd ≤ 8 → (sg_nb kd = true → post 1) → (sg_nb kd = false → post 0) → wpX_secondIsSequence post (nI kd) := by
  unfold wpX_secondIsSequence
  refine sg_9 ?_ ?_ ?_ ?_ ?_ ?_ ?_ ?_ ?_ <;> intro h1 h0
  · exact br_t rfl (h0 rfl)
  · exact br_f (by decide) (br_f (by decide) (br_f (by decide) (h1 rfl)))
  · exact br_f (by decide) (br_t rfl (h0 rfl))
  · exact br_f (by decide) (br_f (by decide) (br_f (by decide) (h1 rfl)))
  · exact br_f (by decide) (br_f (by decide) (br_f (by decide) (h1 rfl)))
  · exact br_f (by decide) (br_f (by decide) (br_f (by decide) (h1 rfl)))
  · exact br_f (by decide) (br_f (by decide) (br_t rfl (h0 rfl)))
  · exact br_f (by decide) (br_f (by decide) (br_f (by decide) (h1 rfl)))
  · exact br_f (by decide) (br_f (by decide) (br_f (by decide) (h1 rfl)))
theorem sg_y_na {post : Int32 → Prop} {v : SY} : ∀ kd, kd ≤ 8 → (sg_na kd = true → post 1) → (sg_na kd = false → post 0) → wpY_namesA post v (nI kd) := by
  obtain ⟨pa, pb, K, A, B, H, W⟩ := v
  unfold wpY_namesA
  dsimp only
  refine sg_9 ?_ ?_ ?_ ?_ ?_ ?_ ?_ ?_ ?_ <;> intro h1 h0
  · exact br_f (by decide) (br_f (by decide) (br_f (by decide) (br_f (by decide) (br_f (by decide) (br_f (by decide) (h0 rfl))))))
  · exact br_f (by decide) (br_f (by decide) (br_f (by decide) (br_f (by decide) (br_f (by decide) (br_f (by decide) (h0 rfl))))))
  · exact br_t rfl (h1 rfl)
  · exact br_f (by decide) (br_t rfl (h1 rfl))
  · exact br_f (by decide) (br_f (by decide) (br_t rfl (h1 rfl)))
  · exact br_f (by decide) (br_f (by decide) (br_f (by decide) (br_f (by decide) (br_f (by decide) (br_f (by decide) (h0 rfl))))))
  · exact br_f (by decide) (br_f (by decide) (br_f (by decide) (br_t rfl (h1 rfl))))
  · exact br_f (by decide) (br_f (by decide) (br_f (by decide) (br_f (by decide) (br_t rfl (h1 rfl)))))
  · exact br_f (by decide) (br_f (by decide) (br_f (by decide) (br_f (by decide) (br_f (by decide) (br_t rfl (h1 rfl))))))
theorem sg_y_nb {post : Int32 → Prop} {v : SY} : ∀ kd, kd ≤ 8 → (sg_nb kd = true → post 1) → (sg_nb kd = false → post 0) → wpY_namesB post v (nI kd) := by
  obtain ⟨pa, pb, K, A, B, H, W⟩ := v
  unfold wpY_namesB
  dsimp only
  refine sg_9 ?_ ?_ ?_ ?_ ?_ ?_ ?_ ?_ ?_ <;> intro h1 h0
  · exact br_f (by decide) (br_f (by decide) (br_f (by decide) (br_f (by decide) (br_f (by decide) (br_f (by decide) (h0 rfl))))))
  · exact br_t rfl (h1 rfl)
  · exact br_f (by decide) (br_f (by decide) (br_f (by decide) (br_f (by decide) (br_f (by decide) (br_f (by decide) (h0 rfl))))))
  · exact br_f (by decide) (br_t rfl (h1 rfl))
  · exact br_f (by decide) (br_f (by decide) (br_t rfl (h1 rfl)))
  · exact br_f (by decide) (br_f (by decide) (br_f (by decide) (br_t rfl (h1 rfl))))
  · exact br_f (by decide) (br_f (by decide) (br_f (by decide) (br_f (by decide) (br_f (by decide) (br_f (by decide) (h0 rfl))))))
  · exact br_f (by decide) (br_f (by decide) (br_f (by decide) (br_f (by decide) (br_t rfl (h1 rfl)))))
  · exact br_f (by decide) (br_f (by decide) (br_f (by decide) (br_f (by decide) (br_f (by decide) (br_t rfl (h1 rfl))))))
theorem sg_x_35 {post : Int32 → SX → Prop} {p0 p2 p3 : Int32} {K A B R V F S : Nat → Int32} {kd : Nat} (hk : kd ≤ 8) (h1 : (sg_nb kd = true → ∃ b, b < 6 ∧ p3 = nI b) → wX_define_52 post p0 (nI kd) p2 p3 K A B R V F S) (h0 : ¬ (sg_nb kd = true → ∃ b, b < 6 ∧ p3 = nI b) → post 0 (K, A, B, R, V, F, S)) : wX_define_35 post p0 (nI kd) p2 p3 K A B R V F S := by
  unfold wX_define_35
  refine sg_x_sis kd hk (fun t => br_f (by decide) ?_) (fun f => br_t rfl (h1 (fun t => absurd (f.symm.trans t) (by decide))))
  by_cases hb : ∃ b, b < 6 ∧ p3 = nI b
  · obtain ⟨b, hb6, rfl⟩ := hb
    exact sg_x_seq_t hb6 (br_f (by decide) (h1 (fun _ => ⟨b, hb6, rfl⟩)))
  · exact sg_x_seq_f hb (br_t rfl (h0 (fun w => hb (w t))))
theorem sg_x_def {post : Int32 → SX → Prop} {p0 p1 p2 p3 : Int32} {K A B R V F S : Nat → Int32} (h1 : sg_dv p0 p1 p2 p3 → wX_define_52 post p0 p1 p2 p3 K A B R V F S) (h0 : ¬ sg_dv p0 p1 p2 p3 → post 0 (K, A, B, R, V, F, S)) : wpX_define post (K, A, B, R, V, F, S) p0 p1 p2 p3 := by
  unfold wpX_define
  dsimp only
  by_cases hs : ∃ s, s < 6 ∧ p0 = nI s
  · obtain ⟨s, hs6, rfl⟩ := hs
    refine sg_x_seq_t hs6 (br_f (by decide) (br_c (fun z => h0 (sg_dv_n z)) (fun z => br_c (fun z8 => ?_) (fun z8 => h0 (sg_dv_8 z8)))))
    obtain ⟨kd, hk, rfl⟩ := nI_of2 (M := 8) (n := 8) (by decide) z z8
    refine sg_x_fis kd hk (fun t => br_f (by decide) ?_) (fun f => br_t rfl ?_)
    · by_cases ha : ∃ a, a < 6 ∧ p2 = nI a
      · obtain ⟨a, ha6, rfl⟩ := ha
        exact sg_x_seq_t ha6 (br_f (by decide) (sg_x_35 hk (fun w => h1 ⟨⟨s, hs6, rfl⟩, kd, hk, rfl, fun _ => ⟨a, ha6, rfl⟩, w⟩) (fun w => h0 (fun y => w (sg_dv_k hk y).2))))
      · exact sg_x_seq_f ha (br_t rfl (h0 (fun y => ha ((sg_dv_k hk y).1 t))))
    · exact sg_x_35 hk (fun w => h1 ⟨⟨s, hs6, rfl⟩, kd, hk, rfl, fun t => absurd (f.symm.trans t) (by decide), w⟩) (fun w => h0 (fun y => w (sg_dv_k hk y).2))
  · exact sg_x_seq_f hs (br_t rfl (h0 (fun w => hs w.1)))
theorem sg_y_36 {post : Int32 → SY → Prop} {p0 p2 p3 pa pb : Int32} {K A B H W : Nat → Int32} {kd : Nat} (hk : kd ≤ 8) (h1 : (sg_nb kd = true → ∃ b, b < 6 ∧ p3 = nI b) → wY_define_55 post p0 (nI kd) p2 p3 pa pb K A B H W) (h0 : ¬ (sg_nb kd = true → ∃ b, b < 6 ∧ p3 = nI b) → post 0 (pa, pb, K, A, B, H, W)) : wY_define_36 post p0 (nI kd) p2 p3 pa pb K A B H W := by
  unfold wY_define_36
  refine sg_y_nb kd hk (fun t => br_f (by decide) ?_) (fun f => br_t rfl (h1 (fun t => absurd (f.symm.trans t) (by decide))))
  by_cases hb : ∃ b, b < 6 ∧ p3 = nI b
  · obtain ⟨b, hb6, rfl⟩ := hb
    exact sg_y_seq_t hb6 (br_f (by decide) (h1 (fun _ => ⟨b, hb6, rfl⟩)))
  · exact sg_y_seq_f hb (br_t rfl (h0 (fun w => hb (w t))))
theorem sg_y_def {post : Int32 → SY → Prop} {p0 p1 p2 p3 pa pb : Int32} {K A B H W : Nat → Int32} (h1 : sg_dv p0 p1 p2 p3 → wY_define_55 post p0 p1 p2 p3 pa pb K A B H W) (h0 : ¬ sg_dv p0 p1 p2 p3 → post 0 (pa, pb, K, A, B, H, W)) : wpY_define post (pa, pb, K, A, B, H, W) p0 p1 p2 p3 := by
  unfold wpY_define
  dsimp only
  by_cases hs : ∃ s, s < 6 ∧ p0 = nI s
  · obtain ⟨s, hs6, rfl⟩ := hs
    refine sg_y_seq_t hs6 (br_f (by decide) (br_c (fun z => h0 (sg_dv_n z)) (fun z => br_c (fun z8 => ?_) (fun z8 => h0 (sg_dv_8 z8)))))
    obtain ⟨kd, hk, rfl⟩ := nI_of2 (M := 8) (n := 8) (by decide) z z8
    refine sg_y_na kd hk (fun t => br_f (by decide) ?_) (fun f => br_t rfl ?_)
    · by_cases ha : ∃ a, a < 6 ∧ p2 = nI a
      · obtain ⟨a, ha6, rfl⟩ := ha
        exact sg_y_seq_t ha6 (br_f (by decide) (sg_y_36 hk (fun w => h1 ⟨⟨s, hs6, rfl⟩, kd, hk, rfl, fun _ => ⟨a, ha6, rfl⟩, w⟩) (fun w => h0 (fun y => w (sg_dv_k hk y).2))))
      · exact sg_y_seq_f ha (br_t rfl (h0 (fun y => ha ((sg_dv_k hk y).1 t))))
    · exact sg_y_36 hk (fun w => h1 ⟨⟨s, hs6, rfl⟩, kd, hk, rfl, fun t => absurd (f.symm.trans t) (by decide), w⟩) (fun w => h0 (fun y => w (sg_dv_k hk y).2))
  · exact sg_y_seq_f hs (br_t rfl (h0 (fun w => hs w.1)))
theorem sg_y_55 {post : Int32 → SY → Prop} {p1 p2 p3 pa pb : Int32} {K A B H W : Nat → Int32} {s : Nat} (hs : s < 6) (h : post 1 (pa, pb, upd K s p1, upd A s p2, upd B s p3, H, W)) : wY_define_55 post (nI s) p1 p2 p3 pa pb K A B H W := by
  unfold wY_define_55
  rw [nI_clamp (show s < 2 ^ 31 by omega)]
  have hin : vp_in (nI s) 6 := vp_in_nI hs (by decide)
  exact ⟨hin, nm_e ⟨hin, nm_e ⟨hin, nm_e h⟩⟩⟩
theorem sg_x_52 {post : Int32 → SX → Prop} {p1 p2 p3 : Int32} {K A B R V F S : Nat → Int32} {s : Nat} (hs : s < 6) (h : wpX_evaluate (post 1) (upd K s p1, upd A s p2, upd B s p3, R, V, F, S)) : wX_define_52 post (nI s) p1 p2 p3 K A B R V F S := by
  unfold wX_define_52
  rw [nI_clamp (show s < 2 ^ 31 by omega)]
  have hin : vp_in (nI s) 6 := vp_in_nI hs (by decide)
  exact ⟨hin, nm_e ⟨hin, nm_e ⟨hin, nm_e h⟩⟩⟩
theorem sg_Ok_upd {p1 p2 p3 : Int32} {K A B : Nat → Int32} {s : Nat} (ok : sg_Ok K A B) (h : sg_dv (nI s) p1 p2 p3) : sg_Ok (upd K s p1) (upd A s p2) (upd B s p3) := by
  intro j hj
  by_cases e : j = s
  · subst e
    rw [pk_us, pk_us, pk_us]
    obtain ⟨_, kd, hk, rfl, hA, hB⟩ := h
    unfold sg_Ok1
    rw [nI_clamp (show kd < 2 ^ 31 by omega)]
    refine ⟨hk, rfl, fun t => ?_, fun t => ?_⟩
    · obtain ⟨a, ha, rfl⟩ := hA t
      rw [nI_clamp (show a < 2 ^ 31 by omega)]
      exact ⟨ha, rfl⟩
    · obtain ⟨b, hb, rfl⟩ := hB t
      rw [nI_clamp (show b < 2 ^ 31 by omega)]
      exact ⟨hb, rfl⟩
  · rw [pk_un e, pk_un e, pk_un e]
    exact ok j hj
/-- the filling beside a pair that is reached and closed: the same counts, the same elements -/
theorem sg_y_fill2 {post : SY → Prop} {pa pb : Int32} {K A B H W V : Nat → Int32} {c : Nat → Nat} (ok : sg_Ok K A B) (I : sg_Inv K A B c V) (sat : sg_Sat K A B c V) (hp : ∀ (pa pb : Int32) (H W : Nat → Int32), sg_YI c H → (∀ s, s < 6 → ∀ k, k < c s → W (21 * s + k) = V (21 * s + k)) → post (pa, pb, K, A, B, H, W)) : wpY_fill post (pa, pb, K, A, B, H, W) := by
  refine sg_y_fill ok (fun c' pa pb H W I' Y' sat' => ?_)
  have e := sg_same I sat I' sat'
  refine hp pa pb H W (fun s hs k hk => ?_) (fun s hs => (e s hs).2)
  rw [Y' s hs k hk, (e s hs).1]
