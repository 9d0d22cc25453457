/-- the same definitions on both sides, sound; the component holds the pair that is reached and closed -/
def i_Rel (k : Nat) (u : SX) (v : SY) : Prop := ∃ (K A B R V F S : Nat → Int32) (c : Nat → Nat) (pa pb : Int32) (H W : Nat → Int32), u = (K, A, B, R, V, F, S) ∧ v = (pa, pb, K, A, B, H, W) ∧ sg_Ok K A B ∧ sg_Inv K A B c V ∧ sg_Sat K A B c V ∧ (∀ s, s < 6 → R s = nI (c s))
theorem sg_rel {k : Nat} {K A B R V F S : Nat → Int32} {c : Nat → Nat} {pa pb : Int32} {H W : Nat → Int32} (ok : sg_Ok K A B) (I : sg_Inv K A B c V) (sat : sg_Sat K A B c V) (hR : ∀ s, s < 6 → R s = nI (c s)) : i_Rel k (K, A, B, R, V, F, S) (pa, pb, K, A, B, H, W) := ⟨K, A, B, R, V, F, S, c, pa, pb, H, W, rfl, rfl, ok, I, sat, hR⟩
theorem i_up {k : Nat} {u : SX} {v : SY} (h : i_Rel k u v) : i_Rel (k + 5) u v := h
theorem i_vc0 : wpX_init (fun u => wpY_init (fun v => i_Rel 0 u v)) := by
  have ok := sg_z_ok (fun _ => 0) (fun _ => 0) (fun _ => 0)
  rw [sg_z_6] at ok
  unfold wpX_init
  refine sg_x_zeros ?_
  rw [sg_z_6]
  exact sg_x_eval ok (fun c V R F S I sat hR => sg_rel (k := 0) ok I sat hR)
theorem i_vc_define {k : Nat} {u : SX} {v : SY} (I : i_Rel k u v) (hk : k + 5 ≤ 2560) (v1 : Int32) (v2 : Int32) (v3 : Int32) (v4 : Int32) : wpX_define (fun r u' => wpY_define (fun r' v' => r' = r ∧ i_Rel (k + 5) u' v') v v1 v2 v3 v4) u v1 v2 v3 v4 := by
  obtain ⟨K, A, B, R, V, F, S, c, pa, pb, H, W, rfl, rfl, ok, I, sat, hR⟩ := I
  refine sg_x_def (fun d => ?_) (fun no => sg_y_def (fun d => absurd d no) (fun _ => ⟨rfl, sg_rel ok I sat hR⟩))
  obtain ⟨s, hs, rfl⟩ := d.1
  have ok2 := sg_Ok_upd ok d
  exact sg_x_52 hs (sg_x_eval ok2 (fun c V R F S I sat hR => sg_y_def (fun _ => sg_y_55 hs ⟨rfl, sg_rel ok2 I sat hR⟩) (fun no => absurd d no)))
theorem i_vc_ready {k : Nat} {u : SX} {v : SY} (I : i_Rel k u v) (hk : k + 5 ≤ 2560) (v1 : Int32) (v2 : Int32) : wpX_ready (fun r => wpY_ready (fun r' v' => r' = r ∧ i_Rel (k + 5) u v') v v1 v2) u v1 v2 := by
  obtain ⟨K, A, B, R, V, F, S, c, pa, pb, H, W, rfl, rfl, ok, I, sat, hR⟩ := I
  by_cases hv : (∃ s, s < 6 ∧ v1 = nI s) ∧ ∃ k, k < 16 ∧ v2 = nI k
  · obtain ⟨⟨s, hs, rfl⟩, j, hj, rfl⟩ := hv
    refine sg_x_ready_t hs hj (hR s hs) (I.1 s hs) (fun l => ?_) (fun l => ?_)
    · unfold wpY_ready
      exact sg_y_asked_t hs hj (br_f (by decide) (sg_y_fill2 ok I sat (fun pa pb H W Y hW => sg_y_has I.1 Y hs (by omega) (fun _ => ⟨rfl, rfl, sg_rel ok I sat hR⟩) (fun w => absurd l w))))
    · unfold wpY_ready
      exact sg_y_asked_t hs hj (br_f (by decide) (sg_y_fill2 ok I sat (fun pa pb H W Y hW => sg_y_has I.1 Y hs (by omega) (fun w => absurd w l) (fun _ => ⟨rfl, rfl, sg_rel ok I sat hR⟩))))
  · refine sg_x_ready_f hv ?_
    unfold wpY_ready
    exact sg_y_asked_f hv (br_t rfl ⟨rfl, sg_rel ok I sat hR⟩)
theorem i_vc_element {k : Nat} {u : SX} {v : SY} (I : i_Rel k u v) (hk : k + 5 ≤ 2560) (v1 : Int32) (v2 : Int32) : wpX_element (fun r => wpY_element (fun r' v' => r' = r ∧ i_Rel (k + 5) u v') v v1 v2) u v1 v2 := by
  obtain ⟨K, A, B, R, V, F, S, c, pa, pb, H, W, rfl, rfl, ok, I, sat, hR⟩ := I
  unfold wpX_element
  dsimp only
  by_cases hv : (∃ s, s < 6 ∧ v1 = nI s) ∧ ∃ k, k < 16 ∧ v2 = nI k
  · obtain ⟨⟨s, hs, rfl⟩, j, hj, rfl⟩ := hv
    refine sg_x_ready_t hs hj (hR s hs) (I.1 s hs) (fun l => br_f (by decide) (sg_x_val hs (by omega) ?_)) (fun l => br_t rfl ?_)
    · unfold wpY_element
      exact sg_y_asked_t hs hj (br_f (by decide) (sg_y_fill2 ok I sat (fun pa pb H W Y hW => sg_y_has I.1 Y hs (by omega) (fun _ => br_f (by decide) (sg_y_at hs (by omega) ⟨hW s hs j l, sg_rel ok I sat hR⟩)) (fun w => absurd l w))))
    · unfold wpY_element
      exact sg_y_asked_t hs hj (br_f (by decide) (sg_y_fill2 ok I sat (fun pa pb H W Y hW => sg_y_has I.1 Y hs (by omega) (fun w => absurd w l) (fun _ => br_t rfl ⟨rfl, sg_rel ok I sat hR⟩))))
  · refine sg_x_ready_f hv (br_t rfl ?_)
    unfold wpY_element
    exact sg_y_asked_f hv (br_t rfl ⟨rfl, sg_rel ok I sat hR⟩)
theorem sg_mn_16 {c : Nat} : (16 ≤ c → (16 : Int32) = nI (sg_mn c 16)) ∧ (¬ 16 ≤ c → nI c = nI (sg_mn c 16)) := by
  unfold sg_mn
  exact ⟨fun h => by rw [if_neg (by omega)]; rfl, fun h => by rw [if_pos (by omega)]⟩
theorem i_vc_known {k : Nat} {u : SX} {v : SY} (I : i_Rel k u v) (hk : k + 5 ≤ 2560) (v1 : Int32) : wpX_known (fun r => wpY_known (fun r' v' => r' = r ∧ i_Rel (k + 5) u v') v v1) u v1 := by
  obtain ⟨K, A, B, R, V, F, S, c, pa, pb, H, W, rfl, rfl, ok, I, sat, hR⟩ := I
  unfold wpX_known
  dsimp only
  by_cases hv : ∃ s, s < 6 ∧ v1 = nI s
  · obtain ⟨s, hs, rfl⟩ := hv
    have hin : vp_in (nI s) 6 := vp_in_nI hs (by decide)
    have c21 := I.1 s hs
    have y : wpY_known (fun r' v' => r' = nI (sg_mn (c s) 16) ∧ i_Rel (k + 5) (K, A, B, R, V, F, S) v') (pa, pb, K, A, B, H, W) (nI s) := by
      unfold wpY_known
      exact sg_y_seq_t hs (br_f (by decide) (sg_y_fill2 ok I sat (fun pa pb H W Y hW => ⟨17, sg_y_known I.1 Y hs ⟨rfl, sg_rel ok I sat hR⟩ 16 0 rfl⟩)))
    refine sg_x_seq_t hs (br_f (by decide) ?_)
    rw [nI_clamp (show s < 2 ^ 31 by omega), hR s hs]
    refine ⟨hin, pk_le 16 (c s) (fun z => ?_) (fun z => ⟨hin, ?_⟩)⟩
    · rw [sg_mn_16.1 z]; exact y
    · rw [sg_mn_16.2 (by omega)]; exact y
  · refine sg_x_seq_f hv (br_t rfl ?_)
    unfold wpY_known
    exact sg_y_seq_f hv (br_t rfl ⟨rfl, sg_rel ok I sat hR⟩)
theorem i_vc_firstAbove {k : Nat} {u : SX} {v : SY} (I : i_Rel k u v) (hk : k + 5 ≤ 2560) (v1 : Int32) (v2 : Int32) : wpX_firstAbove (fun r => wpY_firstAbove (fun r' v' => r' = r ∧ i_Rel (k + 5) u v') v v1 v2) u v1 v2 := by
  obtain ⟨K, A, B, R, V, F, S, c, pa, pb, H, W, rfl, rfl, ok, I, sat, hR⟩ := I
  unfold wpX_firstAbove
  dsimp only
  by_cases hv : ∃ s, s < 6 ∧ v1 = nI s
  · obtain ⟨s, hs, rfl⟩ := hv
    obtain ⟨r, hX, hY⟩ := sg_fa (K := K) (A := A) (B := B) (V := V) (F := F) (S := S) v2 I.1 hR hs 16 0 rfl
    refine sg_x_seq_t hs (br_f (by decide) ⟨17, hX _ ?_⟩)
    unfold wpY_firstAbove
    exact sg_y_seq_t hs (br_f (by decide) (sg_y_fill2 ok I sat (fun pa pb H W Y hW => ⟨17, hY pa pb H W Y hW _ ⟨rfl, sg_rel ok I sat hR⟩⟩)))
  · refine sg_x_seq_f hv (br_t rfl ?_)
    unfold wpY_firstAbove
    exact sg_y_seq_f hv (br_t rfl ⟨rfl, sg_rel ok I sat hR⟩)
theorem i_vc_agree {k : Nat} {u : SX} {v : SY} (I : i_Rel k u v) (hk : k + 5 ≤ 2560) (v1 : Int32) (v2 : Int32) : wpX_agree (fun r => wpY_agree (fun r' v' => r' = r ∧ i_Rel (k + 5) u v') v v1 v2) u v1 v2 := by
  obtain ⟨K, A, B, R, V, F, S, c, pa, pb, H, W, rfl, rfl, ok, I, sat, hR⟩ := I
  unfold wpX_agree
  dsimp only
  by_cases hv : ∃ s, s < 6 ∧ v1 = nI s
  · obtain ⟨s, hs, rfl⟩ := hv
    refine sg_x_seq_t hs (br_f (by decide) ?_)
    by_cases ht : ∃ t, t < 6 ∧ v2 = nI t
    · obtain ⟨t, ht, rfl⟩ := ht
      obtain ⟨r, hX, hY⟩ := sg_ag (K := K) (A := A) (B := B) (V := V) (F := F) (S := S) I.1 hR hs ht 16 0 rfl 0
      refine sg_x_seq_t ht (br_f (by decide) ⟨17, hX _ ?_⟩)
      unfold wpY_agree
      exact sg_y_seq_t hs (br_f (by decide) (sg_y_seq_t ht (br_f (by decide) (sg_y_fill2 ok I sat (fun pa pb H W Y hW => ⟨17, hY pa pb H W Y hW _ ⟨rfl, sg_rel ok I sat hR⟩⟩)))))
    · refine sg_x_seq_f ht (br_t rfl ?_)
      unfold wpY_agree
      exact sg_y_seq_t hs (br_f (by decide) (sg_y_seq_f ht (br_t rfl ⟨rfl, sg_rel ok I sat hR⟩)))
  · refine sg_x_seq_f hv (br_t rfl ?_)
    unfold wpY_agree
    exact sg_y_seq_f hv (br_t rfl ⟨rfl, sg_rel ok I sat hR⟩)
theorem i_vc_kind {k : Nat} {u : SX} {v : SY} (I : i_Rel k u v) (hk : k + 5 ≤ 2560) (v1 : Int32) : wpX_kind (fun r => wpY_kind (fun r' => r' = r ∧ i_Rel (k + 5) u v) v v1) u v1 := by
  obtain ⟨K, A, B, R, V, F, S, c, pa, pb, H, W, rfl, rfl, ok, I, sat, hR⟩ := I
  unfold wpX_kind
  dsimp only
  by_cases hv : ∃ s, s < 6 ∧ v1 = nI s
  · obtain ⟨s, hs, rfl⟩ := hv
    have hin : vp_in (nI s) 6 := vp_in_nI hs (by decide)
    refine sg_x_seq_t hs (br_f (by decide) ⟨hin, ?_⟩)
    unfold wpY_kind
    exact sg_y_seq_t hs (br_f (by decide) ⟨hin, rfl, sg_rel ok I sat hR⟩)
  · refine sg_x_seq_f hv (br_t rfl ?_)
    unfold wpY_kind
    exact sg_y_seq_f hv (br_t rfl ⟨rfl, sg_rel ok I sat hR⟩)
theorem i_vc_reset {k : Nat} {u : SX} {v : SY} (I : i_Rel k u v) (hk : k + 5 ≤ 2560) : wpX_reset (fun u' => wpY_reset (fun v' => i_Rel (k + 5) u' v') v) u := by
  obtain ⟨K, A, B, R, V, F, S, c, pa, pb, H, W, rfl, rfl, ok, I, sat, hR⟩ := I
  have ok2 := sg_z_ok K A B
  unfold wpX_reset
  dsimp only
  refine sg_x_zeros ?_
  exact sg_x_eval ok2 (fun c V R F S I sat hR => sg_y_reset (sg_rel ok2 I sat hR))
