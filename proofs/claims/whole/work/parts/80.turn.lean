/-! one turn of the law -/
theorem law_turn {b L : Nat} {xs : Nat → Int32} {S : St} {i : Nat} {K : St → Int32 → Prop} (hL : L ≤ 320) (h : Sim S) (hi : i ≤ 400) (hK : ∀ S2, Sim S2 → i + 5 ≤ L → K S2 (nI (i + 5))) : wp_law b L xs S (nI i) K := by
  unfold wp_law
  refine ⟨fun _ => trivial, fun z => ?_⟩
  have hle : i + 5 ≤ L := by
    refine Classical.byContradiction fun q => z ?_
    by_cases h5 : 5 ≤ L
    · rw [show nI L - 5 = nI (L - 5) from mi (k := 5) h5]
      exact (nI_ltI (by omega) (by omega)).mpr (by omega)
    · have : nI L - 5 < 0 := pk_sneg (b := 5) (by omega) (by omega)
      exact Int32.lt_of_lt_of_le this (nI_pos' (by omega))
  have v0 : vp_in (nI i) L := pk_in i L (by omega)
  have v1 : vp_in (nI i + 1) L := pk_in (i + 1) L (by omega) (nI_1 i)
  have v2 : vp_in (nI i + 2) L := pk_in (i + 2) L (by omega) (nI_add i 2)
  have v3 : vp_in (nI i + 3) L := pk_in (i + 3) L (by omega) (nI_add i 3)
  have v4 : vp_in (nI i + 4) L := pk_in (i + 4) L (by omega) (nI_add i 4)
  have k : ∀ S2, Sim S2 → wp_law_952 b L xs S2 (nI i) K := fun S2 s x e => by
    rw [e, show nI i + 5 = nI (i + 5) from nI_add i 5]; exact hK S2 s hle
  have pt : ∀ s0 : Int32, (s0 = 0 ∨ s0 = 1) → (s0 = 0 → xs ((nI i + 3).toNatClampNeg) = 0) → (s0 = 1 → ¬ xs ((nI i + 3).toNatClampNeg) = 0) → wp_law_239 b L xs S (nI i) s0 (xs ((nI i + 2).toNatClampNeg)) (xs ((nI i + 1).toNatClampNeg)) K := by
    intro s0 h01 a0 a1
    refine op_point (Z := fun k' b' S2 => ((fv_X11_thrown S2) = k' → ((¬ k' = 0 → wp_law_305 b L xs S2 (nI i) K) ∧ (k' = 0 → (((lg_cmp S2.2.2.2 b'.toInt64) = 0 → wp_law_305 b L xs S2 (nI i) K) ∧ (¬ (lg_cmp S2.2.2.2 b'.toInt64) = 0 → False))))) ∧ (¬ (fv_X11_thrown S2) = k' → False)) h01 h (fun k' S1 hw => ⟨v1, v2, v3, fun y => ?_, fun y => ?_⟩) (fun k' b' S2 a c s => gd_ok a c (k S2 s))
    · rcases h01 with q | q
      · rw [q] at hw; exact hw
      · exact absurd y (a1 q)
    · rcases h01 with q | q
      · exact absurd (a0 q) y
      · rw [q] at hw; exact hw
  refine ⟨v0, fun _ => ⟨v1, op_glyph v1 h (fun k' b' S2 a c s => gd_ok a c (k S2 s))⟩, fun _ => op_contour h (fun k' b' S2 a c s => gd_ok a c (k S2 s)), fun _ => ⟨v1, v2, v3, fun y => pt 0 (Or.inl rfl) (fun _ => y) (fun q => absurd q (by decide)), fun y => pt 1 (Or.inr rfl) (fun q => absurd q (by decide)) (fun _ => y)⟩, fun _ => ⟨v1, v2, v3, v4, op_table h (fun k' S1 hw => ⟨v1, v2, v3, v4, hw⟩) (fun k' b' S2 a c s => gd_ok a c (k S2 s))⟩, fun _ => op_clear h k, fun _ => op_pack h (fun k' b' S2 a c s => gd_ok a c (k S2 s)), fun _ => op_plain h (fun k' b' S2 a c s => gd_ok a c (k S2 s)), fun _ => op_read h (fun k' b' S2 a c s => gd_ok a c (k S2 s)), fun _ => op_stage h k, fun _ => ⟨v1, v2, v3, op_put h (fun k' S1 hw => ⟨v1, v2, v3, hw⟩) (fun k' b' S2 a c s => gd_ok a c (k S2 s))⟩, fun _ => ⟨v1, v2, op_set h (fun k' S1 hw => ⟨v1, v2, hw⟩) (fun k' S2 a s => ⟨fun _ => k S2 s, fun q => q a⟩)⟩, fun _ => ⟨v1, op_cut (Z := fun k' S2 => ((fv_X11_thrown S2) = k' → wp_law_952 b L xs S2 (nI i) K) ∧ (¬ (fv_X11_thrown S2) = k' → False)) h (fun k' S1 hw => ⟨v1, fun S200 e => by rw [e]; exact hw⟩) (fun k' S2 a s => ⟨fun _ => k S2 s, fun q => q a⟩)⟩, fun _ => ⟨v1, op_at h (fun k' S1 hw => ⟨v1, hw⟩) (fun k' b' S2 a c s => gd_ok a c (k S2 s))⟩, fun _ => ⟨v1, op_count h (fun k' S1 hw => ⟨v1, hw⟩) (fun k' b' S2 a c s => gd_ok a c (k S2 s))⟩, fun _ => ⟨v1, v2, v3, op_outline h (fun k' S1 hw => ⟨v1, v2, v3, hw⟩) (fun k' b' S2 a c s => gd_ok a c (k S2 s))⟩, fun _ _ _ _ _ _ _ _ _ _ _ _ _ _ _ => k S h⟩
