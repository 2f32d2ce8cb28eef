abbrev rm_X3_latestGlyph : Room := { frames := 1, cells := 0, slots := 0, locals := 21 }
theorem ok_X3_latestGlyph : MOK yX3_latestGlyph RX3 cX3_latestGlyph 1 (some (.object "FontPacker$Glyph")) 0 := ⟨bw_350, bw_351, bw_67, bw_352, by decide +kernel⟩
set_option maxHeartbeats 4000000 in
set_option maxRecDepth 100000 in
theorem cm_X3_latestGlyph {l : Launch} {g : Gx} {S : St} {j : Nat} (hj : j < 2): CMr g l yX3_latestGlyph cX3_latestGlyph 1 (some (.object "FontPacker$Glyph")) rm_X3_latestGlyph [.ref (gad g (148 + j))] S (136 + lgId S j) := cm_entry (own := RX3) (plainFor_of_name (by decide)) rfl (Nat.le_of_ble_eq_true rfl) rfl (fun hle f hf C hrt => by
  subst hf
  refine ww_aload_n C dX3_latestGlyph_0 0 rfl ?_
  refine ww_aload_n C dX3_latestGlyph_1 0 rfl ?_
  refine gf_Font_glyphCount C (j := j) hj bw_201 dX3_latestGlyph_2 ?_
  refine ww_iconst (v := 1) C dX3_latestGlyph_5 (by decide) ?_
  refine ww_isub C dX3_latestGlyph_6 ?_
  refine ww_cVr (As := [.int ((S.2.1 1 j) - 1)]) (rest := []) C ok_X3_glyphAt bw_353 dX3_latestGlyph_7 (cm_X3_glyphAt hj) (rc_Font hj) rfl ⟨Nat.le_of_ble_eq_true rfl, Nat.le_of_ble_eq_true rfl⟩ (Nat.le_of_ble_eq_true rfl) (c2 := 0) (s2 := 0) rfl rfl ⟨Nat.le_of_ble_eq_true rfl, Nat.le_of_ble_eq_true rfl⟩ rfl ?_
  exact ww_aret C hrt dX3_latestGlyph_10)
