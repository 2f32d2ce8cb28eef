abbrev rm_X10_refuseEmptyContour : Room := { frames := 6, cells := 1, slots := 6, locals := 82 }
theorem ok_X10_refuseEmptyContour : MOK yX10_refuseEmptyContour RX10 cX10_refuseEmptyContour 1 none 0 := ⟨bw_343, bw_1, bw_61, bw_344, by decide +kernel⟩
def wp_X10_refuseEmptyContour (S : St)  (P : St → Prop) (E : String → St → Prop) : Prop :=
  wp_X3_hasEmptyContour S (gw_fx S) (fun r5 S4 => ((r5 = 0 → P S4) ∧ (¬ r5 = 0 → E nx_ise S4)))
set_option maxHeartbeats 4000000 in
set_option maxRecDepth 100000 in
theorem run_X10_refuseEmptyContour {l : Launch} {g : Gx} {S : St}  {P : St → Prop} {E : String → St → Prop} (hl : l.stackTraces = false)  (h : rowsLe S → wp_X10_refuseEmptyContour S  P E) : CXv g l yX10_refuseEmptyContour cX10_refuseEmptyContour 1 none rm_X10_refuseEmptyContour [.ref (gad g 157)] S P E := cx_entry (own := RX10) (by decide) rfl (Nat.le_of_ble_eq_true rfl) rfl (fun hle f hf C hrt hex => by
  subst hf
  have htr := hl
  replace h := h hle
  obtain ⟨T0, hT⟩ : ∃ T, S.2.2.1 = T := ⟨_, rfl⟩
  rw [hT]
  unfold wp_X10_refuseEmptyContour at h
  refine ww_aload_n C dX10_refuseEmptyContour_0 0 rfl ?_
  refine gf_FontPacker_font C bw_212 dX10_refuseEmptyContour_1 ?_
  refine ww_cVi (As := []) (rest := []) C ok_X3_hasEmptyContour bw_345 dX10_refuseEmptyContour_4 (run_X3_hasEmptyContour (fx_lt S) (fun _ => h)) (rc_Font (fx_lt S)) rfl ⟨Nat.le_of_ble_eq_true rfl, Nat.le_of_ble_eq_true rfl⟩ (Nat.le_of_ble_eq_true rfl) (c2 := 0) (s2 := 0) rfl rfl ⟨Nat.le_of_ble_eq_true rfl, Nat.le_of_ble_eq_true rfl⟩ rfl (fun r5 S4 hp hTg => ?_)
  replace h := hp
  have hT_S4 : S4.2.2.1 = T0 := by rw [hTg]; exact hT
  refine ww_if_eq (tgt := 20) C dX10_refuseEmptyContour_7 (by decide) (fun q6 => ?_) (fun q6 => ?_)
  · replace h := h.1 q6
    refine ww_widen (c2 := 1) (s2 := 6) (by omega) (by omega) ?_
    exact ww_xvret C hrt dX10_refuseEmptyContour_20 hT_S4 h
  · replace h := h.2 q6
    exact ww_throw (text := "the latest contour has no points") C htr hex tx_ise (Or.inr (Or.inl rfl)) (by decide +kernel) dX10_refuseEmptyContour_10 dX10_refuseEmptyContour_13 dX10_refuseEmptyContour_14 dX10_refuseEmptyContour_16 dX10_refuseEmptyContour_19 (Nat.le_of_ble_eq_true rfl) (Nat.le_of_ble_eq_true rfl) (Nat.le_of_ble_eq_true rfl) (Nat.le_of_ble_eq_true rfl) (Nat.le_of_ble_eq_true rfl) (Nat.le_of_ble_eq_true rfl) hT_S4 h)
abbrev rm_X10_refuseMissingByte : Room := { frames := 6, cells := 1, slots := 6, locals := 82 }
theorem ok_X10_refuseMissingByte : MOK yX10_refuseMissingByte RX10 cX10_refuseMissingByte 2 none 1 := ⟨bw_842, bw_15, bw_61, bw_843, by decide +kernel⟩
def wp_X10_refuseMissingByte_15 (k : Int32) (S : St)  (P : St → Prop) (E : String → St → Prop) : Prop :=
  E nx_ioe S
set_option maxHeartbeats 4000000 in
set_option maxRecDepth 100000 in
theorem run_X10_refuseMissingByte_15 {f : Fx} {g : Gx} {T0 : List (Nat × Nat × Nat)} {S : St} {k : Int32} {P : St → Prop} {E : String → St → Prop} (C : Cx f g cX10_refuseMissingByte 2 RX10) (hrt : (fmeth f).sig.returnType = none) (htr : f.2.1.stackTraces = false) (hex : ∀ x ∈ (fcode f).exceptionTable.toList, False)   (hT : S.2.2.1 = T0)  (h : wp_X10_refuseMissingByte_15 k S  P E) : WW f rm_X10_refuseMissingByte g 2 0 0 (Qxv f g 1 6 T0 P E) S 15 [] [] := by
  unfold wp_X10_refuseMissingByte_15 at h
  exact ww_throw (text := "there is no such byte") C htr hex tx_ioe (Or.inr (Or.inr rfl)) (by decide +kernel) dX10_refuseMissingByte_15 dX10_refuseMissingByte_18 dX10_refuseMissingByte_19 dX10_refuseMissingByte_21 dX10_refuseMissingByte_24 (Nat.le_of_ble_eq_true rfl) (Nat.le_of_ble_eq_true rfl) (Nat.le_of_ble_eq_true rfl) (Nat.le_of_ble_eq_true rfl) (Nat.le_of_ble_eq_true rfl) (Nat.le_of_ble_eq_true rfl) hT h
def wp_X10_refuseMissingByte (S : St) (k : Int32) (P : St → Prop) (E : String → St → Prop) : Prop :=
  ((k < 0 → wp_X10_refuseMissingByte_15 k S  P E) ∧ (¬ k < 0 → ((k < (rLen S 62) → P S) ∧ (¬ k < (rLen S 62) → wp_X10_refuseMissingByte_15 k S  P E))))
set_option maxHeartbeats 4000000 in
set_option maxRecDepth 100000 in
theorem run_X10_refuseMissingByte {l : Launch} {g : Gx} {S : St} {k : Int32} {P : St → Prop} {E : String → St → Prop} (hl : l.stackTraces = false)  (h : rowsLe S → wp_X10_refuseMissingByte S k P E) : CXv g l yX10_refuseMissingByte cX10_refuseMissingByte 2 none rm_X10_refuseMissingByte [.ref (gad g 157), .int k] S P E := cx_entry (own := RX10) (by decide) rfl (Nat.le_of_ble_eq_true rfl) rfl (fun hle f hf C hrt hex => by
  subst hf
  have htr := hl
  replace h := h hle
  obtain ⟨T0, hT⟩ : ∃ T, S.2.2.1 = T := ⟨_, rfl⟩
  rw [hT]
  unfold wp_X10_refuseMissingByte at h
  refine ww_iload_n C dX10_refuseMissingByte_0 1 rfl ?_
  refine ww_if_lt (tgt := 15) C dX10_refuseMissingByte_1 (by decide) (fun q3 => ?_) (fun q3 => ?_)
  · replace h := h.1 q3
    exact ww_sub [] rfl (run_X10_refuseMissingByte_15 C hrt htr hex  hT  h)
  · replace h := h.2 q3
    refine ww_iload_n C dX10_refuseMissingByte_4 1 rfl ?_
    refine ww_aload_n C dX10_refuseMissingByte_5 0 rfl ?_
    refine gf_FontPacker_buffer C bw_209 dX10_refuseMissingByte_6 ?_
    refine ww_cVf (As := []) (rest := [.int k]) C ok_X8_length bw_447 dX10_refuseMissingByte_9 (cm_X8_length (by decide)) (rc_Row (by decide)) rfl ⟨Nat.le_of_ble_eq_true rfl, Nat.le_of_ble_eq_true rfl⟩ (Nat.le_of_ble_eq_true rfl) (c2 := 0) (s2 := 0) rfl rfl ⟨Nat.le_of_ble_eq_true rfl, Nat.le_of_ble_eq_true rfl⟩ rfl ?_
    refine ww_icmp_lt (tgt := 25) C dX10_refuseMissingByte_12 (by decide) (fun q4 => ?_) (fun q4 => ?_)
    · replace h := h.1 q4
      refine ww_widen (c2 := 1) (s2 := 6) (by omega) (by omega) ?_
      exact ww_xvret C hrt dX10_refuseMissingByte_25 hT h
    · replace h := h.2 q4
      exact ww_sub [] rfl (run_X10_refuseMissingByte_15 C hrt htr hex  hT  h))
abbrev rm_X10_refuseMissingGlyph : Room := { frames := 6, cells := 1, slots := 6, locals := 82 }
theorem ok_X10_refuseMissingGlyph : MOK yX10_refuseMissingGlyph RX10 cX10_refuseMissingGlyph 2 none 1 := ⟨bw_891, bw_16, bw_61, bw_892, by decide +kernel⟩
def wp_X10_refuseMissingGlyph_15 (q : Int32) (S : St)  (P : St → Prop) (E : String → St → Prop) : Prop :=
  E nx_iae S
set_option maxHeartbeats 4000000 in
set_option maxRecDepth 100000 in
theorem run_X10_refuseMissingGlyph_15 {f : Fx} {g : Gx} {T0 : List (Nat × Nat × Nat)} {S : St} {q : Int32} {P : St → Prop} {E : String → St → Prop} (C : Cx f g cX10_refuseMissingGlyph 2 RX10) (hrt : (fmeth f).sig.returnType = none) (htr : f.2.1.stackTraces = false) (hex : ∀ x ∈ (fcode f).exceptionTable.toList, False)   (hT : S.2.2.1 = T0)  (h : wp_X10_refuseMissingGlyph_15 q S  P E) : WW f rm_X10_refuseMissingGlyph g 2 0 0 (Qxv f g 1 6 T0 P E) S 15 [] [] := by
  unfold wp_X10_refuseMissingGlyph_15 at h
  exact ww_throw (text := "there is no such glyph") C htr hex tx_iae (Or.inl rfl) (by decide +kernel) dX10_refuseMissingGlyph_15 dX10_refuseMissingGlyph_18 dX10_refuseMissingGlyph_19 dX10_refuseMissingGlyph_21 dX10_refuseMissingGlyph_24 (Nat.le_of_ble_eq_true rfl) (Nat.le_of_ble_eq_true rfl) (Nat.le_of_ble_eq_true rfl) (Nat.le_of_ble_eq_true rfl) (Nat.le_of_ble_eq_true rfl) (Nat.le_of_ble_eq_true rfl) hT h
def wp_X10_refuseMissingGlyph (S : St) (q : Int32) (P : St → Prop) (E : String → St → Prop) : Prop :=
  ((q < 0 → wp_X10_refuseMissingGlyph_15 q S  P E) ∧ (¬ q < 0 → ((q < (fv_X3_glyphCount S (gw_fx S)) → P S) ∧ (¬ q < (fv_X3_glyphCount S (gw_fx S)) → wp_X10_refuseMissingGlyph_15 q S  P E))))
set_option maxHeartbeats 4000000 in
set_option maxRecDepth 100000 in
theorem run_X10_refuseMissingGlyph {l : Launch} {g : Gx} {S : St} {q : Int32} {P : St → Prop} {E : String → St → Prop} (hl : l.stackTraces = false)  (h : rowsLe S → wp_X10_refuseMissingGlyph S q P E) : CXv g l yX10_refuseMissingGlyph cX10_refuseMissingGlyph 2 none rm_X10_refuseMissingGlyph [.ref (gad g 157), .int q] S P E := cx_entry (own := RX10) (by decide) rfl (Nat.le_of_ble_eq_true rfl) rfl (fun hle f hf C hrt hex => by
  subst hf
  have htr := hl
  replace h := h hle
  obtain ⟨T0, hT⟩ : ∃ T, S.2.2.1 = T := ⟨_, rfl⟩
  rw [hT]
  unfold wp_X10_refuseMissingGlyph at h
  refine ww_iload_n C dX10_refuseMissingGlyph_0 1 rfl ?_
  refine ww_if_lt (tgt := 15) C dX10_refuseMissingGlyph_1 (by decide) (fun q3 => ?_) (fun q3 => ?_)
  · replace h := h.1 q3
    exact ww_sub [] rfl (run_X10_refuseMissingGlyph_15 C hrt htr hex  hT  h)
  · replace h := h.2 q3
    refine ww_iload_n C dX10_refuseMissingGlyph_4 1 rfl ?_
    refine ww_aload_n C dX10_refuseMissingGlyph_5 0 rfl ?_
    refine gf_FontPacker_font C bw_212 dX10_refuseMissingGlyph_6 ?_
    refine ww_cVf (As := []) (rest := [.int q]) C ok_X3_glyphCount bw_321 dX10_refuseMissingGlyph_9 (cm_X3_glyphCount (fx_lt S)) (rc_Font (fx_lt S)) rfl ⟨Nat.le_of_ble_eq_true rfl, Nat.le_of_ble_eq_true rfl⟩ (Nat.le_of_ble_eq_true rfl) (c2 := 0) (s2 := 0) rfl rfl ⟨Nat.le_of_ble_eq_true rfl, Nat.le_of_ble_eq_true rfl⟩ rfl ?_
    refine ww_icmp_lt (tgt := 25) C dX10_refuseMissingGlyph_12 (by decide) (fun q4 => ?_) (fun q4 => ?_)
    · replace h := h.1 q4
      refine ww_widen (c2 := 1) (s2 := 6) (by omega) (by omega) ?_
      exact ww_xvret C hrt dX10_refuseMissingGlyph_25 hT h
    · replace h := h.2 q4
      exact ww_sub [] rfl (run_X10_refuseMissingGlyph_15 C hrt htr hex  hT  h))
abbrev rm_X10_glyph : Room := { frames := 7, cells := 1, slots := 6, locals := 102 }
theorem ok_X10_glyph : MOK yX10_glyph RX10 cX10_glyph 2 (some .int) 1 := ⟨bw_250, bw_251, bw_61, bw_252, by decide +kernel⟩
def wp_X10_glyph_11 (a : Int32) (S : St)  (P : Int32 → St → Prop) (E : String → St → Prop) : Prop :=
  E nx_iae S
set_option maxHeartbeats 4000000 in
set_option maxRecDepth 100000 in
theorem run_X10_glyph_11 {f : Fx} {g : Gx} {T0 : List (Nat × Nat × Nat)} {S : St} {a : Int32} {P : Int32 → St → Prop} {E : String → St → Prop} (C : Cx f g cX10_glyph 2 RX10) (hrt : (fmeth f).sig.returnType = (some .int)) (htr : f.2.1.stackTraces = false) (hex : ∀ x ∈ (fcode f).exceptionTable.toList, False)   (hT : S.2.2.1 = T0)  (h : wp_X10_glyph_11 a S  P E) : WW f rm_X10_glyph g 2 0 0 (Qxi f g 1 6 T0 P E) S 11 [] [] := by
  unfold wp_X10_glyph_11 at h
  exact ww_throw (text := "the advance is not 0 .. 2000") C htr hex tx_iae (Or.inl rfl) (by decide +kernel) dX10_glyph_11 dX10_glyph_14 dX10_glyph_15 dX10_glyph_17 dX10_glyph_20 (Nat.le_of_ble_eq_true rfl) (Nat.le_of_ble_eq_true rfl) (Nat.le_of_ble_eq_true rfl) (Nat.le_of_ble_eq_true rfl) (Nat.le_of_ble_eq_true rfl) (Nat.le_of_ble_eq_true rfl) hT h
def wp_X10_glyph (S : St) (a : Int32) (P : Int32 → St → Prop) (E : String → St → Prop) : Prop :=
  ((a < 0 → wp_X10_glyph_11 a S  P E) ∧ (¬ a < 0 → ((a ≤ 2000 → (((fv_X3_glyphCount S (gw_fx S)) < 6 → wp_X10_refuseEmptyContour S (fun S11 => ∀ (r14 : Int32) (S13 : St), r14 = fv_X3_addGlyph S11 (gw_fx S11) a → S13 = fs_X3_addGlyph S11 (gw_fx S11) a → P r14 S13) E) ∧ (¬ (fv_X3_glyphCount S (gw_fx S)) < 6 → E nx_ise S))) ∧ (¬ a ≤ 2000 → wp_X10_glyph_11 a S  P E))))
set_option maxHeartbeats 4000000 in
set_option maxRecDepth 100000 in
theorem run_X10_glyph {l : Launch} {g : Gx} {S : St} {a : Int32} {P : Int32 → St → Prop} {E : String → St → Prop} (hl : l.stackTraces = false)  (h : rowsLe S → wp_X10_glyph S a P E) : CXi g l yX10_glyph cX10_glyph 2 (some .int) rm_X10_glyph [.ref (gad g 157), .int a] S P E := cx_entry (own := RX10) (by decide) rfl (Nat.le_of_ble_eq_true rfl) rfl (fun hle f hf C hrt hex => by
  subst hf
  have htr := hl
  replace h := h hle
  obtain ⟨T0, hT⟩ : ∃ T, S.2.2.1 = T := ⟨_, rfl⟩
  rw [hT]
  unfold wp_X10_glyph at h
  refine ww_iload_n C dX10_glyph_0 1 rfl ?_
  refine ww_if_lt (tgt := 11) C dX10_glyph_1 (by decide) (fun q8 => ?_) (fun q8 => ?_)
  · replace h := h.1 q8
    exact ww_sub [] rfl (run_X10_glyph_11 C hrt htr hex  hT  h)
  · replace h := h.2 q8
    refine ww_iload_n C dX10_glyph_4 1 rfl ?_
    refine ww_sipush (v := 2000) C dX10_glyph_5 (by decide) ?_
    refine ww_icmp_le (tgt := 21) C dX10_glyph_8 (by decide) (fun q9 => ?_) (fun q9 => ?_)
    · replace h := h.1 q9
      refine ww_aload_n C dX10_glyph_21 0 rfl ?_
      refine gf_FontPacker_font C bw_212 dX10_glyph_22 ?_
      refine ww_cVf (As := []) (rest := []) C ok_X3_glyphCount bw_321 dX10_glyph_25 (cm_X3_glyphCount (fx_lt S)) (rc_Font (fx_lt S)) rfl ⟨Nat.le_of_ble_eq_true rfl, Nat.le_of_ble_eq_true rfl⟩ (Nat.le_of_ble_eq_true rfl) (c2 := 0) (s2 := 0) rfl rfl ⟨Nat.le_of_ble_eq_true rfl, Nat.le_of_ble_eq_true rfl⟩ rfl ?_
      refine ww_bipush (v := 6) C dX10_glyph_28 (by decide) ?_
      refine ww_icmp_lt (tgt := 43) C dX10_glyph_30 (by decide) (fun q10 => ?_) (fun q10 => ?_)
      · replace h := h.1 q10
        refine ww_aload_n C dX10_glyph_43 0 rfl ?_
        refine ww_xVv (As := []) (rest := []) C hex ok_X10_refuseEmptyContour bw_341 dX10_glyph_44 (run_X10_refuseEmptyContour htr  (fun _ => h)) rc_FontPacker rfl ⟨Nat.le_of_ble_eq_true rfl, Nat.le_of_ble_eq_true rfl⟩ (Nat.le_of_ble_eq_true rfl) (c2 := 1) (s2 := 6) rfl rfl ⟨Nat.le_of_ble_eq_true rfl, Nat.le_of_ble_eq_true rfl⟩ (Nat.le_of_ble_eq_true rfl) (Nat.le_of_ble_eq_true rfl) rfl hT (fun _ _ z => z) (fun S11 hp hTg => ?_)
        replace h := hp
        have hT_S11 : S11.2.2.1 = T0 := by rw [hTg]; exact hT
        refine ww_aload_n C dX10_glyph_47 0 rfl ?_
        refine gf_FontPacker_font C bw_212 dX10_glyph_48 ?_
        refine ww_iload_n C dX10_glyph_51 1 rfl ?_
        refine ww_cVi (As := [.int a]) (rest := []) C ok_X3_addGlyph bw_374 dX10_glyph_52 (cm_X3_addGlyph (fx_lt S11)) (rc_Font (fx_lt S11)) rfl ⟨Nat.le_of_ble_eq_true rfl, Nat.le_of_ble_eq_true rfl⟩ (Nat.le_of_ble_eq_true rfl) (c2 := 1) (s2 := 6) rfl rfl ⟨Nat.le_of_ble_eq_true rfl, Nat.le_of_ble_eq_true rfl⟩ rfl (fun r14 S13 hp hTg => ?_)
        obtain ⟨e_r14, e_S13⟩ := hp
        replace h := h r14 S13 e_r14 e_S13
        have hT_S13 : S13.2.2.1 = T0 := by rw [hTg]; exact hT_S11
        exact ww_xiret C hrt dX10_glyph_55 hT_S13 h
      · replace h := h.2 q10
        exact ww_throw (text := "there are 6 glyphs") C htr hex tx_ise (Or.inr (Or.inl rfl)) (by decide +kernel) dX10_glyph_33 dX10_glyph_36 dX10_glyph_37 dX10_glyph_39 dX10_glyph_42 (Nat.le_of_ble_eq_true rfl) (Nat.le_of_ble_eq_true rfl) (Nat.le_of_ble_eq_true rfl) (Nat.le_of_ble_eq_true rfl) (Nat.le_of_ble_eq_true rfl) (Nat.le_of_ble_eq_true rfl) hT h
    · replace h := h.2 q9
      exact ww_sub [] rfl (run_X10_glyph_11 C hrt htr hex  hT  h))
abbrev rm_X10_contour : Room := { frames := 7, cells := 1, slots := 6, locals := 102 }
theorem ok_X10_contour : MOK yX10_contour RX10 cX10_contour 2 (some .int) 0 := ⟨bw_387, bw_388, bw_61, bw_389, by decide +kernel⟩
def wp_X10_contour (S : St)  (P : Int32 → St → Prop) (E : String → St → Prop) : Prop :=
  ((¬ (fv_X3_glyphCount S (gw_fx S)) = 0 → (((fv_X4_contourCount S (lgId S (gw_fx S))) < 4 → (((fv_X4_pointCount S (lgId S (gw_fx S))) < 16 → wp_X10_refuseEmptyContour S (fun S11 => ∀ (r14 : Int32) (S13 : St), r14 = fv_X4_addContour S11 (lgId S (gw_fx S)) → S13 = fs_X4_addContour S11 (lgId S (gw_fx S)) → P r14 S13) E) ∧ (¬ (fv_X4_pointCount S (lgId S (gw_fx S))) < 16 → E nx_ise S))) ∧ (¬ (fv_X4_contourCount S (lgId S (gw_fx S))) < 4 → E nx_ise S))) ∧ ((fv_X3_glyphCount S (gw_fx S)) = 0 → E nx_ise S))
set_option maxHeartbeats 4000000 in
set_option maxRecDepth 100000 in
theorem run_X10_contour {l : Launch} {g : Gx} {S : St}  {P : Int32 → St → Prop} {E : String → St → Prop} (hl : l.stackTraces = false)  (h : rowsLe S → wp_X10_contour S  P E) : CXi g l yX10_contour cX10_contour 2 (some .int) rm_X10_contour [.ref (gad g 157)] S P E := cx_entry (own := RX10) (by decide) rfl (Nat.le_of_ble_eq_true rfl) rfl (fun hle f hf C hrt hex => by
  subst hf
  have htr := hl
  replace h := h hle
  obtain ⟨T0, hT⟩ : ∃ T, S.2.2.1 = T := ⟨_, rfl⟩
  rw [hT]
  unfold wp_X10_contour at h
  refine ww_aload_n C dX10_contour_0 0 rfl ?_
  refine gf_FontPacker_font C bw_212 dX10_contour_1 ?_
  refine ww_cVf (As := []) (rest := []) C ok_X3_glyphCount bw_321 dX10_contour_4 (cm_X3_glyphCount (fx_lt S)) (rc_Font (fx_lt S)) rfl ⟨Nat.le_of_ble_eq_true rfl, Nat.le_of_ble_eq_true rfl⟩ (Nat.le_of_ble_eq_true rfl) (c2 := 0) (s2 := 0) rfl rfl ⟨Nat.le_of_ble_eq_true rfl, Nat.le_of_ble_eq_true rfl⟩ rfl ?_
  refine ww_if_ne (tgt := 20) C dX10_contour_7 (by decide) (fun q8 => ?_) (fun q8 => ?_)
  · replace h := h.1 q8
    refine ww_aload_n C dX10_contour_20 0 rfl ?_
    refine gf_FontPacker_font C bw_212 dX10_contour_21 ?_
    refine ww_cVr (As := []) (rest := []) C ok_X3_latestGlyph bw_391 dX10_contour_24 (cm_X3_latestGlyph (fx_lt S)) (rc_Font (fx_lt S)) rfl ⟨Nat.le_of_ble_eq_true rfl, Nat.le_of_ble_eq_true rfl⟩ (Nat.le_of_ble_eq_true rfl) (c2 := 0) (s2 := 0) rfl rfl ⟨Nat.le_of_ble_eq_true rfl, Nat.le_of_ble_eq_true rfl⟩ rfl ?_
    refine ww_astore_n (lv2 := [(1, .ref (gad g (136 + (lgId S (gw_fx S))))), (0, .ref (gad g 157))]) C dX10_contour_27 rfl (Nat.le_of_ble_eq_true rfl) rfl ?_
    refine ww_aload_n C dX10_contour_28 0 rfl ?_
    refine ww_cVf (As := []) (rest := []) C ok_X4_contourCount bw_392 dX10_contour_29 (cm_X4_contourCount (lgId_lt (fx_lt S))) (rc_Glyph (lgId_lt (fx_lt S))) rfl ⟨Nat.le_of_ble_eq_true rfl, Nat.le_of_ble_eq_true rfl⟩ (Nat.le_of_ble_eq_true rfl) (c2 := 0) (s2 := 0) rfl rfl ⟨Nat.le_of_ble_eq_true rfl, Nat.le_of_ble_eq_true rfl⟩ rfl ?_
    refine ww_iconst (v := 4) C dX10_contour_32 (by decide) ?_
    refine ww_icmp_lt (tgt := 46) C dX10_contour_33 (by decide) (fun q9 => ?_) (fun q9 => ?_)
    · replace h := h.1 q9
      refine ww_aload_n C dX10_contour_46 0 rfl ?_
      refine ww_cVf (As := []) (rest := []) C ok_X4_pointCount bw_397 dX10_contour_47 (cm_X4_pointCount (lgId_lt (fx_lt S))) (rc_Glyph (lgId_lt (fx_lt S))) rfl ⟨Nat.le_of_ble_eq_true rfl, Nat.le_of_ble_eq_true rfl⟩ (Nat.le_of_ble_eq_true rfl) (c2 := 0) (s2 := 0) rfl rfl ⟨Nat.le_of_ble_eq_true rfl, Nat.le_of_ble_eq_true rfl⟩ rfl ?_
      refine ww_bipush (v := 16) C dX10_contour_50 (by decide) ?_
      refine ww_icmp_lt (tgt := 65) C dX10_contour_52 (by decide) (fun q10 => ?_) (fun q10 => ?_)
      · replace h := h.1 q10
        refine ww_aload_n C dX10_contour_65 1 rfl ?_
        refine ww_xVv (As := []) (rest := []) C hex ok_X10_refuseEmptyContour bw_341 dX10_contour_66 (run_X10_refuseEmptyContour htr  (fun _ => h)) rc_FontPacker rfl ⟨Nat.le_of_ble_eq_true rfl, Nat.le_of_ble_eq_true rfl⟩ (Nat.le_of_ble_eq_true rfl) (c2 := 1) (s2 := 6) rfl rfl ⟨Nat.le_of_ble_eq_true rfl, Nat.le_of_ble_eq_true rfl⟩ (Nat.le_of_ble_eq_true rfl) (Nat.le_of_ble_eq_true rfl) rfl hT (fun _ _ z => z) (fun S11 hp hTg => ?_)
        replace h := hp
        have hT_S11 : S11.2.2.1 = T0 := by rw [hTg]; exact hT
        refine ww_aload_n C dX10_contour_69 0 rfl ?_
        refine ww_cVi (As := []) (rest := []) C ok_X4_addContour bw_402 dX10_contour_70 (cm_X4_addContour (lgId_lt (fx_lt S))) (rc_Glyph (lgId_lt (fx_lt S))) rfl ⟨Nat.le_of_ble_eq_true rfl, Nat.le_of_ble_eq_true rfl⟩ (Nat.le_of_ble_eq_true rfl) (c2 := 1) (s2 := 6) rfl rfl ⟨Nat.le_of_ble_eq_true rfl, Nat.le_of_ble_eq_true rfl⟩ rfl (fun r14 S13 hp hTg => ?_)
        obtain ⟨e_r14, e_S13⟩ := hp
        replace h := h r14 S13 e_r14 e_S13
        have hT_S13 : S13.2.2.1 = T0 := by rw [hTg]; exact hT_S11
        exact ww_xiret C hrt dX10_contour_73 hT_S13 h
      · replace h := h.2 q10
        exact ww_throw (text := "the glyph has 16 points") C htr hex tx_ise (Or.inr (Or.inl rfl)) (by decide +kernel) dX10_contour_55 dX10_contour_58 dX10_contour_59 dX10_contour_61 dX10_contour_64 (Nat.le_of_ble_eq_true rfl) (Nat.le_of_ble_eq_true rfl) (Nat.le_of_ble_eq_true rfl) (Nat.le_of_ble_eq_true rfl) (Nat.le_of_ble_eq_true rfl) (Nat.le_of_ble_eq_true rfl) hT h
    · replace h := h.2 q9
      exact ww_throw (text := "the glyph has 4 contours") C htr hex tx_ise (Or.inr (Or.inl rfl)) (by decide +kernel) dX10_contour_36 dX10_contour_39 dX10_contour_40 dX10_contour_42 dX10_contour_45 (Nat.le_of_ble_eq_true rfl) (Nat.le_of_ble_eq_true rfl) (Nat.le_of_ble_eq_true rfl) (Nat.le_of_ble_eq_true rfl) (Nat.le_of_ble_eq_true rfl) (Nat.le_of_ble_eq_true rfl) hT h
  · replace h := h.2 q8
    exact ww_throw (text := "there is no glyph") C htr hex tx_ise (Or.inr (Or.inl rfl)) (by decide +kernel) dX10_contour_10 dX10_contour_13 dX10_contour_14 dX10_contour_16 dX10_contour_19 (Nat.le_of_ble_eq_true rfl) (Nat.le_of_ble_eq_true rfl) (Nat.le_of_ble_eq_true rfl) (Nat.le_of_ble_eq_true rfl) (Nat.le_of_ble_eq_true rfl) (Nat.le_of_ble_eq_true rfl) hT h)
abbrev rm_X10_point : Room := { frames := 6, cells := 1, slots := 6, locals := 82 }
theorem ok_X10_point : MOK yX10_point RX10 cX10_point 5 (some .int) 3 := ⟨bw_414, bw_415, bw_61, bw_416, by decide +kernel⟩
def wp_X10_point_14 (x : Int32) (y : Int32) (o : Int32) (S : St)  (P : Int32 → St → Prop) (E : String → St → Prop) : Prop :=
  E nx_iae S
set_option maxHeartbeats 4000000 in
set_option maxRecDepth 100000 in
theorem run_X10_point_14 {f : Fx} {g : Gx} {T0 : List (Nat × Nat × Nat)} {S : St} {x : Int32} {y : Int32} {o : Int32} {P : Int32 → St → Prop} {E : String → St → Prop} (C : Cx f g cX10_point 5 RX10) (hrt : (fmeth f).sig.returnType = (some .int)) (htr : f.2.1.stackTraces = false) (hex : ∀ x ∈ (fcode f).exceptionTable.toList, False)   (hT : S.2.2.1 = T0)  (h : wp_X10_point_14 x y o S  P E) : WW f rm_X10_point g 5 0 0 (Qxi f g 1 6 T0 P E) S 14 [] [] := by
  unfold wp_X10_point_14 at h
  exact ww_throw (text := "x or y is not -4000 .. 4000") C htr hex tx_iae (Or.inl rfl) (by decide +kernel) dX10_point_14 dX10_point_17 dX10_point_18 dX10_point_20 dX10_point_23 (Nat.le_of_ble_eq_true rfl) (Nat.le_of_ble_eq_true rfl) (Nat.le_of_ble_eq_true rfl) (Nat.le_of_ble_eq_true rfl) (Nat.le_of_ble_eq_true rfl) (Nat.le_of_ble_eq_true rfl) hT h
def wp_X10_point (S : St) (x : Int32) (y : Int32) (o : Int32) (P : Int32 → St → Prop) (E : String → St → Prop) : Prop :=
  wp_X10_isTooFar S x (fun r14 S13 => ((¬ r14 = 0 → wp_X10_point_14 x y o S13  P E) ∧ (r14 = 0 → wp_X10_isTooFar S13 y (fun r17 S16 => ((r17 = 0 → ((¬ (fv_X3_glyphCount S16 (gw_fx S16)) = 0 → ((¬ (fv_X4_contourCount S16 (lgId S16 (gw_fx S16))) = 0 → (((fv_X4_pointCount S16 (lgId S16 (gw_fx S16))) < 16 → ∀ S22 : St, S22 = fs_X4_growLatestContour S16 (lgId S16 (gw_fx S16)) → ∀ (r24 : Int32) (S23 : St), r24 = fv_X4_addPoint S22 (lgId S16 (gw_fx S16)) x y o → S23 = fs_X4_addPoint S22 (lgId S16 (gw_fx S16)) x y o → P r24 S23) ∧ (¬ (fv_X4_pointCount S16 (lgId S16 (gw_fx S16))) < 16 → E nx_ise S16))) ∧ ((fv_X4_contourCount S16 (lgId S16 (gw_fx S16))) = 0 → E nx_ise S16))) ∧ ((fv_X3_glyphCount S16 (gw_fx S16)) = 0 → E nx_ise S16))) ∧ (¬ r17 = 0 → wp_X10_point_14 x y o S16  P E))))))
set_option maxHeartbeats 4000000 in
set_option maxRecDepth 100000 in
theorem run_X10_point {l : Launch} {g : Gx} {S : St} {x : Int32} {y : Int32} {o : Int32} {P : Int32 → St → Prop} {E : String → St → Prop} (hl : l.stackTraces = false)  (h : rowsLe S → wp_X10_point S x y o P E) : CXi g l yX10_point cX10_point 5 (some .int) rm_X10_point [.ref (gad g 157), .int x, .int y, .int o] S P E := cx_entry (own := RX10) (by decide) rfl (Nat.le_of_ble_eq_true rfl) rfl (fun hle f hf C hrt hex => by
  subst hf
  have htr := hl
  replace h := h hle
  obtain ⟨T0, hT⟩ : ∃ T, S.2.2.1 = T := ⟨_, rfl⟩
  rw [hT]
  unfold wp_X10_point at h
  refine ww_iload_n C dX10_point_0 1 rfl ?_
  refine ww_cSi (As := [.int x]) (rest := []) C ok_X10_isTooFar bw_417 dX10_point_1 (run_X10_isTooFar  (fun _ => h)) rfl ⟨Nat.le_of_ble_eq_true rfl, Nat.le_of_ble_eq_true rfl⟩ (Nat.le_of_ble_eq_true rfl) (c2 := 0) (s2 := 0) rfl rfl ⟨Nat.le_of_ble_eq_true rfl, Nat.le_of_ble_eq_true rfl⟩ rfl (fun r14 S13 hp hTg => ?_)
  replace h := hp
  have hT_S13 : S13.2.2.1 = T0 := by rw [hTg]; exact hT
  refine ww_if_ne (tgt := 14) C dX10_point_4 (by decide) (fun q15 => ?_) (fun q15 => ?_)
  · replace h := h.1 q15
    exact ww_sub [] rfl (run_X10_point_14 C hrt htr hex  hT_S13  h)
  · replace h := h.2 q15
    refine ww_iload_n C dX10_point_7 2 rfl ?_
    refine ww_cSi (As := [.int y]) (rest := []) C ok_X10_isTooFar bw_417 dX10_point_8 (run_X10_isTooFar  (fun _ => h)) rfl ⟨Nat.le_of_ble_eq_true rfl, Nat.le_of_ble_eq_true rfl⟩ (Nat.le_of_ble_eq_true rfl) (c2 := 0) (s2 := 0) rfl rfl ⟨Nat.le_of_ble_eq_true rfl, Nat.le_of_ble_eq_true rfl⟩ rfl (fun r17 S16 hp hTg => ?_)
    replace h := hp
    have hT_S16 : S16.2.2.1 = T0 := by rw [hTg]; exact hT_S13
    refine ww_if_eq (tgt := 24) C dX10_point_11 (by decide) (fun q18 => ?_) (fun q18 => ?_)
    · replace h := h.1 q18
      refine ww_aload_n C dX10_point_24 0 rfl ?_
      refine gf_FontPacker_font C bw_212 dX10_point_25 ?_
      refine ww_cVf (As := []) (rest := []) C ok_X3_glyphCount bw_321 dX10_point_28 (cm_X3_glyphCount (fx_lt S16)) (rc_Font (fx_lt S16)) rfl ⟨Nat.le_of_ble_eq_true rfl, Nat.le_of_ble_eq_true rfl⟩ (Nat.le_of_ble_eq_true rfl) (c2 := 0) (s2 := 0) rfl rfl ⟨Nat.le_of_ble_eq_true rfl, Nat.le_of_ble_eq_true rfl⟩ rfl ?_
      refine ww_if_ne (tgt := 44) C dX10_point_31 (by decide) (fun q19 => ?_) (fun q19 => ?_)
      · replace h := h.1 q19
        refine ww_aload_n C dX10_point_44 0 rfl ?_
        refine gf_FontPacker_font C bw_212 dX10_point_45 ?_
        refine ww_cVr (As := []) (rest := []) C ok_X3_latestGlyph bw_391 dX10_point_48 (cm_X3_latestGlyph (fx_lt S16)) (rc_Font (fx_lt S16)) rfl ⟨Nat.le_of_ble_eq_true rfl, Nat.le_of_ble_eq_true rfl⟩ (Nat.le_of_ble_eq_true rfl) (c2 := 0) (s2 := 0) rfl rfl ⟨Nat.le_of_ble_eq_true rfl, Nat.le_of_ble_eq_true rfl⟩ rfl ?_
        refine ww_astore (lv2 := [(4, .ref (gad g (136 + (lgId S16 (gw_fx S16))))), (0, .ref (gad g 157)), (1, .int x), (2, .int y), (3, .int o)]) C dX10_point_51 (Nat.le_of_ble_eq_true rfl) rfl ?_
        refine ww_aload C dX10_point_53 0 rfl ?_
        refine ww_cVf (As := []) (rest := []) C ok_X4_contourCount bw_392 dX10_point_55 (cm_X4_contourCount (lgId_lt (fx_lt S16))) (rc_Glyph (lgId_lt (fx_lt S16))) rfl ⟨Nat.le_of_ble_eq_true rfl, Nat.le_of_ble_eq_true rfl⟩ (Nat.le_of_ble_eq_true rfl) (c2 := 0) (s2 := 0) rfl rfl ⟨Nat.le_of_ble_eq_true rfl, Nat.le_of_ble_eq_true rfl⟩ rfl ?_
        refine ww_if_ne (tgt := 71) C dX10_point_58 (by decide) (fun q20 => ?_) (fun q20 => ?_)
        · replace h := h.1 q20
          refine ww_aload C dX10_point_71 0 rfl ?_
          refine ww_cVf (As := []) (rest := []) C ok_X4_pointCount bw_397 dX10_point_73 (cm_X4_pointCount (lgId_lt (fx_lt S16))) (rc_Glyph (lgId_lt (fx_lt S16))) rfl ⟨Nat.le_of_ble_eq_true rfl, Nat.le_of_ble_eq_true rfl⟩ (Nat.le_of_ble_eq_true rfl) (c2 := 0) (s2 := 0) rfl rfl ⟨Nat.le_of_ble_eq_true rfl, Nat.le_of_ble_eq_true rfl⟩ rfl ?_
          refine ww_bipush (v := 16) C dX10_point_76 (by decide) ?_
          refine ww_icmp_lt (tgt := 91) C dX10_point_78 (by decide) (fun q21 => ?_) (fun q21 => ?_)
          · replace h := h.1 q21
            refine ww_aload C dX10_point_91 0 rfl ?_
            refine ww_cVg (As := []) (rest := []) C ok_X4_growLatestContour bw_422 dX10_point_93 (cm_X4_growLatestContour (lgId_lt (fx_lt S16))) (rc_Glyph (lgId_lt (fx_lt S16))) rfl ⟨Nat.le_of_ble_eq_true rfl, Nat.le_of_ble_eq_true rfl⟩ (Nat.le_of_ble_eq_true rfl) (c2 := 0) (s2 := 0) rfl rfl ⟨Nat.le_of_ble_eq_true rfl, Nat.le_of_ble_eq_true rfl⟩ rfl (fun hTg => ?_)
            refine ww_nm (fun S22 e_S22 => ?_)
            replace h := h S22 e_S22
            have hT_S22 : S22.2.2.1 = T0 := by rw [e_S22, hTg]; exact hT_S16
            refine ww_aload C dX10_point_96 0 rfl ?_
            refine ww_iload_n C dX10_point_98 2 rfl ?_
            refine ww_iload_n C dX10_point_99 3 rfl ?_
            refine ww_iload_n C dX10_point_100 4 rfl ?_
            refine ww_cVi (As := [.int x, .int y, .int o]) (rest := []) C ok_X4_addPoint bw_430 dX10_point_101 (cm_X4_addPoint (lgId_lt (fx_lt S16))) (rc_Glyph (lgId_lt (fx_lt S16))) rfl ⟨Nat.le_of_ble_eq_true rfl, Nat.le_of_ble_eq_true rfl⟩ (Nat.le_of_ble_eq_true rfl) (c2 := 0) (s2 := 0) rfl rfl ⟨Nat.le_of_ble_eq_true rfl, Nat.le_of_ble_eq_true rfl⟩ rfl (fun r24 S23 hp hTg => ?_)
            obtain ⟨e_r24, e_S23⟩ := hp
            replace h := h r24 S23 e_r24 e_S23
            have hT_S23 : S23.2.2.1 = T0 := by rw [hTg]; exact hT_S22
            refine ww_widen (c2 := 1) (s2 := 6) (by omega) (by omega) ?_
            exact ww_xiret C hrt dX10_point_104 hT_S23 h
          · replace h := h.2 q21
            exact ww_throw (text := "the glyph has 16 points") C htr hex tx_ise (Or.inr (Or.inl rfl)) (by decide +kernel) dX10_point_81 dX10_point_84 dX10_point_85 dX10_point_87 dX10_point_90 (Nat.le_of_ble_eq_true rfl) (Nat.le_of_ble_eq_true rfl) (Nat.le_of_ble_eq_true rfl) (Nat.le_of_ble_eq_true rfl) (Nat.le_of_ble_eq_true rfl) (Nat.le_of_ble_eq_true rfl) hT_S16 h
        · replace h := h.2 q20
          exact ww_throw (text := "the glyph has no contour") C htr hex tx_ise (Or.inr (Or.inl rfl)) (by decide +kernel) dX10_point_61 dX10_point_64 dX10_point_65 dX10_point_67 dX10_point_70 (Nat.le_of_ble_eq_true rfl) (Nat.le_of_ble_eq_true rfl) (Nat.le_of_ble_eq_true rfl) (Nat.le_of_ble_eq_true rfl) (Nat.le_of_ble_eq_true rfl) (Nat.le_of_ble_eq_true rfl) hT_S16 h
      · replace h := h.2 q19
        exact ww_throw (text := "there is no glyph") C htr hex tx_ise (Or.inr (Or.inl rfl)) (by decide +kernel) dX10_point_34 dX10_point_37 dX10_point_38 dX10_point_40 dX10_point_43 (Nat.le_of_ble_eq_true rfl) (Nat.le_of_ble_eq_true rfl) (Nat.le_of_ble_eq_true rfl) (Nat.le_of_ble_eq_true rfl) (Nat.le_of_ble_eq_true rfl) (Nat.le_of_ble_eq_true rfl) hT_S16 h
    · replace h := h.2 q18
      exact ww_sub [] rfl (run_X10_point_14 C hrt htr hex  hT_S16  h))
abbrev rm_X10_table : Room := { frames := 6, cells := 1, slots := 6, locals := 82 }
theorem ok_X10_table : MOK yX10_table RX10 cX10_table 6 (some .int) 3 := ⟨bw_438, bw_439, bw_61, bw_440, by decide +kernel⟩
def wp_X10_table_34 (t : Int32) (a : Int64) (n : Int32) (S : St)  (P : Int32 → St → Prop) (E : String → St → Prop) : Prop :=
  E nx_iae S
set_option maxHeartbeats 4000000 in
set_option maxRecDepth 100000 in
theorem run_X10_table_34 {f : Fx} {g : Gx} {T0 : List (Nat × Nat × Nat)} {S : St} {t : Int32} {a : Int64} {n : Int32} {P : Int32 → St → Prop} {E : String → St → Prop} (C : Cx f g cX10_table 6 RX10) (hrt : (fmeth f).sig.returnType = (some .int)) (htr : f.2.1.stackTraces = false) (hex : ∀ x ∈ (fcode f).exceptionTable.toList, False)   (hT : S.2.2.1 = T0)  (h : wp_X10_table_34 t a n S  P E) : WW f rm_X10_table g 6 0 0 (Qxi f g 1 6 T0 P E) S 34 [] [] := by
  unfold wp_X10_table_34 at h
  exact ww_throw (text := "n is not 1 .. 8") C htr hex tx_iae (Or.inl rfl) (by decide +kernel) dX10_table_34 dX10_table_37 dX10_table_38 dX10_table_40 dX10_table_43 (Nat.le_of_ble_eq_true rfl) (Nat.le_of_ble_eq_true rfl) (Nat.le_of_ble_eq_true rfl) (Nat.le_of_ble_eq_true rfl) (Nat.le_of_ble_eq_true rfl) (Nat.le_of_ble_eq_true rfl) hT h
def wp_X10_table_11 (t : Int32) (a : Int64) (n : Int32) (S : St)  (P : Int32 → St → Prop) (E : String → St → Prop) : Prop :=
  E nx_iae S
set_option maxHeartbeats 4000000 in
set_option maxRecDepth 100000 in
theorem run_X10_table_11 {f : Fx} {g : Gx} {T0 : List (Nat × Nat × Nat)} {S : St} {t : Int32} {a : Int64} {n : Int32} {P : Int32 → St → Prop} {E : String → St → Prop} (C : Cx f g cX10_table 6 RX10) (hrt : (fmeth f).sig.returnType = (some .int)) (htr : f.2.1.stackTraces = false) (hex : ∀ x ∈ (fcode f).exceptionTable.toList, False)   (hT : S.2.2.1 = T0)  (h : wp_X10_table_11 t a n S  P E) : WW f rm_X10_table g 6 0 0 (Qxi f g 1 6 T0 P E) S 11 [] [] := by
  unfold wp_X10_table_11 at h
  exact ww_throw (text := "the table is not 2 .. 6") C htr hex tx_iae (Or.inl rfl) (by decide +kernel) dX10_table_11 dX10_table_14 dX10_table_15 dX10_table_17 dX10_table_20 (Nat.le_of_ble_eq_true rfl) (Nat.le_of_ble_eq_true rfl) (Nat.le_of_ble_eq_true rfl) (Nat.le_of_ble_eq_true rfl) (Nat.le_of_ble_eq_true rfl) (Nat.le_of_ble_eq_true rfl) hT h
def wp_X10_table (S : St) (t : Int32) (a : Int64) (n : Int32) (P : Int32 → St → Prop) (E : String → St → Prop) : Prop :=
  ((t < 2 → wp_X10_table_11 t a n S  P E) ∧ (¬ t < 2 → ((t < 7 → ((n < 1 → wp_X10_table_34 t a n S  P E) ∧ (¬ n < 1 → ((n ≤ 8 → ((((rLen S (rwId S (gw_fx S) t)) + n) ≤ 20 → (nnB S (rwId S (gw_fx S) t) a n ∧ ∀ S12 : St, S12 = rNum S (rwId S (gw_fx S) t) a n → P (rLen S12 (rwId S (gw_fx S) t)) S12)) ∧ (¬ ((rLen S (rwId S (gw_fx S) t)) + n) ≤ 20 → E nx_ise S))) ∧ (¬ n ≤ 8 → wp_X10_table_34 t a n S  P E))))) ∧ (¬ t < 7 → wp_X10_table_11 t a n S  P E))))
set_option maxHeartbeats 4000000 in
set_option maxRecDepth 100000 in
theorem run_X10_table {l : Launch} {g : Gx} {S : St} {t : Int32} {a : Int64} {n : Int32} {P : Int32 → St → Prop} {E : String → St → Prop} (hl : l.stackTraces = false)  (h : rowsLe S → wp_X10_table S t a n P E) : CXi g l yX10_table cX10_table 6 (some .int) rm_X10_table [.ref (gad g 157), .int t, .long a, .int n] S P E := cx_entry (own := RX10) (by decide) rfl (Nat.le_of_ble_eq_true rfl) rfl (fun hle f hf C hrt hex => by
  subst hf
  have htr := hl
  replace h := h hle
  obtain ⟨T0, hT⟩ : ∃ T, S.2.2.1 = T := ⟨_, rfl⟩
  rw [hT]
  unfold wp_X10_table at h
  refine ww_iload_n C dX10_table_0 1 rfl ?_
  refine ww_iconst (v := 2) C dX10_table_1 (by decide) ?_
  refine ww_icmp_lt (tgt := 11) C dX10_table_2 (by decide) (fun q7 => ?_) (fun q7 => ?_)
  · replace h := h.1 q7
    exact ww_sub [] rfl (run_X10_table_11 C hrt htr hex  hT  h)
  · replace h := h.2 q7
    refine ww_iload_n C dX10_table_5 1 rfl ?_
    refine ww_bipush (v := 7) C dX10_table_6 (by decide) ?_
    refine ww_icmp_lt (tgt := 21) C dX10_table_8 (by decide) (fun q8 => ?_) (fun q8 => ?_)
    · replace h := h.1 q8
      refine ww_iload C dX10_table_21 3 rfl ?_
      refine ww_iconst (v := 1) C dX10_table_23 (by decide) ?_
      refine ww_icmp_lt (tgt := 34) C dX10_table_24 (by decide) (fun q9 => ?_) (fun q9 => ?_)
      · replace h := h.1 q9
        exact ww_sub [] rfl (run_X10_table_34 C hrt htr hex  hT  h)
      · replace h := h.2 q9
        refine ww_iload C dX10_table_27 3 rfl ?_
        refine ww_bipush (v := 8) C dX10_table_29 (by decide) ?_
        refine ww_icmp_le (tgt := 44) C dX10_table_31 (by decide) (fun q10 => ?_) (fun q10 => ?_)
        · replace h := h.1 q10
          refine ww_aload_n C dX10_table_44 0 rfl ?_
          refine gf_FontPacker_font C bw_212 dX10_table_45 ?_
          refine ww_iload_n C dX10_table_48 1 rfl ?_
          refine ww_cVr (As := [.int t]) (rest := []) C ok_X3_tableRow bw_443 dX10_table_49 (cm_X3_tableRow (fx_lt S)) (rc_Font (fx_lt S)) rfl ⟨Nat.le_of_ble_eq_true rfl, Nat.le_of_ble_eq_true rfl⟩ (Nat.le_of_ble_eq_true rfl) (c2 := 0) (s2 := 0) rfl rfl ⟨Nat.le_of_ble_eq_true rfl, Nat.le_of_ble_eq_true rfl⟩ rfl ?_
          refine ww_astore (lv2 := [(5, .ref (gad g (rwId S (gw_fx S) t))), (0, .ref (gad g 157)), (1, .int t), (2, .long a), (4, .int n)]) C dX10_table_52 (Nat.le_of_ble_eq_true rfl) rfl ?_
          refine ww_aload C dX10_table_54 0 rfl ?_
          refine ww_cVf (As := []) (rest := []) C ok_X8_length bw_447 dX10_table_56 (cm_X8_length (rwId_lt (fx_lt S))) (rc_Row (rwId_lt (fx_lt S))) rfl ⟨Nat.le_of_ble_eq_true rfl, Nat.le_of_ble_eq_true rfl⟩ (Nat.le_of_ble_eq_true rfl) (c2 := 0) (s2 := 0) rfl rfl ⟨Nat.le_of_ble_eq_true rfl, Nat.le_of_ble_eq_true rfl⟩ rfl ?_
          refine ww_iload C dX10_table_59 4 rfl ?_
          refine ww_iadd C dX10_table_61 ?_
          refine ww_bipush (v := 20) C dX10_table_62 (by decide) ?_
          refine ww_icmp_le (tgt := 77) C dX10_table_64 (by decide) (fun q11 => ?_) (fun q11 => ?_)
          · replace h := h.1 q11
            refine ww_aload C dX10_table_77 0 rfl ?_
            refine ww_lload_n C dX10_table_79 3 rfl ?_
            refine ww_iload C dX10_table_80 4 rfl ?_
            refine ww_cVg (As := [.long a, .int n]) (rest := []) C ok_X8_addNumber bw_449 dX10_table_82 (cm_X8_addNumber (rwId_lt (fx_lt S)) h.1) (rc_Row (rwId_lt (fx_lt S))) rfl ⟨Nat.le_of_ble_eq_true rfl, Nat.le_of_ble_eq_true rfl⟩ (Nat.le_of_ble_eq_true rfl) (c2 := 0) (s2 := 0) rfl rfl ⟨Nat.le_of_ble_eq_true rfl, Nat.le_of_ble_eq_true rfl⟩ rfl (fun hTg => ?_)
            replace h := h.2
            refine ww_nm (fun S12 e_S12 => ?_)
            replace h := h S12 e_S12
            have hT_S12 : S12.2.2.1 = T0 := by rw [e_S12, hTg]; exact hT
            refine ww_aload C dX10_table_85 0 rfl ?_
            refine ww_cVf (As := []) (rest := []) C ok_X8_length bw_447 dX10_table_87 (cm_X8_length (rwId_lt (fx_lt S))) (rc_Row (rwId_lt (fx_lt S))) rfl ⟨Nat.le_of_ble_eq_true rfl, Nat.le_of_ble_eq_true rfl⟩ (Nat.le_of_ble_eq_true rfl) (c2 := 0) (s2 := 0) rfl rfl ⟨Nat.le_of_ble_eq_true rfl, Nat.le_of_ble_eq_true rfl⟩ rfl ?_
            refine ww_widen (c2 := 1) (s2 := 6) (by omega) (by omega) ?_
            exact ww_xiret C hrt dX10_table_90 hT_S12 h
          · replace h := h.2 q11
            exact ww_throw (text := "the table would have more than 20 bytes") C htr hex tx_ise (Or.inr (Or.inl rfl)) (by decide +kernel) dX10_table_67 dX10_table_70 dX10_table_71 dX10_table_73 dX10_table_76 (Nat.le_of_ble_eq_true rfl) (Nat.le_of_ble_eq_true rfl) (Nat.le_of_ble_eq_true rfl) (Nat.le_of_ble_eq_true rfl) (Nat.le_of_ble_eq_true rfl) (Nat.le_of_ble_eq_true rfl) hT h
        · replace h := h.2 q10
          exact ww_sub [] rfl (run_X10_table_34 C hrt htr hex  hT  h)
    · replace h := h.2 q8
      exact ww_sub [] rfl (run_X10_table_11 C hrt htr hex  hT  h))
abbrev rm_X10_clear : Room := { frames := 2, cells := 0, slots := 0, locals := 41 }
theorem ok_X10_clear : MOK yX10_clear RX10 cX10_clear 1 none 0 := ⟨bw_229, bw_230, bw_61, bw_231, by decide +kernel⟩
def wp_X10_clear (S : St)  (P : St → Prop) : Prop :=
  wp_X3_makeEmpty S (gw_fx S) (fun S3 => P S3)
set_option maxHeartbeats 4000000 in
set_option maxRecDepth 100000 in
theorem run_X10_clear {l : Launch} {g : Gx} {S : St}  {P : St → Prop}  (h : rowsLe S → wp_X10_clear S  P) : CMv g l yX10_clear cX10_clear 1 none rm_X10_clear [.ref (gad g 157)] S P := cm_entry (own := RX10) (plainFor_of_name (by decide)) rfl (Nat.le_of_ble_eq_true rfl) rfl (fun hle f hf C hrt => by
  subst hf
  replace h := h hle
  obtain ⟨T0, hT⟩ : ∃ T, S.2.2.1 = T := ⟨_, rfl⟩
  rw [hT]
  unfold wp_X10_clear at h
  refine ww_aload_n C dX10_clear_0 0 rfl ?_
  refine gf_FontPacker_font C bw_212 dX10_clear_1 ?_
  refine ww_cVv (As := []) (rest := []) C ok_X3_makeEmpty bw_232 dX10_clear_4 (run_X3_makeEmpty (fx_lt S) (fun _ => h)) (rc_Font (fx_lt S)) rfl ⟨Nat.le_of_ble_eq_true rfl, Nat.le_of_ble_eq_true rfl⟩ (Nat.le_of_ble_eq_true rfl) (c2 := 0) (s2 := 0) rfl rfl ⟨Nat.le_of_ble_eq_true rfl, Nat.le_of_ble_eq_true rfl⟩ rfl (fun S3 hp hTg => ?_)
  replace h := hp
  have hT_S3 : S3.2.2.1 = T0 := by rw [hTg]; exact hT
  exact ww_vret C hrt dX10_clear_7 hT_S3 h)
abbrev rm_X10_pack : Room := { frames := 7, cells := 2, slots := 9, locals := 142 }
theorem ok_X10_pack : MOK yX10_pack RX10 cX10_pack 1 (some .int) 0 := ⟨bw_459, bw_460, bw_61, bw_461, by decide +kernel⟩
def wp_X10_pack (S : St)  (P : Int32 → St → Prop) (E : String → St → Prop) : Prop :=
  wp_X10_refuseEmptyContour S (fun S5 => wp_X6_writePacked (S5).2.2.1 S5 (gw_fx S5) 62 (fun S7 => P (rLen S7 62) S7)) E
set_option maxHeartbeats 4000000 in
set_option maxRecDepth 100000 in
theorem run_X10_pack {l : Launch} {g : Gx} {S : St}  {P : Int32 → St → Prop} {E : String → St → Prop} (hl : l.stackTraces = false)  (h : rowsLe S → wp_X10_pack S  P E) : CXi g l yX10_pack cX10_pack 1 (some .int) rm_X10_pack [.ref (gad g 157)] S P E := cx_entry (own := RX10) (by decide) rfl (Nat.le_of_ble_eq_true rfl) rfl (fun hle f hf C hrt hex => by
  subst hf
  have htr := hl
  replace h := h hle
  obtain ⟨T0, hT⟩ : ∃ T, S.2.2.1 = T := ⟨_, rfl⟩
  rw [hT]
  unfold wp_X10_pack at h
  refine ww_aload_n C dX10_pack_0 0 rfl ?_
  refine ww_xVv (As := []) (rest := []) C hex ok_X10_refuseEmptyContour bw_341 dX10_pack_1 (run_X10_refuseEmptyContour htr  (fun _ => h)) rc_FontPacker rfl ⟨Nat.le_of_ble_eq_true rfl, Nat.le_of_ble_eq_true rfl⟩ (Nat.le_of_ble_eq_true rfl) (c2 := 1) (s2 := 6) rfl rfl ⟨Nat.le_of_ble_eq_true rfl, Nat.le_of_ble_eq_true rfl⟩ (Nat.le_of_ble_eq_true rfl) (Nat.le_of_ble_eq_true rfl) rfl hT (fun _ _ z => z) (fun S5 hp hTg => ?_)
  replace h := hp
  have hT_S5 : S5.2.2.1 = T0 := by rw [hTg]; exact hT
  refine ww_aload_n C dX10_pack_4 0 rfl ?_
  refine gf_FontPacker_writer C bw_210 dX10_pack_5 ?_
  refine ww_aload_n C dX10_pack_8 0 rfl ?_
  refine gf_FontPacker_font C bw_212 dX10_pack_9 ?_
  refine ww_aload_n C dX10_pack_12 0 rfl ?_
  refine gf_FontPacker_buffer C bw_209 dX10_pack_13 ?_
  refine ww_cVv (As := [.ref (gad g (148 + (gw_fx S5))), .ref (gad g 62)]) (rest := []) C ok_X6_writePacked bw_462 dX10_pack_16 (run_X6_writePacked (fx_lt S5) (by decide) (fun _ => h)) rc_PackedWriter rfl ⟨Nat.le_of_ble_eq_true rfl, Nat.le_of_ble_eq_true rfl⟩ (Nat.le_of_ble_eq_true rfl) (c2 := 2) (s2 := 9) rfl rfl ⟨Nat.le_of_ble_eq_true rfl, Nat.le_of_ble_eq_true rfl⟩ rfl (fun S7 hp hTg => ?_)
  replace h := hp
  have hT_S7 : S7.2.2.1 = T0 := by rw [hTg]; exact hT_S5
  refine ww_aload_n C dX10_pack_19 0 rfl ?_
  refine gf_FontPacker_buffer C bw_209 dX10_pack_20 ?_
  refine ww_cVf (As := []) (rest := []) C ok_X8_length bw_447 dX10_pack_23 (cm_X8_length (by decide)) (rc_Row (by decide)) rfl ⟨Nat.le_of_ble_eq_true rfl, Nat.le_of_ble_eq_true rfl⟩ (Nat.le_of_ble_eq_true rfl) (c2 := 2) (s2 := 9) rfl rfl ⟨Nat.le_of_ble_eq_true rfl, Nat.le_of_ble_eq_true rfl⟩ rfl ?_
  exact ww_xiret C hrt dX10_pack_26 hT_S7 h)
abbrev rm_X10_plain : Room := { frames := 7, cells := 1, slots := 6, locals := 137 }
theorem ok_X10_plain : MOK yX10_plain RX10 cX10_plain 1 (some .int) 0 := ⟨bw_628, bw_629, bw_61, bw_630, by decide +kernel⟩
def wp_X10_plain (S : St)  (P : Int32 → St → Prop) (E : String → St → Prop) : Prop :=
  wp_X10_refuseEmptyContour S (fun S5 => wp_X7_writePlain S5 (gw_fx S5) 62 (fun S7 => P (rLen S7 62) S7)) E
set_option maxHeartbeats 4000000 in
set_option maxRecDepth 100000 in
theorem run_X10_plain {l : Launch} {g : Gx} {S : St}  {P : Int32 → St → Prop} {E : String → St → Prop} (hl : l.stackTraces = false)  (h : rowsLe S → wp_X10_plain S  P E) : CXi g l yX10_plain cX10_plain 1 (some .int) rm_X10_plain [.ref (gad g 157)] S P E := cx_entry (own := RX10) (by decide) rfl (Nat.le_of_ble_eq_true rfl) rfl (fun hle f hf C hrt hex => by
  subst hf
  have htr := hl
  replace h := h hle
  obtain ⟨T0, hT⟩ : ∃ T, S.2.2.1 = T := ⟨_, rfl⟩
  rw [hT]
  unfold wp_X10_plain at h
  refine ww_aload_n C dX10_plain_0 0 rfl ?_
  refine ww_xVv (As := []) (rest := []) C hex ok_X10_refuseEmptyContour bw_341 dX10_plain_1 (run_X10_refuseEmptyContour htr  (fun _ => h)) rc_FontPacker rfl ⟨Nat.le_of_ble_eq_true rfl, Nat.le_of_ble_eq_true rfl⟩ (Nat.le_of_ble_eq_true rfl) (c2 := 1) (s2 := 6) rfl rfl ⟨Nat.le_of_ble_eq_true rfl, Nat.le_of_ble_eq_true rfl⟩ (Nat.le_of_ble_eq_true rfl) (Nat.le_of_ble_eq_true rfl) rfl hT (fun _ _ z => z) (fun S5 hp hTg => ?_)
  replace h := hp
  have hT_S5 : S5.2.2.1 = T0 := by rw [hTg]; exact hT
  refine ww_aload_n C dX10_plain_4 0 rfl ?_
  refine gf_FontPacker_font C bw_212 dX10_plain_5 ?_
  refine ww_aload_n C dX10_plain_8 0 rfl ?_
  refine gf_FontPacker_buffer C bw_209 dX10_plain_9 ?_
  refine ww_cSv (As := [.ref (gad g (148 + (gw_fx S5))), .ref (gad g 62)]) (rest := []) C ok_X7_writePlain bw_631 dX10_plain_12 (run_X7_writePlain (fx_lt S5) (by decide) (fun _ => h)) rfl ⟨Nat.le_of_ble_eq_true rfl, Nat.le_of_ble_eq_true rfl⟩ (Nat.le_of_ble_eq_true rfl) (c2 := 1) (s2 := 6) rfl rfl ⟨Nat.le_of_ble_eq_true rfl, Nat.le_of_ble_eq_true rfl⟩ rfl (fun S7 hp hTg => ?_)
  replace h := hp
  have hT_S7 : S7.2.2.1 = T0 := by rw [hTg]; exact hT_S5
  refine ww_aload_n C dX10_plain_15 0 rfl ?_
  refine gf_FontPacker_buffer C bw_209 dX10_plain_16 ?_
  refine ww_cVf (As := []) (rest := []) C ok_X8_length bw_447 dX10_plain_19 (cm_X8_length (by decide)) (rc_Row (by decide)) rfl ⟨Nat.le_of_ble_eq_true rfl, Nat.le_of_ble_eq_true rfl⟩ (Nat.le_of_ble_eq_true rfl) (c2 := 1) (s2 := 6) rfl rfl ⟨Nat.le_of_ble_eq_true rfl, Nat.le_of_ble_eq_true rfl⟩ rfl ?_
  exact ww_xiret C hrt dX10_plain_22 hT_S7 h)
abbrev rm_X10_read : Room := { frames := 6, cells := 7, slots := 30, locals := 148 }
theorem ok_X10_read : MOK yX10_read RX10 cX10_read 2 (some .int) 0 := ⟨bw_652, bw_653, bw_61, bw_654, by decide +kernel⟩
def wp_X10_read (S : St)  (P : Int32 → St → Prop) (E : String → St → Prop) : Prop :=
  wp_X5_readPacked (S).2.2.1 S 62 (gw_sx S) (fun r10 S9 => ∀ S11 : St, S11 = stM S9 3 0 r10 → (((S11.2.1 3 0) = 0 → ∀ S13 : St, S13 = stM S11 3 1 (nI (gw_sx S11)) → ∀ S14 : St, S14 = stM S13 3 2 (nI (gw_fx S11)) → wp_X3_tableCount S14 (gw_fx S14) (fun r16 S15 => P r16 S15)) ∧ (¬ (S11.2.1 3 0) = 0 → E nx_iae S11)))
set_option maxHeartbeats 4000000 in
set_option maxRecDepth 100000 in
theorem run_X10_read {l : Launch} {g : Gx} {S : St}  {P : Int32 → St → Prop} {E : String → St → Prop} (hl : l.stackTraces = false)  (h : rowsLe S → wp_X10_read S  P E) : CXi g l yX10_read cX10_read 2 (some .int) rm_X10_read [.ref (gad g 157)] S P E := cx_entry (own := RX10) (by decide) rfl (Nat.le_of_ble_eq_true rfl) rfl (fun hle f hf C hrt hex => by
  subst hf
  have htr := hl
  replace h := h hle
  obtain ⟨T0, hT⟩ : ∃ T, S.2.2.1 = T := ⟨_, rfl⟩
  rw [hT]
  unfold wp_X10_read at h
  refine ww_aload_n C dX10_read_0 0 rfl ?_
  refine ww_aload_n C dX10_read_1 0 rfl ?_
  refine gf_FontPacker_reader C bw_211 dX10_read_2 ?_
  refine ww_aload_n C dX10_read_5 0 rfl ?_
  refine gf_FontPacker_buffer C bw_209 dX10_read_6 ?_
  refine ww_aload_n C dX10_read_9 0 rfl ?_
  refine gf_FontPacker_spare C bw_213 dX10_read_10 ?_
  refine ww_cVi (As := [.ref (gad g 62), .ref (gad g (148 + (gw_sx S)))]) (rest := [.ref (gad g 157)]) C ok_X5_readPacked bw_655 dX10_read_13 (run_X5_readPacked (by decide) (sx_lt S) (fun _ => h)) rc_PackedReader rfl ⟨Nat.le_of_ble_eq_true rfl, Nat.le_of_ble_eq_true rfl⟩ (Nat.le_of_ble_eq_true rfl) (c2 := 6) (s2 := 24) rfl rfl ⟨Nat.le_of_ble_eq_true rfl, Nat.le_of_ble_eq_true rfl⟩ rfl (fun r10 S9 hp hTg => ?_)
  replace h := hp
  have hT_S9 : S9.2.2.1 = T0 := by rw [hTg]; exact hT
  refine pf_FontPacker_failedStage C bw_214 dX10_read_16 ?_
  refine ww_nm (fun S11 e_S11 => ?_)
  replace h := h S11 e_S11
  have hT_S11 : S11.2.2.1 = T0 := by rw [e_S11]; exact hT_S9
  refine ww_aload_n C dX10_read_19 0 rfl ?_
  refine gf_FontPacker_failedStage C bw_214 dX10_read_20 ?_
  refine ww_if_eq (tgt := 36) C dX10_read_23 (by decide) (fun q12 => ?_) (fun q12 => ?_)
  · replace h := h.1 q12
    refine ww_aload_n C dX10_read_36 0 rfl ?_
    refine gf_FontPacker_font C bw_212 dX10_read_37 ?_
    refine ww_astore_n (lv2 := [(1, .ref (gad g (148 + (gw_fx S11)))), (0, .ref (gad g 157))]) C dX10_read_40 rfl (Nat.le_of_ble_eq_true rfl) rfl ?_
    refine ww_aload_n C dX10_read_41 1 rfl ?_
    refine ww_aload_n C dX10_read_42 1 rfl ?_
    refine gf_FontPacker_spare C bw_213 dX10_read_43 ?_
    refine pf_FontPacker_font C (j := gw_sx S11) (sx_lt S11) bw_212 dX10_read_46 ?_
    refine ww_nm (fun S13 e_S13 => ?_)
    replace h := h S13 e_S13
    have hT_S13 : S13.2.2.1 = T0 := by rw [e_S13]; exact hT_S11
    refine ww_aload_n C dX10_read_49 1 rfl ?_
    refine ww_aload_n C dX10_read_50 0 rfl ?_
    refine pf_FontPacker_spare C (j := gw_fx S11) (fx_lt S11) bw_213 dX10_read_51 ?_
    refine ww_nm (fun S14 e_S14 => ?_)
    replace h := h S14 e_S14
    have hT_S14 : S14.2.2.1 = T0 := by rw [e_S14]; exact hT_S13
    refine ww_aload_n C dX10_read_54 1 rfl ?_
    refine gf_FontPacker_font C bw_212 dX10_read_55 ?_
    refine ww_cVi (As := []) (rest := []) C ok_X3_tableCount bw_823 dX10_read_58 (run_X3_tableCount (fx_lt S14) (fun _ => h)) (rc_Font (fx_lt S14)) rfl ⟨Nat.le_of_ble_eq_true rfl, Nat.le_of_ble_eq_true rfl⟩ (Nat.le_of_ble_eq_true rfl) (c2 := 6) (s2 := 24) rfl rfl ⟨Nat.le_of_ble_eq_true rfl, Nat.le_of_ble_eq_true rfl⟩ rfl (fun r16 S15 hp hTg => ?_)
    replace h := hp
    have hT_S15 : S15.2.2.1 = T0 := by rw [hTg]; exact hT_S14
    refine ww_widen (c2 := 7) (s2 := 30) (by omega) (by omega) ?_
    exact ww_xiret C hrt dX10_read_61 hT_S15 h
  · replace h := h.2 q12
    exact ww_throw (text := "the buffer is not a packed font") C htr hex tx_iae (Or.inl rfl) (by decide +kernel) dX10_read_26 dX10_read_29 dX10_read_30 dX10_read_32 dX10_read_35 (Nat.le_of_ble_eq_true rfl) (Nat.le_of_ble_eq_true rfl) (Nat.le_of_ble_eq_true rfl) (Nat.le_of_ble_eq_true rfl) (Nat.le_of_ble_eq_true rfl) (Nat.le_of_ble_eq_true rfl) hT_S11 h)
abbrev rm_X10_stage : Room := { frames := 0, cells := 0, slots := 0, locals := 0 }
theorem ok_X10_stage : MOK yX10_stage RX10 cX10_stage 1 (some .int) 0 := ⟨bw_241, bw_242, bw_61, bw_243, by decide +kernel⟩
def wp_X10_stage (S : St)  (P : Int32 → St → Prop) : Prop :=
  P (S.2.1 3 0) S
set_option maxHeartbeats 4000000 in
set_option maxRecDepth 100000 in
theorem run_X10_stage {l : Launch} {g : Gx} {S : St}  {P : Int32 → St → Prop}  (h : rowsLe S → wp_X10_stage S  P) : CMi g l yX10_stage cX10_stage 1 (some .int) rm_X10_stage [.ref (gad g 157)] S P := cm_entry (own := RX10) (plainFor_of_name (by decide)) rfl (Nat.le_of_ble_eq_true rfl) rfl (fun hle f hf C hrt => by
  subst hf
  replace h := h hle
  obtain ⟨T0, hT⟩ : ∃ T, S.2.2.1 = T := ⟨_, rfl⟩
  rw [hT]
  unfold wp_X10_stage at h
  refine ww_aload_n C dX10_stage_0 0 rfl ?_
  refine gf_FontPacker_failedStage C bw_214 dX10_stage_1 ?_
  exact ww_iret C hrt dX10_stage_4 hT h)
def fv_X10_stage (S : St)   : Int32 := (S.2.1 3 0)
set_option maxHeartbeats 4000000 in
set_option maxRecDepth 100000 in
theorem sp_X10_stage {S : St}   {P : Int32 → St → Prop} (h : P (fv_X10_stage S  ) S) : wp_X10_stage S  P := by
  unfold wp_X10_stage
  unfold fv_X10_stage at h
  exact h
theorem cm_X10_stage {l : Launch} {g : Gx} {S : St}   : CMi g l yX10_stage cX10_stage 1 (some .int) rm_X10_stage [.ref (gad g 157)] S (fun v S2 => v = fv_X10_stage S  ∧ S2 = S) := run_X10_stage  (fun _ => sp_X10_stage ⟨rfl, rfl⟩)
abbrev rm_X10_put : Room := { frames := 6, cells := 1, slots := 6, locals := 82 }
theorem ok_X10_put : MOK yX10_put RX10 cX10_put 4 (some .int) 2 := ⟨bw_828, bw_829, bw_61, bw_830, by decide +kernel⟩
def wp_X10_put_11 (a : Int64) (n : Int32) (S : St)  (P : Int32 → St → Prop) (E : String → St → Prop) : Prop :=
  E nx_iae S
set_option maxHeartbeats 4000000 in
set_option maxRecDepth 100000 in
theorem run_X10_put_11 {f : Fx} {g : Gx} {T0 : List (Nat × Nat × Nat)} {S : St} {a : Int64} {n : Int32} {P : Int32 → St → Prop} {E : String → St → Prop} (C : Cx f g cX10_put 4 RX10) (hrt : (fmeth f).sig.returnType = (some .int)) (htr : f.2.1.stackTraces = false) (hex : ∀ x ∈ (fcode f).exceptionTable.toList, False)   (hT : S.2.2.1 = T0)  (h : wp_X10_put_11 a n S  P E) : WW f rm_X10_put g 4 0 0 (Qxi f g 1 6 T0 P E) S 11 [] [] := by
  unfold wp_X10_put_11 at h
  exact ww_throw (text := "n is not 1 .. 8") C htr hex tx_iae (Or.inl rfl) (by decide +kernel) dX10_put_11 dX10_put_14 dX10_put_15 dX10_put_17 dX10_put_20 (Nat.le_of_ble_eq_true rfl) (Nat.le_of_ble_eq_true rfl) (Nat.le_of_ble_eq_true rfl) (Nat.le_of_ble_eq_true rfl) (Nat.le_of_ble_eq_true rfl) (Nat.le_of_ble_eq_true rfl) hT h
def wp_X10_put (S : St) (a : Int64) (n : Int32) (P : Int32 → St → Prop) (E : String → St → Prop) : Prop :=
  ((n < 1 → wp_X10_put_11 a n S  P E) ∧ (¬ n < 1 → ((n ≤ 8 → ((((rLen S 62) + n) ≤ 1500 → (nnB S 62 a n ∧ ∀ S8 : St, S8 = rNum S 62 a n → P (rLen S8 62) S8)) ∧ (¬ ((rLen S 62) + n) ≤ 1500 → E nx_ise S))) ∧ (¬ n ≤ 8 → wp_X10_put_11 a n S  P E))))
set_option maxHeartbeats 4000000 in
set_option maxRecDepth 100000 in
theorem run_X10_put {l : Launch} {g : Gx} {S : St} {a : Int64} {n : Int32} {P : Int32 → St → Prop} {E : String → St → Prop} (hl : l.stackTraces = false)  (h : rowsLe S → wp_X10_put S a n P E) : CXi g l yX10_put cX10_put 4 (some .int) rm_X10_put [.ref (gad g 157), .long a, .int n] S P E := cx_entry (own := RX10) (by decide) rfl (Nat.le_of_ble_eq_true rfl) rfl (fun hle f hf C hrt hex => by
  subst hf
  have htr := hl
  replace h := h hle
  obtain ⟨T0, hT⟩ : ∃ T, S.2.2.1 = T := ⟨_, rfl⟩
  rw [hT]
  unfold wp_X10_put at h
  refine ww_iload_n C dX10_put_0 2 rfl ?_
  refine ww_iconst (v := 1) C dX10_put_1 (by decide) ?_
  refine ww_icmp_lt (tgt := 11) C dX10_put_2 (by decide) (fun q5 => ?_) (fun q5 => ?_)
  · replace h := h.1 q5
    exact ww_sub [] rfl (run_X10_put_11 C hrt htr hex  hT  h)
  · replace h := h.2 q5
    refine ww_iload_n C dX10_put_5 2 rfl ?_
    refine ww_bipush (v := 8) C dX10_put_6 (by decide) ?_
    refine ww_icmp_le (tgt := 21) C dX10_put_8 (by decide) (fun q6 => ?_) (fun q6 => ?_)
    · replace h := h.1 q6
      refine ww_aload_n C dX10_put_21 0 rfl ?_
      refine gf_FontPacker_buffer C bw_209 dX10_put_22 ?_
      refine ww_cVf (As := []) (rest := []) C ok_X8_length bw_447 dX10_put_25 (cm_X8_length (by decide)) (rc_Row (by decide)) rfl ⟨Nat.le_of_ble_eq_true rfl, Nat.le_of_ble_eq_true rfl⟩ (Nat.le_of_ble_eq_true rfl) (c2 := 0) (s2 := 0) rfl rfl ⟨Nat.le_of_ble_eq_true rfl, Nat.le_of_ble_eq_true rfl⟩ rfl ?_
      refine ww_iload_n C dX10_put_28 2 rfl ?_
      refine ww_iadd C dX10_put_29 ?_
      refine ww_sipush (v := 1500) C dX10_put_30 (by decide) ?_
      refine ww_icmp_le (tgt := 46) C dX10_put_33 (by decide) (fun q7 => ?_) (fun q7 => ?_)
      · replace h := h.1 q7
        refine ww_aload_n C dX10_put_46 0 rfl ?_
        refine gf_FontPacker_buffer C bw_209 dX10_put_47 ?_
        refine ww_lload_n C dX10_put_50 1 rfl ?_
        refine ww_iload_n C dX10_put_51 2 rfl ?_
        refine ww_cVg (As := [.long a, .int n]) (rest := []) C ok_X8_addNumber bw_449 dX10_put_52 (cm_X8_addNumber (by decide) h.1) (rc_Row (by decide)) rfl ⟨Nat.le_of_ble_eq_true rfl, Nat.le_of_ble_eq_true rfl⟩ (Nat.le_of_ble_eq_true rfl) (c2 := 0) (s2 := 0) rfl rfl ⟨Nat.le_of_ble_eq_true rfl, Nat.le_of_ble_eq_true rfl⟩ rfl (fun hTg => ?_)
        replace h := h.2
        refine ww_nm (fun S8 e_S8 => ?_)
        replace h := h S8 e_S8
        have hT_S8 : S8.2.2.1 = T0 := by rw [e_S8, hTg]; exact hT
        refine ww_aload_n C dX10_put_55 0 rfl ?_
        refine gf_FontPacker_buffer C bw_209 dX10_put_56 ?_
        refine ww_cVf (As := []) (rest := []) C ok_X8_length bw_447 dX10_put_59 (cm_X8_length (by decide)) (rc_Row (by decide)) rfl ⟨Nat.le_of_ble_eq_true rfl, Nat.le_of_ble_eq_true rfl⟩ (Nat.le_of_ble_eq_true rfl) (c2 := 0) (s2 := 0) rfl rfl ⟨Nat.le_of_ble_eq_true rfl, Nat.le_of_ble_eq_true rfl⟩ rfl ?_
        refine ww_widen (c2 := 1) (s2 := 6) (by omega) (by omega) ?_
        exact ww_xiret C hrt dX10_put_62 hT_S8 h
      · replace h := h.2 q7
        exact ww_throw (text := "the buffer would have more than 1500 bytes") C htr hex tx_ise (Or.inr (Or.inl rfl)) (by decide +kernel) dX10_put_36 dX10_put_39 dX10_put_40 dX10_put_42 dX10_put_45 (Nat.le_of_ble_eq_true rfl) (Nat.le_of_ble_eq_true rfl) (Nat.le_of_ble_eq_true rfl) (Nat.le_of_ble_eq_true rfl) (Nat.le_of_ble_eq_true rfl) (Nat.le_of_ble_eq_true rfl) hT h
    · replace h := h.2 q6
      exact ww_sub [] rfl (run_X10_put_11 C hrt htr hex  hT  h))
abbrev rm_X10_set : Room := { frames := 7, cells := 2, slots := 12, locals := 103 }
theorem ok_X10_set : MOK yX10_set RX10 cX10_set 3 none 2 := ⟨bw_837, bw_838, bw_61, bw_839, by decide +kernel⟩
def wp_X10_set_16 (k : Int32) (b : Int32) (S : St)  (P : St → Prop) (E : String → St → Prop) : Prop :=
  E nx_iae S
set_option maxHeartbeats 4000000 in
set_option maxRecDepth 100000 in
theorem run_X10_set_16 {f : Fx} {g : Gx} {T0 : List (Nat × Nat × Nat)} {S : St} {k : Int32} {b : Int32} {P : St → Prop} {E : String → St → Prop} (C : Cx f g cX10_set 3 RX10) (hrt : (fmeth f).sig.returnType = none) (htr : f.2.1.stackTraces = false) (hex : ∀ x ∈ (fcode f).exceptionTable.toList, False)   (hT : S.2.2.1 = T0)  (h : wp_X10_set_16 k b S  P E) : WW f rm_X10_set g 3 1 6 (Qxv f g 2 12 T0 P E) S 16 [] [] := by
  unfold wp_X10_set_16 at h
  exact ww_throw (text := "b is not 0 .. 255") C htr hex tx_iae (Or.inl rfl) (by decide +kernel) dX10_set_16 dX10_set_19 dX10_set_20 dX10_set_22 dX10_set_25 (Nat.le_of_ble_eq_true rfl) (Nat.le_of_ble_eq_true rfl) (Nat.le_of_ble_eq_true rfl) (Nat.le_of_ble_eq_true rfl) (Nat.le_of_ble_eq_true rfl) (Nat.le_of_ble_eq_true rfl) hT h
def wp_X10_set (S : St) (k : Int32) (b : Int32) (P : St → Prop) (E : String → St → Prop) : Prop :=
  wp_X10_refuseMissingByte S k (fun S6 => ((b < 0 → wp_X10_set_16 k b S6  P E) ∧ (¬ b < 0 → ((b ≤ 255 → ∀ S10 : St, S10 = rChange S6 62 k b → P S10) ∧ (¬ b ≤ 255 → wp_X10_set_16 k b S6  P E))))) E
set_option maxHeartbeats 4000000 in
set_option maxRecDepth 100000 in
theorem run_X10_set {l : Launch} {g : Gx} {S : St} {k : Int32} {b : Int32} {P : St → Prop} {E : String → St → Prop} (hl : l.stackTraces = false)  (h : rowsLe S → wp_X10_set S k b P E) : CXv g l yX10_set cX10_set 3 none rm_X10_set [.ref (gad g 157), .int k, .int b] S P E := cx_entry (own := RX10) (by decide) rfl (Nat.le_of_ble_eq_true rfl) rfl (fun hle f hf C hrt hex => by
  subst hf
  have htr := hl
  replace h := h hle
  obtain ⟨T0, hT⟩ : ∃ T, S.2.2.1 = T := ⟨_, rfl⟩
  rw [hT]
  unfold wp_X10_set at h
  refine ww_aload_n C dX10_set_0 0 rfl ?_
  refine ww_iload_n C dX10_set_1 1 rfl ?_
  refine ww_xVv (As := [.int k]) (rest := []) C hex ok_X10_refuseMissingByte bw_840 dX10_set_2 (run_X10_refuseMissingByte htr  (fun _ => h)) rc_FontPacker rfl ⟨Nat.le_of_ble_eq_true rfl, Nat.le_of_ble_eq_true rfl⟩ (Nat.le_of_ble_eq_true rfl) (c2 := 1) (s2 := 6) rfl rfl ⟨Nat.le_of_ble_eq_true rfl, Nat.le_of_ble_eq_true rfl⟩ (Nat.le_of_ble_eq_true rfl) (Nat.le_of_ble_eq_true rfl) rfl hT (fun _ _ z => z) (fun S6 hp hTg => ?_)
  replace h := hp
  have hT_S6 : S6.2.2.1 = T0 := by rw [hTg]; exact hT
  refine ww_iload_n C dX10_set_5 2 rfl ?_
  refine ww_if_lt (tgt := 16) C dX10_set_6 (by decide) (fun q8 => ?_) (fun q8 => ?_)
  · replace h := h.1 q8
    exact ww_sub [] rfl (run_X10_set_16 C hrt htr hex  hT_S6  h)
  · replace h := h.2 q8
    refine ww_iload_n C dX10_set_9 2 rfl ?_
    refine ww_sipush (v := 255) C dX10_set_10 (by decide) ?_
    refine ww_icmp_le (tgt := 26) C dX10_set_13 (by decide) (fun q9 => ?_) (fun q9 => ?_)
    · replace h := h.1 q9
      refine ww_aload_n C dX10_set_26 0 rfl ?_
      refine gf_FontPacker_buffer C bw_209 dX10_set_27 ?_
      refine ww_iload_n C dX10_set_30 1 rfl ?_
      refine ww_iload_n C dX10_set_31 2 rfl ?_
      refine ww_cVg (As := [.int k, .int b]) (rest := []) C ok_X8_change bw_861 dX10_set_32 (cm_X8_change (by decide)) (rc_Row (by decide)) rfl ⟨Nat.le_of_ble_eq_true rfl, Nat.le_of_ble_eq_true rfl⟩ (Nat.le_of_ble_eq_true rfl) (c2 := 1) (s2 := 6) rfl rfl ⟨Nat.le_of_ble_eq_true rfl, Nat.le_of_ble_eq_true rfl⟩ rfl (fun hTg => ?_)
      refine ww_nm (fun S10 e_S10 => ?_)
      replace h := h S10 e_S10
      have hT_S10 : S10.2.2.1 = T0 := by rw [e_S10, hTg]; exact hT_S6
      refine ww_widen (c2 := 2) (s2 := 12) (by omega) (by omega) ?_
      exact ww_xvret C hrt dX10_set_35 hT_S10 h
    · replace h := h.2 q9
      exact ww_sub [] rfl (run_X10_set_16 C hrt htr hex  hT_S6  h))
abbrev rm_X10_cut : Room := { frames := 6, cells := 1, slots := 6, locals := 82 }
theorem ok_X10_cut : MOK yX10_cut RX10 cX10_cut 2 none 1 := ⟨bw_866, bw_867, bw_61, bw_868, by decide +kernel⟩
def wp_X10_cut_15 (n : Int32) (S : St)  (P : St → Prop) (E : String → St → Prop) : Prop :=
  E nx_iae S
set_option maxHeartbeats 4000000 in
set_option maxRecDepth 100000 in
theorem run_X10_cut_15 {f : Fx} {g : Gx} {T0 : List (Nat × Nat × Nat)} {S : St} {n : Int32} {P : St → Prop} {E : String → St → Prop} (C : Cx f g cX10_cut 2 RX10) (hrt : (fmeth f).sig.returnType = none) (htr : f.2.1.stackTraces = false) (hex : ∀ x ∈ (fcode f).exceptionTable.toList, False)   (hT : S.2.2.1 = T0)  (h : wp_X10_cut_15 n S  P E) : WW f rm_X10_cut g 2 0 0 (Qxv f g 1 6 T0 P E) S 15 [] [] := by
  unfold wp_X10_cut_15 at h
  exact ww_throw (text := "there are not n bytes") C htr hex tx_iae (Or.inl rfl) (by decide +kernel) dX10_cut_15 dX10_cut_18 dX10_cut_19 dX10_cut_21 dX10_cut_24 (Nat.le_of_ble_eq_true rfl) (Nat.le_of_ble_eq_true rfl) (Nat.le_of_ble_eq_true rfl) (Nat.le_of_ble_eq_true rfl) (Nat.le_of_ble_eq_true rfl) (Nat.le_of_ble_eq_true rfl) hT h
def wp_X10_cut (S : St) (n : Int32) (P : St → Prop) (E : String → St → Prop) : Prop :=
  ((n < 0 → wp_X10_cut_15 n S  P E) ∧ (¬ n < 0 → ((n ≤ (rLen S 62) → ∀ S6 : St, S6 = rKeep S 62 n → P S6) ∧ (¬ n ≤ (rLen S 62) → wp_X10_cut_15 n S  P E))))
set_option maxHeartbeats 4000000 in
set_option maxRecDepth 100000 in
theorem run_X10_cut {l : Launch} {g : Gx} {S : St} {n : Int32} {P : St → Prop} {E : String → St → Prop} (hl : l.stackTraces = false)  (h : rowsLe S → wp_X10_cut S n P E) : CXv g l yX10_cut cX10_cut 2 none rm_X10_cut [.ref (gad g 157), .int n] S P E := cx_entry (own := RX10) (by decide) rfl (Nat.le_of_ble_eq_true rfl) rfl (fun hle f hf C hrt hex => by
  subst hf
  have htr := hl
  replace h := h hle
  obtain ⟨T0, hT⟩ : ∃ T, S.2.2.1 = T := ⟨_, rfl⟩
  rw [hT]
  unfold wp_X10_cut at h
  refine ww_iload_n C dX10_cut_0 1 rfl ?_
  refine ww_if_lt (tgt := 15) C dX10_cut_1 (by decide) (fun q4 => ?_) (fun q4 => ?_)
  · replace h := h.1 q4
    exact ww_sub [] rfl (run_X10_cut_15 C hrt htr hex  hT  h)
  · replace h := h.2 q4
    refine ww_iload_n C dX10_cut_4 1 rfl ?_
    refine ww_aload_n C dX10_cut_5 0 rfl ?_
    refine gf_FontPacker_buffer C bw_209 dX10_cut_6 ?_
    refine ww_cVf (As := []) (rest := [.int n]) C ok_X8_length bw_447 dX10_cut_9 (cm_X8_length (by decide)) (rc_Row (by decide)) rfl ⟨Nat.le_of_ble_eq_true rfl, Nat.le_of_ble_eq_true rfl⟩ (Nat.le_of_ble_eq_true rfl) (c2 := 0) (s2 := 0) rfl rfl ⟨Nat.le_of_ble_eq_true rfl, Nat.le_of_ble_eq_true rfl⟩ rfl ?_
    refine ww_icmp_le (tgt := 25) C dX10_cut_12 (by decide) (fun q5 => ?_) (fun q5 => ?_)
    · replace h := h.1 q5
      refine ww_aload_n C dX10_cut_25 0 rfl ?_
      refine gf_FontPacker_buffer C bw_209 dX10_cut_26 ?_
      refine ww_iload_n C dX10_cut_29 1 rfl ?_
      refine ww_cVg (As := [.int n]) (rest := []) C ok_X8_keepFirst bw_870 dX10_cut_30 (cm_X8_keepFirst (by decide)) (rc_Row (by decide)) rfl ⟨Nat.le_of_ble_eq_true rfl, Nat.le_of_ble_eq_true rfl⟩ (Nat.le_of_ble_eq_true rfl) (c2 := 0) (s2 := 0) rfl rfl ⟨Nat.le_of_ble_eq_true rfl, Nat.le_of_ble_eq_true rfl⟩ rfl (fun hTg => ?_)
      refine ww_nm (fun S6 e_S6 => ?_)
      replace h := h S6 e_S6
      have hT_S6 : S6.2.2.1 = T0 := by rw [e_S6, hTg]; exact hT
      refine ww_widen (c2 := 1) (s2 := 6) (by omega) (by omega) ?_
      exact ww_xvret C hrt dX10_cut_33 hT_S6 h
    · replace h := h.2 q5
      exact ww_sub [] rfl (run_X10_cut_15 C hrt htr hex  hT  h))
abbrev rm_X10_at : Room := { frames := 7, cells := 1, slots := 6, locals := 103 }
theorem ok_X10_at : MOK yX10_at RX10 cX10_at 2 (some .int) 1 := ⟨bw_878, bw_879, bw_61, bw_880, by decide +kernel⟩
def wp_X10_at (S : St) (k : Int32) (P : Int32 → St → Prop) (E : String → St → Prop) : Prop :=
  ((¬ k = ((-1)) → wp_X10_refuseMissingByte S k (fun S5 => P (rGet S5 62 k) S5) E) ∧ (k = ((-1)) → P (rLen S 62) S))
set_option maxHeartbeats 4000000 in
set_option maxRecDepth 100000 in
theorem run_X10_at {l : Launch} {g : Gx} {S : St} {k : Int32} {P : Int32 → St → Prop} {E : String → St → Prop} (hl : l.stackTraces = false)  (h : rowsLe S → wp_X10_at S k P E) : CXi g l yX10_at cX10_at 2 (some .int) rm_X10_at [.ref (gad g 157), .int k] S P E := cx_entry (own := RX10) (by decide) rfl (Nat.le_of_ble_eq_true rfl) rfl (fun hle f hf C hrt hex => by
  subst hf
  have htr := hl
  replace h := h hle
  obtain ⟨T0, hT⟩ : ∃ T, S.2.2.1 = T := ⟨_, rfl⟩
  rw [hT]
  unfold wp_X10_at at h
  refine ww_iload_n C dX10_at_0 1 rfl ?_
  refine ww_iconst (v := (-1)) C dX10_at_1 (by decide) ?_
  refine ww_icmp_ne (tgt := 13) C dX10_at_2 (by decide) (fun q4 => ?_) (fun q4 => ?_)
  · replace h := h.1 q4
    refine ww_aload_n C dX10_at_13 0 rfl ?_
    refine ww_iload_n C dX10_at_14 1 rfl ?_
    refine ww_xVv (As := [.int k]) (rest := []) C hex ok_X10_refuseMissingByte bw_840 dX10_at_15 (run_X10_refuseMissingByte htr  (fun _ => h)) rc_FontPacker rfl ⟨Nat.le_of_ble_eq_true rfl, Nat.le_of_ble_eq_true rfl⟩ (Nat.le_of_ble_eq_true rfl) (c2 := 1) (s2 := 6) rfl rfl ⟨Nat.le_of_ble_eq_true rfl, Nat.le_of_ble_eq_true rfl⟩ (Nat.le_of_ble_eq_true rfl) (Nat.le_of_ble_eq_true rfl) rfl hT (fun _ _ z => z) (fun S5 hp hTg => ?_)
    replace h := hp
    have hT_S5 : S5.2.2.1 = T0 := by rw [hTg]; exact hT
    refine ww_aload_n C dX10_at_18 0 rfl ?_
    refine gf_FontPacker_buffer C bw_209 dX10_at_19 ?_
    refine ww_iload_n C dX10_at_22 1 rfl ?_
    refine ww_cVf (As := [.int k]) (rest := []) C ok_X8_get bw_881 dX10_at_23 (cm_X8_get (by decide)) (rc_Row (by decide)) rfl ⟨Nat.le_of_ble_eq_true rfl, Nat.le_of_ble_eq_true rfl⟩ (Nat.le_of_ble_eq_true rfl) (c2 := 1) (s2 := 6) rfl rfl ⟨Nat.le_of_ble_eq_true rfl, Nat.le_of_ble_eq_true rfl⟩ rfl ?_
    exact ww_xiret C hrt dX10_at_26 hT_S5 h
  · replace h := h.2 q4
    refine ww_aload_n C dX10_at_5 0 rfl ?_
    refine gf_FontPacker_buffer C bw_209 dX10_at_6 ?_
    refine ww_cVf (As := []) (rest := []) C ok_X8_length bw_447 dX10_at_9 (cm_X8_length (by decide)) (rc_Row (by decide)) rfl ⟨Nat.le_of_ble_eq_true rfl, Nat.le_of_ble_eq_true rfl⟩ (Nat.le_of_ble_eq_true rfl) (c2 := 0) (s2 := 0) rfl rfl ⟨Nat.le_of_ble_eq_true rfl, Nat.le_of_ble_eq_true rfl⟩ rfl ?_
    refine ww_widen (c2 := 1) (s2 := 6) (by omega) (by omega) ?_
    exact ww_xiret C hrt dX10_at_12 hT h)
abbrev rm_X10_count : Room := { frames := 7, cells := 1, slots := 6, locals := 103 }
theorem ok_X10_count : MOK yX10_count RX10 cX10_count 2 (some .int) 1 := ⟨bw_886, bw_887, bw_61, bw_888, by decide +kernel⟩
def wp_X10_count (S : St) (q : Int32) (P : Int32 → St → Prop) (E : String → St → Prop) : Prop :=
  ((¬ q = ((-1)) → wp_X10_refuseMissingGlyph S q (fun S5 => P (fv_X4_pointCount S5 (glId S5 (gw_fx S5) q)) S5) E) ∧ (q = ((-1)) → P (fv_X3_glyphCount S (gw_fx S)) S))
set_option maxHeartbeats 4000000 in
set_option maxRecDepth 100000 in
theorem run_X10_count {l : Launch} {g : Gx} {S : St} {q : Int32} {P : Int32 → St → Prop} {E : String → St → Prop} (hl : l.stackTraces = false)  (h : rowsLe S → wp_X10_count S q P E) : CXi g l yX10_count cX10_count 2 (some .int) rm_X10_count [.ref (gad g 157), .int q] S P E := cx_entry (own := RX10) (by decide) rfl (Nat.le_of_ble_eq_true rfl) rfl (fun hle f hf C hrt hex => by
  subst hf
  have htr := hl
  replace h := h hle
  obtain ⟨T0, hT⟩ : ∃ T, S.2.2.1 = T := ⟨_, rfl⟩
  rw [hT]
  unfold wp_X10_count at h
  refine ww_iload_n C dX10_count_0 1 rfl ?_
  refine ww_iconst (v := (-1)) C dX10_count_1 (by decide) ?_
  refine ww_icmp_ne (tgt := 13) C dX10_count_2 (by decide) (fun q4 => ?_) (fun q4 => ?_)
  · replace h := h.1 q4
    refine ww_aload_n C dX10_count_13 0 rfl ?_
    refine ww_iload_n C dX10_count_14 1 rfl ?_
    refine ww_xVv (As := [.int q]) (rest := []) C hex ok_X10_refuseMissingGlyph bw_889 dX10_count_15 (run_X10_refuseMissingGlyph htr  (fun _ => h)) rc_FontPacker rfl ⟨Nat.le_of_ble_eq_true rfl, Nat.le_of_ble_eq_true rfl⟩ (Nat.le_of_ble_eq_true rfl) (c2 := 1) (s2 := 6) rfl rfl ⟨Nat.le_of_ble_eq_true rfl, Nat.le_of_ble_eq_true rfl⟩ (Nat.le_of_ble_eq_true rfl) (Nat.le_of_ble_eq_true rfl) rfl hT (fun _ _ z => z) (fun S5 hp hTg => ?_)
    replace h := hp
    have hT_S5 : S5.2.2.1 = T0 := by rw [hTg]; exact hT
    refine ww_aload_n C dX10_count_18 0 rfl ?_
    refine gf_FontPacker_font C bw_212 dX10_count_19 ?_
    refine ww_iload_n C dX10_count_22 1 rfl ?_
    refine ww_cVr (As := [.int q]) (rest := []) C ok_X3_glyphAt bw_894 dX10_count_23 (cm_X3_glyphAt (fx_lt S5)) (rc_Font (fx_lt S5)) rfl ⟨Nat.le_of_ble_eq_true rfl, Nat.le_of_ble_eq_true rfl⟩ (Nat.le_of_ble_eq_true rfl) (c2 := 1) (s2 := 6) rfl rfl ⟨Nat.le_of_ble_eq_true rfl, Nat.le_of_ble_eq_true rfl⟩ rfl ?_
    refine ww_cVf (As := []) (rest := []) C ok_X4_pointCount bw_397 dX10_count_26 (cm_X4_pointCount (glId_lt (fx_lt S5))) (rc_Glyph (glId_lt (fx_lt S5))) rfl ⟨Nat.le_of_ble_eq_true rfl, Nat.le_of_ble_eq_true rfl⟩ (Nat.le_of_ble_eq_true rfl) (c2 := 1) (s2 := 6) rfl rfl ⟨Nat.le_of_ble_eq_true rfl, Nat.le_of_ble_eq_true rfl⟩ rfl ?_
    exact ww_xiret C hrt dX10_count_29 hT_S5 h
  · replace h := h.2 q4
    refine ww_aload_n C dX10_count_5 0 rfl ?_
    refine gf_FontPacker_font C bw_212 dX10_count_6 ?_
    refine ww_cVf (As := []) (rest := []) C ok_X3_glyphCount bw_321 dX10_count_9 (cm_X3_glyphCount (fx_lt S)) (rc_Font (fx_lt S)) rfl ⟨Nat.le_of_ble_eq_true rfl, Nat.le_of_ble_eq_true rfl⟩ (Nat.le_of_ble_eq_true rfl) (c2 := 0) (s2 := 0) rfl rfl ⟨Nat.le_of_ble_eq_true rfl, Nat.le_of_ble_eq_true rfl⟩ rfl ?_
    refine ww_widen (c2 := 1) (s2 := 6) (by omega) (by omega) ?_
    exact ww_xiret C hrt dX10_count_12 hT h)
abbrev rm_X10_outline : Room := { frames := 7, cells := 2, slots := 12, locals := 103 }
theorem ok_X10_outline : MOK yX10_outline RX10 cX10_outline 5 (some .int) 3 := ⟨bw_899, bw_900, bw_61, bw_901, by decide +kernel⟩
def wp_X10_outline_112 (q : Int32) (p : Int32) (w : Int32) (S : St) (s0 : Int32) (P : Int32 → St → Prop) (E : String → St → Prop) : Prop :=
  P s0 S
set_option maxHeartbeats 4000000 in
set_option maxRecDepth 100000 in
theorem run_X10_outline_112 {f : Fx} {g : Gx} {T0 : List (Nat × Nat × Nat)} {S : St} {q : Int32} {p : Int32} {w : Int32} {P : Int32 → St → Prop} {E : String → St → Prop} (C : Cx f g cX10_outline 5 RX10) (hrt : (fmeth f).sig.returnType = (some .int)) (htr : f.2.1.stackTraces = false) (hex : ∀ x ∈ (fcode f).exceptionTable.toList, False)  {s0 : Int32} (hT : S.2.2.1 = T0)  (h : wp_X10_outline_112 q p w S s0 P E) : WW f rm_X10_outline g 5 1 6 (Qxi f g 2 12 T0 P E) S 112 [] [.int s0] := by
  unfold wp_X10_outline_112 at h
  refine ww_widen (c2 := 2) (s2 := 12) (by omega) (by omega) ?_
  exact ww_xiret C hrt dX10_outline_112 hT h
def wp_X10_outline_47 (q : Int32) (p : Int32) (w : Int32) (S : St)  (P : Int32 → St → Prop) (E : String → St → Prop) : Prop :=
  E nx_ioe S
set_option maxHeartbeats 4000000 in
set_option maxRecDepth 100000 in
theorem run_X10_outline_47 {f : Fx} {g : Gx} {T0 : List (Nat × Nat × Nat)} {S : St} {q : Int32} {p : Int32} {w : Int32} {P : Int32 → St → Prop} {E : String → St → Prop} (C : Cx f g cX10_outline 5 RX10) (hrt : (fmeth f).sig.returnType = (some .int)) (htr : f.2.1.stackTraces = false) (hex : ∀ x ∈ (fcode f).exceptionTable.toList, False)   (hT : S.2.2.1 = T0)  (h : wp_X10_outline_47 q p w S  P E) : WW f rm_X10_outline g 5 1 6 (Qxi f g 2 12 T0 P E) S 47 [] [] := by
  unfold wp_X10_outline_47 at h
  exact ww_throw (text := "there is no such point") C htr hex tx_ioe (Or.inr (Or.inr rfl)) (by decide +kernel) dX10_outline_47 dX10_outline_50 dX10_outline_51 dX10_outline_53 dX10_outline_56 (Nat.le_of_ble_eq_true rfl) (Nat.le_of_ble_eq_true rfl) (Nat.le_of_ble_eq_true rfl) (Nat.le_of_ble_eq_true rfl) (Nat.le_of_ble_eq_true rfl) (Nat.le_of_ble_eq_true rfl) hT h
def wp_X10_outline_14 (q : Int32) (p : Int32) (w : Int32) (S : St)  (P : Int32 → St → Prop) (E : String → St → Prop) : Prop :=
  E nx_iae S
set_option maxHeartbeats 4000000 in
set_option maxRecDepth 100000 in
theorem run_X10_outline_14 {f : Fx} {g : Gx} {T0 : List (Nat × Nat × Nat)} {S : St} {q : Int32} {p : Int32} {w : Int32} {P : Int32 → St → Prop} {E : String → St → Prop} (C : Cx f g cX10_outline 5 RX10) (hrt : (fmeth f).sig.returnType = (some .int)) (htr : f.2.1.stackTraces = false) (hex : ∀ x ∈ (fcode f).exceptionTable.toList, False)   (hT : S.2.2.1 = T0)  (h : wp_X10_outline_14 q p w S  P E) : WW f rm_X10_outline g 5 1 6 (Qxi f g 2 12 T0 P E) S 14 [] [] := by
  unfold wp_X10_outline_14 at h
  exact ww_throw (text := "what is not 0 .. 3") C htr hex tx_iae (Or.inl rfl) (by decide +kernel) dX10_outline_14 dX10_outline_17 dX10_outline_18 dX10_outline_20 dX10_outline_23 (Nat.le_of_ble_eq_true rfl) (Nat.le_of_ble_eq_true rfl) (Nat.le_of_ble_eq_true rfl) (Nat.le_of_ble_eq_true rfl) (Nat.le_of_ble_eq_true rfl) (Nat.le_of_ble_eq_true rfl) hT h
def wp_X10_outline (S : St) (q : Int32) (p : Int32) (w : Int32) (P : Int32 → St → Prop) (E : String → St → Prop) : Prop :=
  wp_X10_refuseMissingGlyph S q (fun S15 => ((w < 0 → wp_X10_outline_14 q p w S15  P E) ∧ (¬ w < 0 → ((w ≤ 3 → ((p < 0 → wp_X10_outline_47 q p w S15  P E) ∧ (¬ p < 0 → ((p < (fv_X4_pointCount S15 (glId S15 (gw_fx S15) q)) → ((w = 0 → P (fv_X4_x S15 (glId S15 (gw_fx S15) q) p) S15) ∧ (w = 1 → P (fv_X4_y S15 (glId S15 (gw_fx S15) q) p) S15) ∧ (w = 2 → wp_X4_isOn S15 (glId S15 (gw_fx S15) q) p (fun r24 S23 => ((r24 = 0 → wp_X10_outline_112 q p w S23 0 P E) ∧ (¬ r24 = 0 → wp_X10_outline_112 q p w S23 1 P E)))) ∧ (¬ w = 0 → ¬ w = 1 → ¬ w = 2 → wp_X4_contourOf S15 (glId S15 (gw_fx S15) q) p (fun r28 S27 => P r28 S27)))) ∧ (¬ p < (fv_X4_pointCount S15 (glId S15 (gw_fx S15) q)) → wp_X10_outline_47 q p w S15  P E))))) ∧ (¬ w ≤ 3 → wp_X10_outline_14 q p w S15  P E))))) E
set_option maxHeartbeats 4000000 in
set_option maxRecDepth 100000 in
theorem run_X10_outline {l : Launch} {g : Gx} {S : St} {q : Int32} {p : Int32} {w : Int32} {P : Int32 → St → Prop} {E : String → St → Prop} (hl : l.stackTraces = false)  (h : rowsLe S → wp_X10_outline S q p w P E) : CXi g l yX10_outline cX10_outline 5 (some .int) rm_X10_outline [.ref (gad g 157), .int q, .int p, .int w] S P E := cx_entry (own := RX10) (by decide) rfl (Nat.le_of_ble_eq_true rfl) rfl (fun hle f hf C hrt hex => by
  subst hf
  have htr := hl
  replace h := h hle
  obtain ⟨T0, hT⟩ : ∃ T, S.2.2.1 = T := ⟨_, rfl⟩
  rw [hT]
  unfold wp_X10_outline at h
  refine ww_aload_n C dX10_outline_0 0 rfl ?_
  refine ww_iload_n C dX10_outline_1 1 rfl ?_
  refine ww_xVv (As := [.int q]) (rest := []) C hex ok_X10_refuseMissingGlyph bw_889 dX10_outline_2 (run_X10_refuseMissingGlyph htr  (fun _ => h)) rc_FontPacker rfl ⟨Nat.le_of_ble_eq_true rfl, Nat.le_of_ble_eq_true rfl⟩ (Nat.le_of_ble_eq_true rfl) (c2 := 1) (s2 := 6) rfl rfl ⟨Nat.le_of_ble_eq_true rfl, Nat.le_of_ble_eq_true rfl⟩ (Nat.le_of_ble_eq_true rfl) (Nat.le_of_ble_eq_true rfl) rfl hT (fun _ _ z => z) (fun S15 hp hTg => ?_)
  replace h := hp
  have hT_S15 : S15.2.2.1 = T0 := by rw [hTg]; exact hT
  refine ww_iload_n C dX10_outline_5 3 rfl ?_
  refine ww_if_lt (tgt := 14) C dX10_outline_6 (by decide) (fun q17 => ?_) (fun q17 => ?_)
  · replace h := h.1 q17
    exact ww_sub [] rfl (run_X10_outline_14 C hrt htr hex  hT_S15  h)
  · replace h := h.2 q17
    refine ww_iload_n C dX10_outline_9 3 rfl ?_
    refine ww_iconst (v := 3) C dX10_outline_10 (by decide) ?_
    refine ww_icmp_le (tgt := 24) C dX10_outline_11 (by decide) (fun q18 => ?_) (fun q18 => ?_)
    · replace h := h.1 q18
      refine ww_aload_n C dX10_outline_24 0 rfl ?_
      refine gf_FontPacker_font C bw_212 dX10_outline_25 ?_
      refine ww_iload_n C dX10_outline_28 1 rfl ?_
      refine ww_cVr (As := [.int q]) (rest := []) C ok_X3_glyphAt bw_894 dX10_outline_29 (cm_X3_glyphAt (fx_lt S15)) (rc_Font (fx_lt S15)) rfl ⟨Nat.le_of_ble_eq_true rfl, Nat.le_of_ble_eq_true rfl⟩ (Nat.le_of_ble_eq_true rfl) (c2 := 1) (s2 := 6) rfl rfl ⟨Nat.le_of_ble_eq_true rfl, Nat.le_of_ble_eq_true rfl⟩ rfl ?_
      refine ww_astore (lv2 := [(4, .ref (gad g (136 + (glId S15 (gw_fx S15) q)))), (0, .ref (gad g 157)), (1, .int q), (2, .int p), (3, .int w)]) C dX10_outline_32 (Nat.le_of_ble_eq_true rfl) rfl ?_
      refine ww_iload_n C dX10_outline_34 3 rfl ?_
      refine ww_if_lt (tgt := 47) C dX10_outline_35 (by decide) (fun q19 => ?_) (fun q19 => ?_)
      · replace h := h.1 q19
        exact ww_sub [] rfl (run_X10_outline_47 C hrt htr hex  hT_S15  h)
      · replace h := h.2 q19
        refine ww_iload_n C dX10_outline_38 3 rfl ?_
        refine ww_aload C dX10_outline_39 0 rfl ?_
        refine ww_cVf (As := []) (rest := [.int p]) C ok_X4_pointCount bw_397 dX10_outline_41 (cm_X4_pointCount (glId_lt (fx_lt S15))) (rc_Glyph (glId_lt (fx_lt S15))) rfl ⟨Nat.le_of_ble_eq_true rfl, Nat.le_of_ble_eq_true rfl⟩ (Nat.le_of_ble_eq_true rfl) (c2 := 1) (s2 := 6) rfl rfl ⟨Nat.le_of_ble_eq_true rfl, Nat.le_of_ble_eq_true rfl⟩ rfl ?_
        refine ww_icmp_lt (tgt := 57) C dX10_outline_44 (by decide) (fun q20 => ?_) (fun q20 => ?_)
        · replace h := h.1 q20
          refine ww_iload_n C dX10_outline_57 4 rfl ?_
          by_cases q21 : w = 0
          · replace h := h.1 q21
            refine ww_table_in (off := 26) (tgt := 84) C dX10_outline_58 (by rw [q21]; decide) (by rw [q21]; decide) (by rw [q21]; decide) (by decide) ?_
            refine ww_aload C dX10_outline_84 0 rfl ?_
            refine ww_iload_n C dX10_outline_86 3 rfl ?_
            refine ww_cVf (As := [.int p]) (rest := []) C ok_X4_x bw_904 dX10_outline_87 (cm_X4_x (glId_lt (fx_lt S15))) (rc_Glyph (glId_lt (fx_lt S15))) rfl ⟨Nat.le_of_ble_eq_true rfl, Nat.le_of_ble_eq_true rfl⟩ (Nat.le_of_ble_eq_true rfl) (c2 := 1) (s2 := 6) rfl rfl ⟨Nat.le_of_ble_eq_true rfl, Nat.le_of_ble_eq_true rfl⟩ rfl ?_
            refine ww_widen (c2 := 2) (s2 := 12) (by omega) (by omega) ?_
            exact ww_xiret C hrt dX10_outline_90 hT_S15 h
          by_cases q22 : w = 1
          · replace h := h.2.1 q22
            refine ww_table_in (off := 33) (tgt := 91) C dX10_outline_58 (by rw [q22]; decide) (by rw [q22]; decide) (by rw [q22]; decide) (by decide) ?_
            refine ww_aload C dX10_outline_91 0 rfl ?_
            refine ww_iload_n C dX10_outline_93 3 rfl ?_
            refine ww_cVf (As := [.int p]) (rest := []) C ok_X4_y bw_908 dX10_outline_94 (cm_X4_y (glId_lt (fx_lt S15))) (rc_Glyph (glId_lt (fx_lt S15))) rfl ⟨Nat.le_of_ble_eq_true rfl, Nat.le_of_ble_eq_true rfl⟩ (Nat.le_of_ble_eq_true rfl) (c2 := 1) (s2 := 6) rfl rfl ⟨Nat.le_of_ble_eq_true rfl, Nat.le_of_ble_eq_true rfl⟩ rfl ?_
            refine ww_widen (c2 := 2) (s2 := 12) (by omega) (by omega) ?_
            exact ww_xiret C hrt dX10_outline_97 hT_S15 h
          by_cases q26 : w = 2
          · replace h := h.2.2.1 q26
            refine ww_table_in (off := 40) (tgt := 98) C dX10_outline_58 (by rw [q26]; decide) (by rw [q26]; decide) (by rw [q26]; decide) (by decide) ?_
            refine ww_aload C dX10_outline_98 0 rfl ?_
            refine ww_iload_n C dX10_outline_100 3 rfl ?_
            refine ww_cVi (As := [.int p]) (rest := []) C ok_X4_isOn bw_912 dX10_outline_101 (run_X4_isOn (glId_lt (fx_lt S15)) (fun _ => h)) (rc_Glyph (glId_lt (fx_lt S15))) rfl ⟨Nat.le_of_ble_eq_true rfl, Nat.le_of_ble_eq_true rfl⟩ (Nat.le_of_ble_eq_true rfl) (c2 := 1) (s2 := 6) rfl rfl ⟨Nat.le_of_ble_eq_true rfl, Nat.le_of_ble_eq_true rfl⟩ rfl (fun r24 S23 hp hTg => ?_)
            replace h := hp
            have hT_S23 : S23.2.2.1 = T0 := by rw [hTg]; exact hT_S15
            refine ww_if_eq (tgt := 111) C dX10_outline_104 (by decide) (fun q25 => ?_) (fun q25 => ?_)
            · replace h := h.1 q25
              refine ww_iconst (v := 0) C dX10_outline_111 (by decide) ?_
              exact ww_sub [] rfl (run_X10_outline_112 C hrt htr hex  hT_S23  h)
            · replace h := h.2 q25
              refine ww_iconst (v := 1) C dX10_outline_107 (by decide) ?_
              refine ww_goto (tgt := 112) C dX10_outline_108 (by decide) ?_
              exact ww_sub [] rfl (run_X10_outline_112 C hrt htr hex  hT_S23  h)
          replace h := h.2.2.2 q21 q22 q26
          refine ww_table_out (tgt := 113) C dX10_outline_58 (by have a0 := sw_ne q21; rw [show ((0 : Int32)).toInt = 0 from by decide] at a0; have a1 := sw_ne q22; rw [show ((1 : Int32)).toInt = 1 from by decide] at a1; have a2 := sw_ne q26; rw [show ((2 : Int32)).toInt = 2 from by decide] at a2; omega) (by decide) ?_
          refine ww_aload C dX10_outline_113 0 rfl ?_
          refine ww_iload_n C dX10_outline_115 3 rfl ?_
          refine ww_cVi (As := [.int p]) (rest := []) C ok_X4_contourOf bw_913 dX10_outline_116 (run_X4_contourOf (glId_lt (fx_lt S15)) (fun _ => h)) (rc_Glyph (glId_lt (fx_lt S15))) rfl ⟨Nat.le_of_ble_eq_true rfl, Nat.le_of_ble_eq_true rfl⟩ (Nat.le_of_ble_eq_true rfl) (c2 := 1) (s2 := 6) rfl rfl ⟨Nat.le_of_ble_eq_true rfl, Nat.le_of_ble_eq_true rfl⟩ rfl (fun r28 S27 hp hTg => ?_)
          replace h := hp
          have hT_S27 : S27.2.2.1 = T0 := by rw [hTg]; exact hT_S15
          refine ww_widen (c2 := 2) (s2 := 12) (by omega) (by omega) ?_
          exact ww_xiret C hrt dX10_outline_119 hT_S27 h
        · replace h := h.2 q20
          exact ww_sub [] rfl (run_X10_outline_47 C hrt htr hex  hT_S15  h)
    · replace h := h.2 q18
      exact ww_sub [] rfl (run_X10_outline_14 C hrt htr hex  hT_S15  h))
