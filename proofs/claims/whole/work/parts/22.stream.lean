abbrev rm_X9_addCounts : Room := { frames := 3, cells := 0, slots := 0, locals := 66 }
theorem ok_X9_addCounts : SOK yX9_addCounts cX9_addCounts 5 none 2 := ⟨bw_536, bw_65, bw_537, by decide +kernel⟩
def st_X9_addCounts_10 (j : Nat) (r : Nat) (P : St → Prop) (X10 : St → Int32 → Prop) (X38 : St → Int32 → Prop) (X55 : St → Int32 → Nat → Int32 → Prop) (S : St) (v2 : Int32) : Prop :=
  (((fv_X3_glyphCount S j) ≤ v2 → X38 S 0) ∧ (¬ (fv_X3_glyphCount S j) ≤ v2 → ∀ S11 : St, S11 = rAdd S r (fv_X4_contourCount S (glId S j v2)) → ∀ x12 : Int32, x12 = v2 + 1 → X10 S11 x12))
def st_X9_addCounts_38 (j : Nat) (r : Nat) (P : St → Prop) (X10 : St → Int32 → Prop) (X38 : St → Int32 → Prop) (X55 : St → Int32 → Nat → Int32 → Prop) (S : St) (v2 : Int32) : Prop :=
  (((fv_X3_glyphCount S j) ≤ v2 → P S) ∧ (¬ (fv_X3_glyphCount S j) ≤ v2 → X55 S v2 (glId S j v2) 0))
def st_X9_addCounts_55 (j : Nat) (r : Nat) (P : St → Prop) (X10 : St → Int32 → Prop) (X38 : St → Int32 → Prop) (X55 : St → Int32 → Nat → Int32 → Prop) (S : St) (v2 : Int32) (v3 : Nat) (v4 : Int32) : Prop :=
  (((fv_X4_contourCount S v3) ≤ v4 → ∀ x15 : Int32, x15 = v2 + 1 → X38 S x15) ∧ (¬ (fv_X4_contourCount S v3) ≤ v4 → ∀ S16 : St, S16 = rShort S r (fv_X4_contourSize S v3 v4) → ∀ x17 : Int32, x17 = v4 + 1 → X55 S16 v2 v3 x17))
def at_X9_addCounts_10 (f : Fx) (g : Gx) (T0 : List (Nat × Nat × Nat)) (j : Nat) (r : Nat) (P : St → Prop) (S : St) (v2 : Int32) : Prop := S.2.2.1 = T0 → WW f rm_X9_addCounts g 5 0 0 (Qv f g 0 0 T0 P) S 10 [(0, .ref (gad g (148 + j))), (1, .ref (gad g r)), (2, .int v2)] []
def at_X9_addCounts_38 (f : Fx) (g : Gx) (T0 : List (Nat × Nat × Nat)) (j : Nat) (r : Nat) (P : St → Prop) (S : St) (v2 : Int32) : Prop := S.2.2.1 = T0 → WW f rm_X9_addCounts g 5 0 0 (Qv f g 0 0 T0 P) S 38 [(0, .ref (gad g (148 + j))), (1, .ref (gad g r)), (2, .int v2)] []
def at_X9_addCounts_55 (f : Fx) (g : Gx) (T0 : List (Nat × Nat × Nat)) (j : Nat) (r : Nat) (P : St → Prop) (S : St) (v2 : Int32) (v3 : Nat) (v4 : Int32) : Prop := S.2.2.1 = T0 → v3 < 12 → WW f rm_X9_addCounts g 5 0 0 (Qv f g 0 0 T0 P) S 55 [(0, .ref (gad g (148 + j))), (1, .ref (gad g r)), (2, .int v2), (3, .ref (gad g (136 + v3))), (4, .int v4)] []
set_option maxHeartbeats 4000000 in
set_option maxRecDepth 100000 in
theorem run_X9_addCounts_10 {f : Fx} {g : Gx} {T0 : List (Nat × Nat × Nat)} {S : St} {j : Nat} {r : Nat} {P : St → Prop} (C : Cx f g cX9_addCounts 5 RX9) (hrt : (fmeth f).sig.returnType = none) (hj : j < 2) (hr : r < 68) {v2 : Int32} (h : st_X9_addCounts_10 j r P (at_X9_addCounts_10 f g T0 j r P) (at_X9_addCounts_38 f g T0 j r P) (at_X9_addCounts_55 f g T0 j r P) S v2) : at_X9_addCounts_10 f g T0 j r P S v2 := by
  intro hT 
  unfold st_X9_addCounts_10 at h
  refine ww_iload_n C dX9_addCounts_10 2 rfl ?_
  refine ww_aload_n C dX9_addCounts_11 0 rfl ?_
  refine ww_cVf (As := []) (rest := [.int v2]) C ok_X3_glyphCount bw_538 dX9_addCounts_12 (cm_X3_glyphCount hj) (rc_Font hj) rfl ⟨Nat.le_of_ble_eq_true rfl, Nat.le_of_ble_eq_true rfl⟩ (Nat.le_of_ble_eq_true rfl) (c2 := 0) (s2 := 0) rfl rfl ⟨Nat.le_of_ble_eq_true rfl, Nat.le_of_ble_eq_true rfl⟩ rfl ?_
  refine ww_icmp_ge (tgt := 36) C dX9_addCounts_15 (by decide) (fun q10 => ?_) (fun q10 => ?_)
  · replace h := h.1 q10
    refine ww_iconst (v := 0) C dX9_addCounts_36 (by decide) ?_
    refine ww_istore_n (lv2 := [(2, .int 0), (0, .ref (gad g (148 + j))), (1, .ref (gad g r))]) C dX9_addCounts_37 rfl (Nat.le_of_ble_eq_true rfl) rfl ?_
    exact ww_sub [1, 2, 0] rfl (h hT)
  · replace h := h.2 q10
    refine ww_aload_n C dX9_addCounts_18 1 rfl ?_
    refine ww_aload_n C dX9_addCounts_19 0 rfl ?_
    refine ww_iload_n C dX9_addCounts_20 2 rfl ?_
    refine ww_cVr (As := [.int v2]) (rest := [.ref (gad g r)]) C ok_X3_glyphAt bw_540 dX9_addCounts_21 (cm_X3_glyphAt hj) (rc_Font hj) rfl ⟨Nat.le_of_ble_eq_true rfl, Nat.le_of_ble_eq_true rfl⟩ (Nat.le_of_ble_eq_true rfl) (c2 := 0) (s2 := 0) rfl rfl ⟨Nat.le_of_ble_eq_true rfl, Nat.le_of_ble_eq_true rfl⟩ rfl ?_
    refine ww_cVf (As := []) (rest := [.ref (gad g r)]) C ok_X4_contourCount bw_541 dX9_addCounts_24 (cm_X4_contourCount (glId_lt hj)) (rc_Glyph (glId_lt hj)) rfl ⟨Nat.le_of_ble_eq_true rfl, Nat.le_of_ble_eq_true rfl⟩ (Nat.le_of_ble_eq_true rfl) (c2 := 0) (s2 := 0) rfl rfl ⟨Nat.le_of_ble_eq_true rfl, Nat.le_of_ble_eq_true rfl⟩ rfl ?_
    refine ww_cVg (As := [.int (fv_X4_contourCount S (glId S j v2))]) (rest := []) C ok_X8_add bw_539 dX9_addCounts_27 (cm_X8_add hr) (rc_Row hr) rfl ⟨Nat.le_of_ble_eq_true rfl, Nat.le_of_ble_eq_true rfl⟩ (Nat.le_of_ble_eq_true rfl) (c2 := 0) (s2 := 0) rfl rfl ⟨Nat.le_of_ble_eq_true rfl, Nat.le_of_ble_eq_true rfl⟩ rfl (fun hTg => ?_)
    refine ww_nm (fun S11 e_S11 => ?_)
    replace h := h S11 e_S11
    have hT_S11 : S11.2.2.1 = T0 := by rw [e_S11, hTg]; exact hT
    obtain ⟨x12, e_x12⟩ : ∃ z : Int32, z = v2 + 1 := ⟨_, rfl⟩
    replace h := h x12 e_x12
    refine ww_iinc (v := x12) (lv2 := [(2, .int x12), (0, .ref (gad g (148 + j))), (1, .ref (gad g r))]) C dX9_addCounts_30 2 rfl (by rw [e_x12]; rfl) (Nat.le_of_ble_eq_true rfl) rfl ?_
    refine ww_goto (tgt := 10) C dX9_addCounts_33 (by decide) ?_
    exact ww_sub [1, 2, 0] rfl (h hT_S11)
set_option maxHeartbeats 4000000 in
set_option maxRecDepth 100000 in
theorem run_X9_addCounts_38 {f : Fx} {g : Gx} {T0 : List (Nat × Nat × Nat)} {S : St} {j : Nat} {r : Nat} {P : St → Prop} (C : Cx f g cX9_addCounts 5 RX9) (hrt : (fmeth f).sig.returnType = none) (hj : j < 2) (hr : r < 68) {v2 : Int32} (h : st_X9_addCounts_38 j r P (at_X9_addCounts_10 f g T0 j r P) (at_X9_addCounts_38 f g T0 j r P) (at_X9_addCounts_55 f g T0 j r P) S v2) : at_X9_addCounts_38 f g T0 j r P S v2 := by
  intro hT 
  unfold st_X9_addCounts_38 at h
  refine ww_iload_n C dX9_addCounts_38 2 rfl ?_
  refine ww_aload_n C dX9_addCounts_39 0 rfl ?_
  refine ww_cVf (As := []) (rest := [.int v2]) C ok_X3_glyphCount bw_538 dX9_addCounts_40 (cm_X3_glyphCount hj) (rc_Font hj) rfl ⟨Nat.le_of_ble_eq_true rfl, Nat.le_of_ble_eq_true rfl⟩ (Nat.le_of_ble_eq_true rfl) (c2 := 0) (s2 := 0) rfl rfl ⟨Nat.le_of_ble_eq_true rfl, Nat.le_of_ble_eq_true rfl⟩ rfl ?_
  refine ww_icmp_ge (tgt := 86) C dX9_addCounts_43 (by decide) (fun q13 => ?_) (fun q13 => ?_)
  · replace h := h.1 q13
    exact ww_vret C hrt dX9_addCounts_86 hT h
  · replace h := h.2 q13
    refine ww_aload_n C dX9_addCounts_46 0 rfl ?_
    refine ww_iload_n C dX9_addCounts_47 2 rfl ?_
    refine ww_cVr (As := [.int v2]) (rest := []) C ok_X3_glyphAt bw_540 dX9_addCounts_48 (cm_X3_glyphAt hj) (rc_Font hj) rfl ⟨Nat.le_of_ble_eq_true rfl, Nat.le_of_ble_eq_true rfl⟩ (Nat.le_of_ble_eq_true rfl) (c2 := 0) (s2 := 0) rfl rfl ⟨Nat.le_of_ble_eq_true rfl, Nat.le_of_ble_eq_true rfl⟩ rfl ?_
    refine ww_astore_n (lv2 := [(3, .ref (gad g (136 + (glId S j v2)))), (0, .ref (gad g (148 + j))), (1, .ref (gad g r)), (2, .int v2)]) C dX9_addCounts_51 rfl (Nat.le_of_ble_eq_true rfl) rfl ?_
    refine ww_iconst (v := 0) C dX9_addCounts_52 (by decide) ?_
    refine ww_istore (lv2 := [(4, .int 0), (3, .ref (gad g (136 + (glId S j v2)))), (0, .ref (gad g (148 + j))), (1, .ref (gad g r)), (2, .int v2)]) C dX9_addCounts_53 (Nat.le_of_ble_eq_true rfl) rfl ?_
    exact ww_sub [2, 3, 4, 1, 0] rfl (h hT (glId_lt hj))
set_option maxHeartbeats 4000000 in
set_option maxRecDepth 100000 in
theorem run_X9_addCounts_55 {f : Fx} {g : Gx} {T0 : List (Nat × Nat × Nat)} {S : St} {j : Nat} {r : Nat} {P : St → Prop} (C : Cx f g cX9_addCounts 5 RX9) (hrt : (fmeth f).sig.returnType = none) (hj : j < 2) (hr : r < 68) {v2 : Int32} {v3 : Nat} {v4 : Int32} (h : st_X9_addCounts_55 j r P (at_X9_addCounts_10 f g T0 j r P) (at_X9_addCounts_38 f g T0 j r P) (at_X9_addCounts_55 f g T0 j r P) S v2 v3 v4) : at_X9_addCounts_55 f g T0 j r P S v2 v3 v4 := by
  intro hT hv3
  unfold st_X9_addCounts_55 at h
  refine ww_iload C dX9_addCounts_55 4 rfl ?_
  refine ww_aload_n C dX9_addCounts_57 3 rfl ?_
  refine ww_cVf (As := []) (rest := [.int v4]) C ok_X4_contourCount bw_541 dX9_addCounts_58 (cm_X4_contourCount hv3) (rc_Glyph hv3) rfl ⟨Nat.le_of_ble_eq_true rfl, Nat.le_of_ble_eq_true rfl⟩ (Nat.le_of_ble_eq_true rfl) (c2 := 0) (s2 := 0) rfl rfl ⟨Nat.le_of_ble_eq_true rfl, Nat.le_of_ble_eq_true rfl⟩ rfl ?_
  refine ww_icmp_ge (tgt := 80) C dX9_addCounts_61 (by decide) (fun q14 => ?_) (fun q14 => ?_)
  · replace h := h.1 q14
    obtain ⟨x15, e_x15⟩ : ∃ z : Int32, z = v2 + 1 := ⟨_, rfl⟩
    replace h := h x15 e_x15
    refine ww_iinc (v := x15) (lv2 := [(2, .int x15), (0, .ref (gad g (148 + j))), (1, .ref (gad g r)), (3, .ref (gad g (136 + v3))), (4, .int v4)]) C dX9_addCounts_80 2 rfl (by rw [e_x15]; rfl) (Nat.le_of_ble_eq_true rfl) rfl ?_
    refine ww_goto (tgt := 38) C dX9_addCounts_83 (by decide) ?_
    exact ww_sub [1, 2, 0] rfl (h hT)
  · replace h := h.2 q14
    refine ww_aload_n C dX9_addCounts_64 1 rfl ?_
    refine ww_aload_n C dX9_addCounts_65 3 rfl ?_
    refine ww_iload C dX9_addCounts_66 4 rfl ?_
    refine ww_cVf (As := [.int v4]) (rest := [.ref (gad g r)]) C ok_X4_contourSize bw_542 dX9_addCounts_68 (cm_X4_contourSize hv3) (rc_Glyph hv3) rfl ⟨Nat.le_of_ble_eq_true rfl, Nat.le_of_ble_eq_true rfl⟩ (Nat.le_of_ble_eq_true rfl) (c2 := 0) (s2 := 0) rfl rfl ⟨Nat.le_of_ble_eq_true rfl, Nat.le_of_ble_eq_true rfl⟩ rfl ?_
    refine ww_cVg (As := [.int (fv_X4_contourSize S v3 v4)]) (rest := []) C ok_X8_addShort bw_543 dX9_addCounts_71 (cm_X8_addShort hr) (rc_Row hr) rfl ⟨Nat.le_of_ble_eq_true rfl, Nat.le_of_ble_eq_true rfl⟩ (Nat.le_of_ble_eq_true rfl) (c2 := 0) (s2 := 0) rfl rfl ⟨Nat.le_of_ble_eq_true rfl, Nat.le_of_ble_eq_true rfl⟩ rfl (fun hTg => ?_)
    refine ww_nm (fun S16 e_S16 => ?_)
    replace h := h S16 e_S16
    have hT_S16 : S16.2.2.1 = T0 := by rw [e_S16, hTg]; exact hT
    obtain ⟨x17, e_x17⟩ : ∃ z : Int32, z = v4 + 1 := ⟨_, rfl⟩
    replace h := h x17 e_x17
    refine ww_iinc (v := x17) (lv2 := [(4, .int x17), (0, .ref (gad g (148 + j))), (1, .ref (gad g r)), (2, .int v2), (3, .ref (gad g (136 + v3)))]) C dX9_addCounts_74 4 rfl (by rw [e_x17]; rfl) (Nat.le_of_ble_eq_true rfl) rfl ?_
    refine ww_goto (tgt := 55) C dX9_addCounts_77 (by decide) ?_
    exact ww_sub [1, 2, 3, 4, 0] rfl (h hT_S16 hv3)
def wp_X9_addCounts (S : St) (j : Nat) (r : Nat) (P : St → Prop) : Prop :=
  ∀ (X10 : St → Int32 → Prop) (X38 : St → Int32 → Prop) (X55 : St → Int32 → Nat → Int32 → Prop), (∀ S v2, st_X9_addCounts_10 j r P X10 X38 X55 S v2 → X10 S v2) → (∀ S v2, st_X9_addCounts_38 j r P X10 X38 X55 S v2 → X38 S v2) → (∀ S v2 v3 v4, st_X9_addCounts_55 j r P X10 X38 X55 S v2 v3 v4 → X55 S v2 v3 v4) → ∀ S18 : St, S18 = rAdd S r (fv_X3_glyphCount S j) → X10 S18 0
set_option maxHeartbeats 4000000 in
set_option maxRecDepth 100000 in
theorem run_X9_addCounts {l : Launch} {g : Gx} {S : St} {j : Nat} {r : Nat} {P : St → Prop} (hj : j < 2) (hr : r < 68) (h : rowsLe S → wp_X9_addCounts S j r P) : CMv g l yX9_addCounts cX9_addCounts 5 none rm_X9_addCounts [.ref (gad g (148 + j)), .ref (gad g r)] S P := cm_entry (own := RX9) (plainFor_of_name (by decide)) rfl (Nat.le_of_ble_eq_true rfl) rfl (fun hle f hf C hrt => by
  subst hf
  replace h := h hle
  obtain ⟨T0, hT⟩ : ∃ T, S.2.2.1 = T := ⟨_, rfl⟩
  rw [hT]
  replace h := h (at_X9_addCounts_10 f g T0 j r P) (at_X9_addCounts_38 f g T0 j r P) (at_X9_addCounts_55 f g T0 j r P) (fun S v2 h => run_X9_addCounts_10 C hrt hj hr h) (fun S v2 h => run_X9_addCounts_38 C hrt hj hr h) (fun S v2 v3 v4 h => run_X9_addCounts_55 C hrt hj hr h)
  refine ww_aload_n C dX9_addCounts_0 1 rfl ?_
  refine ww_aload_n C dX9_addCounts_1 0 rfl ?_
  refine ww_cVf (As := []) (rest := [.ref (gad g r)]) C ok_X3_glyphCount bw_538 dX9_addCounts_2 (cm_X3_glyphCount hj) (rc_Font hj) rfl ⟨Nat.le_of_ble_eq_true rfl, Nat.le_of_ble_eq_true rfl⟩ (Nat.le_of_ble_eq_true rfl) (c2 := 0) (s2 := 0) rfl rfl ⟨Nat.le_of_ble_eq_true rfl, Nat.le_of_ble_eq_true rfl⟩ rfl ?_
  refine ww_cVg (As := [.int (fv_X3_glyphCount S j)]) (rest := []) C ok_X8_add bw_539 dX9_addCounts_5 (cm_X8_add hr) (rc_Row hr) rfl ⟨Nat.le_of_ble_eq_true rfl, Nat.le_of_ble_eq_true rfl⟩ (Nat.le_of_ble_eq_true rfl) (c2 := 0) (s2 := 0) rfl rfl ⟨Nat.le_of_ble_eq_true rfl, Nat.le_of_ble_eq_true rfl⟩ rfl (fun hTg => ?_)
  refine ww_nm (fun S18 e_S18 => ?_)
  replace h := h S18 e_S18
  have hT_S18 : S18.2.2.1 = T0 := by rw [e_S18, hTg]; exact hT
  refine ww_iconst (v := 0) C dX9_addCounts_8 (by decide) ?_
  refine ww_istore_n (lv2 := [(2, .int 0), (0, .ref (gad g (148 + j))), (1, .ref (gad g r))]) C dX9_addCounts_9 rfl (Nat.le_of_ble_eq_true rfl) rfl ?_
  exact ww_sub [1, 2, 0] rfl (h hT_S18))
abbrev rm_X9_addStep : Room := { frames := 2, cells := 0, slots := 0, locals := 45 }
theorem ok_X9_addStep : MOK yX9_addStep RX9 cX9_addStep 9 none 4 := ⟨bw_554, bw_2, bw_65, bw_555, by decide +kernel⟩
def wp_X9_addStep_442 (x : Int32) (y : Int32) (o : Int32) (r : Nat) (S : St)  (P : St → Prop) : Prop :=
  P S
set_option maxHeartbeats 4000000 in
set_option maxRecDepth 100000 in
theorem run_X9_addStep_442 {f : Fx} {g : Gx} {T0 : List (Nat × Nat × Nat)} {S : St} {x : Int32} {y : Int32} {o : Int32} {r : Nat} {P : St → Prop} (C : Cx f g cX9_addStep 9 RX9) (hrt : (fmeth f).sig.returnType = none) (hr : r < 68)  (hT : S.2.2.1 = T0)  (h : wp_X9_addStep_442 x y o r S  P) : WW f rm_X9_addStep g 9 0 0 (Qv f g 0 0 T0 P) S 442 [] [] := by
  unfold wp_X9_addStep_442 at h
  exact ww_vret C hrt dX9_addStep_442 hT h
def wp_X9_addStep_403 (x : Int32) (y : Int32) (o : Int32) (r : Nat) (S : St) (v5 : Int32) (v6 : Int32) (v7 : Int32) (v8 : Int32) (P : St → Prop) : Prop :=
  ∀ S35 : St, S35 = rAdd S r (((o + 124) + v7) + (2 * v8)) → (nnB S35 63 v5.toInt64 2 ∧ ∀ S36 : St, S36 = rNum S35 63 v5.toInt64 2 → (nnB S36 63 v6.toInt64 2 ∧ ∀ S37 : St, S37 = rNum S36 63 v6.toInt64 2 → wp_X9_addStep_442 x y o r S37  P))
set_option maxHeartbeats 4000000 in
set_option maxRecDepth 100000 in
theorem run_X9_addStep_403 {f : Fx} {g : Gx} {T0 : List (Nat × Nat × Nat)} {S : St} {x : Int32} {y : Int32} {o : Int32} {r : Nat} {P : St → Prop} (C : Cx f g cX9_addStep 9 RX9) (hrt : (fmeth f).sig.returnType = none) (hr : r < 68) {v5 : Int32} {v6 : Int32} {v7 : Int32} {v8 : Int32} (hT : S.2.2.1 = T0)  (h : wp_X9_addStep_403 x y o r S v5 v6 v7 v8 P) : WW f rm_X9_addStep g 9 0 0 (Qv f g 0 0 T0 P) S 403 [(0, .ref (gad g 154)), (3, .int o), (4, .ref (gad g r)), (5, .int v5), (6, .int v6), (7, .int v7), (8, .int v8)] [] := by
  unfold wp_X9_addStep_403 at h
  refine ww_aload C dX9_addStep_403 2 rfl ?_
  refine ww_iload_n C dX9_addStep_405 1 rfl ?_
  refine ww_bipush (v := 124) C dX9_addStep_406 (by decide) ?_
  refine ww_iadd C dX9_addStep_408 ?_
  refine ww_iload C dX9_addStep_409 5 rfl ?_
  refine ww_iadd C dX9_addStep_411 ?_
  refine ww_iconst (v := 2) C dX9_addStep_412 (by decide) ?_
  refine ww_iload C dX9_addStep_413 6 rfl ?_
  refine ww_imul C dX9_addStep_415 ?_
  refine ww_iadd C dX9_addStep_416 ?_
  refine ww_cVg (As := [.int (((o + 124) + v7) + (2 * v8))]) (rest := []) C ok_X8_add bw_539 dX9_addStep_417 (cm_X8_add hr) (rc_Row hr) rfl ⟨Nat.le_of_ble_eq_true rfl, Nat.le_of_ble_eq_true rfl⟩ (Nat.le_of_ble_eq_true rfl) (c2 := 0) (s2 := 0) rfl rfl ⟨Nat.le_of_ble_eq_true rfl, Nat.le_of_ble_eq_true rfl⟩ rfl (fun hTg => ?_)
  refine ww_nm (fun S35 e_S35 => ?_)
  replace h := h S35 e_S35
  have hT_S35 : S35.2.2.1 = T0 := by rw [e_S35, hTg]; exact hT
  refine ww_aload_n C dX9_addStep_420 0 rfl ?_
  refine gf_StreamForm_details C bw_119 dX9_addStep_421 ?_
  refine ww_iload C dX9_addStep_424 3 rfl ?_
  refine ww_i2l C dX9_addStep_426 ?_
  refine ww_iconst (v := 2) C dX9_addStep_427 (by decide) ?_
  refine ww_cVg (As := [.long v5.toInt64, .int 2]) (rest := []) C ok_X8_addNumber bw_557 dX9_addStep_428 (cm_X8_addNumber (by decide) h.1) (rc_Row (by decide)) rfl ⟨Nat.le_of_ble_eq_true rfl, Nat.le_of_ble_eq_true rfl⟩ (Nat.le_of_ble_eq_true rfl) (c2 := 0) (s2 := 0) rfl rfl ⟨Nat.le_of_ble_eq_true rfl, Nat.le_of_ble_eq_true rfl⟩ rfl (fun hTg => ?_)
  replace h := h.2
  refine ww_nm (fun S36 e_S36 => ?_)
  replace h := h S36 e_S36
  have hT_S36 : S36.2.2.1 = T0 := by rw [e_S36, hTg]; exact hT_S35
  refine ww_aload_n C dX9_addStep_431 0 rfl ?_
  refine gf_StreamForm_details C bw_119 dX9_addStep_432 ?_
  refine ww_iload C dX9_addStep_435 4 rfl ?_
  refine ww_i2l C dX9_addStep_437 ?_
  refine ww_iconst (v := 2) C dX9_addStep_438 (by decide) ?_
  refine ww_cVg (As := [.long v6.toInt64, .int 2]) (rest := []) C ok_X8_addNumber bw_557 dX9_addStep_439 (cm_X8_addNumber (by decide) h.1) (rc_Row (by decide)) rfl ⟨Nat.le_of_ble_eq_true rfl, Nat.le_of_ble_eq_true rfl⟩ (Nat.le_of_ble_eq_true rfl) (c2 := 0) (s2 := 0) rfl rfl ⟨Nat.le_of_ble_eq_true rfl, Nat.le_of_ble_eq_true rfl⟩ rfl (fun hTg => ?_)
  replace h := h.2
  refine ww_nm (fun S37 e_S37 => ?_)
  replace h := h S37 e_S37
  have hT_S37 : S37.2.2.1 = T0 := by rw [e_S37, hTg]; exact hT_S36
  exact ww_sub [] rfl (run_X9_addStep_442 C hrt hr hT_S37  h)
def wp_X9_addStep_320 (x : Int32) (y : Int32) (o : Int32) (r : Nat) (S : St) (v5 : Int32) (v6 : Int32) (v7 : Int32) (v8 : Int32) (P : St → Prop) : Prop :=
  ((4096 ≤ v5 → wp_X9_addStep_403 x y o r S v5 v6 v7 v8 P) ∧ (¬ 4096 ≤ v5 → ((4096 ≤ v6 → wp_X9_addStep_403 x y o r S v5 v6 v7 v8 P) ∧ (¬ 4096 ≤ v6 → ∀ S40 : St, S40 = rAdd S r (((o + 120) + v7) + (2 * v8)) → ∀ S41 : St, S41 = rAdd S40 63 (v5 / 16) → ∀ S42 : St, S42 = rAdd S41 63 (((v5 - v5 / 16 * 16) * 16) + (v6 / 256)) → ∀ S43 : St, S43 = rAdd S42 63 (v6 - v6 / 256 * 256) → wp_X9_addStep_442 x y o r S43  P))))
set_option maxHeartbeats 4000000 in
set_option maxRecDepth 100000 in
theorem run_X9_addStep_320 {f : Fx} {g : Gx} {T0 : List (Nat × Nat × Nat)} {S : St} {x : Int32} {y : Int32} {o : Int32} {r : Nat} {P : St → Prop} (C : Cx f g cX9_addStep 9 RX9) (hrt : (fmeth f).sig.returnType = none) (hr : r < 68) {v5 : Int32} {v6 : Int32} {v7 : Int32} {v8 : Int32} (hT : S.2.2.1 = T0)  (h : wp_X9_addStep_320 x y o r S v5 v6 v7 v8 P) : WW f rm_X9_addStep g 9 0 0 (Qv f g 0 0 T0 P) S 320 [(0, .ref (gad g 154)), (3, .int o), (4, .ref (gad g r)), (5, .int v5), (6, .int v6), (7, .int v7), (8, .int v8)] [] := by
  unfold wp_X9_addStep_320 at h
  refine ww_iload C dX9_addStep_320 3 rfl ?_
  refine ww_sipush (v := 4096) C dX9_addStep_322 (by decide) ?_
  refine ww_icmp_ge (tgt := 403) C dX9_addStep_325 (by decide) (fun q38 => ?_) (fun q38 => ?_)
  · replace h := h.1 q38
    exact ww_sub [0, 1, 2, 3, 4, 5, 6] rfl (run_X9_addStep_403 C hrt hr hT  h)
  · replace h := h.2 q38
    refine ww_iload C dX9_addStep_328 4 rfl ?_
    refine ww_sipush (v := 4096) C dX9_addStep_330 (by decide) ?_
    refine ww_icmp_ge (tgt := 403) C dX9_addStep_333 (by decide) (fun q39 => ?_) (fun q39 => ?_)
    · replace h := h.1 q39
      exact ww_sub [0, 1, 2, 3, 4, 5, 6] rfl (run_X9_addStep_403 C hrt hr hT  h)
    · replace h := h.2 q39
      refine ww_aload C dX9_addStep_336 2 rfl ?_
      refine ww_iload_n C dX9_addStep_338 1 rfl ?_
      refine ww_bipush (v := 120) C dX9_addStep_339 (by decide) ?_
      refine ww_iadd C dX9_addStep_341 ?_
      refine ww_iload C dX9_addStep_342 5 rfl ?_
      refine ww_iadd C dX9_addStep_344 ?_
      refine ww_iconst (v := 2) C dX9_addStep_345 (by decide) ?_
      refine ww_iload C dX9_addStep_346 6 rfl ?_
      refine ww_imul C dX9_addStep_348 ?_
      refine ww_iadd C dX9_addStep_349 ?_
      refine ww_cVg (As := [.int (((o + 120) + v7) + (2 * v8))]) (rest := []) C ok_X8_add bw_539 dX9_addStep_350 (cm_X8_add hr) (rc_Row hr) rfl ⟨Nat.le_of_ble_eq_true rfl, Nat.le_of_ble_eq_true rfl⟩ (Nat.le_of_ble_eq_true rfl) (c2 := 0) (s2 := 0) rfl rfl ⟨Nat.le_of_ble_eq_true rfl, Nat.le_of_ble_eq_true rfl⟩ rfl (fun hTg => ?_)
      refine ww_nm (fun S40 e_S40 => ?_)
      replace h := h S40 e_S40
      have hT_S40 : S40.2.2.1 = T0 := by rw [e_S40, hTg]; exact hT
      refine ww_aload_n C dX9_addStep_353 0 rfl ?_
      refine gf_StreamForm_details C bw_119 dX9_addStep_354 ?_
      refine ww_iload C dX9_addStep_357 3 rfl ?_
      refine ww_bipush (v := 16) C dX9_addStep_359 (by decide) ?_
      refine ww_idiv C dX9_addStep_361 (by decide) ?_
      refine ww_cVg (As := [.int (v5 / 16)]) (rest := []) C ok_X8_add bw_539 dX9_addStep_362 (cm_X8_add (by decide)) (rc_Row (by decide)) rfl ⟨Nat.le_of_ble_eq_true rfl, Nat.le_of_ble_eq_true rfl⟩ (Nat.le_of_ble_eq_true rfl) (c2 := 0) (s2 := 0) rfl rfl ⟨Nat.le_of_ble_eq_true rfl, Nat.le_of_ble_eq_true rfl⟩ rfl (fun hTg => ?_)
      refine ww_nm (fun S41 e_S41 => ?_)
      replace h := h S41 e_S41
      have hT_S41 : S41.2.2.1 = T0 := by rw [e_S41, hTg]; exact hT_S40
      refine ww_aload_n C dX9_addStep_365 0 rfl ?_
      refine gf_StreamForm_details C bw_119 dX9_addStep_366 ?_
      refine ww_iload C dX9_addStep_369 3 rfl ?_
      refine ww_bipush (v := 16) C dX9_addStep_371 (by decide) ?_
      refine ww_irem C dX9_addStep_373 (by decide) ?_
      refine ww_bipush (v := 16) C dX9_addStep_374 (by decide) ?_
      refine ww_imul C dX9_addStep_376 ?_
      refine ww_iload C dX9_addStep_377 4 rfl ?_
      refine ww_sipush (v := 256) C dX9_addStep_379 (by decide) ?_
      refine ww_idiv C dX9_addStep_382 (by decide) ?_
      refine ww_iadd C dX9_addStep_383 ?_
      refine ww_cVg (As := [.int (((v5 - v5 / 16 * 16) * 16) + (v6 / 256))]) (rest := []) C ok_X8_add bw_539 dX9_addStep_384 (cm_X8_add (by decide)) (rc_Row (by decide)) rfl ⟨Nat.le_of_ble_eq_true rfl, Nat.le_of_ble_eq_true rfl⟩ (Nat.le_of_ble_eq_true rfl) (c2 := 0) (s2 := 0) rfl rfl ⟨Nat.le_of_ble_eq_true rfl, Nat.le_of_ble_eq_true rfl⟩ rfl (fun hTg => ?_)
      refine ww_nm (fun S42 e_S42 => ?_)
      replace h := h S42 e_S42
      have hT_S42 : S42.2.2.1 = T0 := by rw [e_S42, hTg]; exact hT_S41
      refine ww_aload_n C dX9_addStep_387 0 rfl ?_
      refine gf_StreamForm_details C bw_119 dX9_addStep_388 ?_
      refine ww_iload C dX9_addStep_391 4 rfl ?_
      refine ww_sipush (v := 256) C dX9_addStep_393 (by decide) ?_
      refine ww_irem C dX9_addStep_396 (by decide) ?_
      refine ww_cVg (As := [.int (v6 - v6 / 256 * 256)]) (rest := []) C ok_X8_add bw_539 dX9_addStep_397 (cm_X8_add (by decide)) (rc_Row (by decide)) rfl ⟨Nat.le_of_ble_eq_true rfl, Nat.le_of_ble_eq_true rfl⟩ (Nat.le_of_ble_eq_true rfl) (c2 := 0) (s2 := 0) rfl rfl ⟨Nat.le_of_ble_eq_true rfl, Nat.le_of_ble_eq_true rfl⟩ rfl (fun hTg => ?_)
      refine ww_nm (fun S43 e_S43 => ?_)
      replace h := h S43 e_S43
      have hT_S43 : S43.2.2.1 = T0 := by rw [e_S43, hTg]; exact hT_S42
      refine ww_goto (tgt := 442) C dX9_addStep_400 (by decide) ?_
      exact ww_sub [] rfl (run_X9_addStep_442 C hrt hr hT_S43  h)
def wp_X9_addStep_221 (x : Int32) (y : Int32) (o : Int32) (r : Nat) (S : St) (v5 : Int32) (v6 : Int32) (v7 : Int32) (v8 : Int32) (P : St → Prop) : Prop :=
  ((v5 ≤ 0 → wp_X9_addStep_320 x y o r S v5 v6 v7 v8 P) ∧ (¬ v5 ≤ 0 → ((v6 ≤ 0 → wp_X9_addStep_320 x y o r S v5 v6 v7 v8 P) ∧ (¬ v6 ≤ 0 → ((769 ≤ v5 → wp_X9_addStep_320 x y o r S v5 v6 v7 v8 P) ∧ (¬ 769 ≤ v5 → ((769 ≤ v6 → wp_X9_addStep_320 x y o r S v5 v6 v7 v8 P) ∧ (¬ 769 ≤ v6 → ∀ S48 : St, S48 = rAdd S r (((((o + 84) + (((v5 - 1) / 256) * 12)) + (((v6 - 1) / 256) * 4)) + v7) + (2 * v8)) → ∀ S49 : St, S49 = rAdd S48 63 ((v5 - 1) - (v5 - 1) / 256 * 256) → ∀ S50 : St, S50 = rAdd S49 63 ((v6 - 1) - (v6 - 1) / 256 * 256) → wp_X9_addStep_442 x y o r S50  P))))))))
set_option maxHeartbeats 4000000 in
set_option maxRecDepth 100000 in
theorem run_X9_addStep_221 {f : Fx} {g : Gx} {T0 : List (Nat × Nat × Nat)} {S : St} {x : Int32} {y : Int32} {o : Int32} {r : Nat} {P : St → Prop} (C : Cx f g cX9_addStep 9 RX9) (hrt : (fmeth f).sig.returnType = none) (hr : r < 68) {v5 : Int32} {v6 : Int32} {v7 : Int32} {v8 : Int32} (hT : S.2.2.1 = T0)  (h : wp_X9_addStep_221 x y o r S v5 v6 v7 v8 P) : WW f rm_X9_addStep g 9 0 0 (Qv f g 0 0 T0 P) S 221 [(0, .ref (gad g 154)), (3, .int o), (4, .ref (gad g r)), (5, .int v5), (6, .int v6), (7, .int v7), (8, .int v8)] [] := by
  unfold wp_X9_addStep_221 at h
  refine ww_iload C dX9_addStep_221 3 rfl ?_
  refine ww_if_le (tgt := 320) C dX9_addStep_223 (by decide) (fun q44 => ?_) (fun q44 => ?_)
  · replace h := h.1 q44
    exact ww_sub [0, 1, 2, 3, 4, 5, 6] rfl (run_X9_addStep_320 C hrt hr hT  h)
  · replace h := h.2 q44
    refine ww_iload C dX9_addStep_226 4 rfl ?_
    refine ww_if_le (tgt := 320) C dX9_addStep_228 (by decide) (fun q45 => ?_) (fun q45 => ?_)
    · replace h := h.1 q45
      exact ww_sub [0, 1, 2, 3, 4, 5, 6] rfl (run_X9_addStep_320 C hrt hr hT  h)
    · replace h := h.2 q45
      refine ww_iload C dX9_addStep_231 3 rfl ?_
      refine ww_sipush (v := 769) C dX9_addStep_233 (by decide) ?_
      refine ww_icmp_ge (tgt := 320) C dX9_addStep_236 (by decide) (fun q46 => ?_) (fun q46 => ?_)
      · replace h := h.1 q46
        exact ww_sub [0, 1, 2, 3, 4, 5, 6] rfl (run_X9_addStep_320 C hrt hr hT  h)
      · replace h := h.2 q46
        refine ww_iload C dX9_addStep_239 4 rfl ?_
        refine ww_sipush (v := 769) C dX9_addStep_241 (by decide) ?_
        refine ww_icmp_ge (tgt := 320) C dX9_addStep_244 (by decide) (fun q47 => ?_) (fun q47 => ?_)
        · replace h := h.1 q47
          exact ww_sub [0, 1, 2, 3, 4, 5, 6] rfl (run_X9_addStep_320 C hrt hr hT  h)
        · replace h := h.2 q47
          refine ww_aload C dX9_addStep_247 2 rfl ?_
          refine ww_iload_n C dX9_addStep_249 1 rfl ?_
          refine ww_bipush (v := 84) C dX9_addStep_250 (by decide) ?_
          refine ww_iadd C dX9_addStep_252 ?_
          refine ww_iload C dX9_addStep_253 3 rfl ?_
          refine ww_iconst (v := 1) C dX9_addStep_255 (by decide) ?_
          refine ww_isub C dX9_addStep_256 ?_
          refine ww_sipush (v := 256) C dX9_addStep_257 (by decide) ?_
          refine ww_idiv C dX9_addStep_260 (by decide) ?_
          refine ww_bipush (v := 12) C dX9_addStep_261 (by decide) ?_
          refine ww_imul C dX9_addStep_263 ?_
          refine ww_iadd C dX9_addStep_264 ?_
          refine ww_iload C dX9_addStep_265 4 rfl ?_
          refine ww_iconst (v := 1) C dX9_addStep_267 (by decide) ?_
          refine ww_isub C dX9_addStep_268 ?_
          refine ww_sipush (v := 256) C dX9_addStep_269 (by decide) ?_
          refine ww_idiv C dX9_addStep_272 (by decide) ?_
          refine ww_iconst (v := 4) C dX9_addStep_273 (by decide) ?_
          refine ww_imul C dX9_addStep_274 ?_
          refine ww_iadd C dX9_addStep_275 ?_
          refine ww_iload C dX9_addStep_276 5 rfl ?_
          refine ww_iadd C dX9_addStep_278 ?_
          refine ww_iconst (v := 2) C dX9_addStep_279 (by decide) ?_
          refine ww_iload C dX9_addStep_280 6 rfl ?_
          refine ww_imul C dX9_addStep_282 ?_
          refine ww_iadd C dX9_addStep_283 ?_
          refine ww_cVg (As := [.int (((((o + 84) + (((v5 - 1) / 256) * 12)) + (((v6 - 1) / 256) * 4)) + v7) + (2 * v8))]) (rest := []) C ok_X8_add bw_539 dX9_addStep_284 (cm_X8_add hr) (rc_Row hr) rfl ⟨Nat.le_of_ble_eq_true rfl, Nat.le_of_ble_eq_true rfl⟩ (Nat.le_of_ble_eq_true rfl) (c2 := 0) (s2 := 0) rfl rfl ⟨Nat.le_of_ble_eq_true rfl, Nat.le_of_ble_eq_true rfl⟩ rfl (fun hTg => ?_)
          refine ww_nm (fun S48 e_S48 => ?_)
          replace h := h S48 e_S48
          have hT_S48 : S48.2.2.1 = T0 := by rw [e_S48, hTg]; exact hT
          refine ww_aload_n C dX9_addStep_287 0 rfl ?_
          refine gf_StreamForm_details C bw_119 dX9_addStep_288 ?_
          refine ww_iload C dX9_addStep_291 3 rfl ?_
          refine ww_iconst (v := 1) C dX9_addStep_293 (by decide) ?_
          refine ww_isub C dX9_addStep_294 ?_
          refine ww_sipush (v := 256) C dX9_addStep_295 (by decide) ?_
          refine ww_irem C dX9_addStep_298 (by decide) ?_
          refine ww_cVg (As := [.int ((v5 - 1) - (v5 - 1) / 256 * 256)]) (rest := []) C ok_X8_add bw_539 dX9_addStep_299 (cm_X8_add (by decide)) (rc_Row (by decide)) rfl ⟨Nat.le_of_ble_eq_true rfl, Nat.le_of_ble_eq_true rfl⟩ (Nat.le_of_ble_eq_true rfl) (c2 := 0) (s2 := 0) rfl rfl ⟨Nat.le_of_ble_eq_true rfl, Nat.le_of_ble_eq_true rfl⟩ rfl (fun hTg => ?_)
          refine ww_nm (fun S49 e_S49 => ?_)
          replace h := h S49 e_S49
          have hT_S49 : S49.2.2.1 = T0 := by rw [e_S49, hTg]; exact hT_S48
          refine ww_aload_n C dX9_addStep_302 0 rfl ?_
          refine gf_StreamForm_details C bw_119 dX9_addStep_303 ?_
          refine ww_iload C dX9_addStep_306 4 rfl ?_
          refine ww_iconst (v := 1) C dX9_addStep_308 (by decide) ?_
          refine ww_isub C dX9_addStep_309 ?_
          refine ww_sipush (v := 256) C dX9_addStep_310 (by decide) ?_
          refine ww_irem C dX9_addStep_313 (by decide) ?_
          refine ww_cVg (As := [.int ((v6 - 1) - (v6 - 1) / 256 * 256)]) (rest := []) C ok_X8_add bw_539 dX9_addStep_314 (cm_X8_add (by decide)) (rc_Row (by decide)) rfl ⟨Nat.le_of_ble_eq_true rfl, Nat.le_of_ble_eq_true rfl⟩ (Nat.le_of_ble_eq_true rfl) (c2 := 0) (s2 := 0) rfl rfl ⟨Nat.le_of_ble_eq_true rfl, Nat.le_of_ble_eq_true rfl⟩ rfl (fun hTg => ?_)
          refine ww_nm (fun S50 e_S50 => ?_)
          replace h := h S50 e_S50
          have hT_S50 : S50.2.2.1 = T0 := by rw [e_S50, hTg]; exact hT_S49
          refine ww_goto (tgt := 442) C dX9_addStep_317 (by decide) ?_
          exact ww_sub [] rfl (run_X9_addStep_442 C hrt hr hT_S50  h)
def wp_X9_addStep_131 (x : Int32) (y : Int32) (o : Int32) (r : Nat) (S : St) (v5 : Int32) (v6 : Int32) (v7 : Int32) (v8 : Int32) (P : St → Prop) : Prop :=
  ((v5 ≤ 0 → wp_X9_addStep_221 x y o r S v5 v6 v7 v8 P) ∧ (¬ v5 ≤ 0 → ((v6 ≤ 0 → wp_X9_addStep_221 x y o r S v5 v6 v7 v8 P) ∧ (¬ v6 ≤ 0 → ((65 ≤ v5 → wp_X9_addStep_221 x y o r S v5 v6 v7 v8 P) ∧ (¬ 65 ≤ v5 → ((65 ≤ v6 → wp_X9_addStep_221 x y o r S v5 v6 v7 v8 P) ∧ (¬ 65 ≤ v6 → ∀ S55 : St, S55 = rAdd S r (((((o + 20) + (((v5 - 1) / 16) * 16)) + (((v6 - 1) / 16) * 4)) + v7) + (2 * v8)) → ∀ S56 : St, S56 = rAdd S55 63 ((((v5 - 1) - (v5 - 1) / 16 * 16) * 16) + ((v6 - 1) - (v6 - 1) / 16 * 16)) → wp_X9_addStep_442 x y o r S56  P))))))))
set_option maxHeartbeats 4000000 in
set_option maxRecDepth 100000 in
theorem run_X9_addStep_131 {f : Fx} {g : Gx} {T0 : List (Nat × Nat × Nat)} {S : St} {x : Int32} {y : Int32} {o : Int32} {r : Nat} {P : St → Prop} (C : Cx f g cX9_addStep 9 RX9) (hrt : (fmeth f).sig.returnType = none) (hr : r < 68) {v5 : Int32} {v6 : Int32} {v7 : Int32} {v8 : Int32} (hT : S.2.2.1 = T0)  (h : wp_X9_addStep_131 x y o r S v5 v6 v7 v8 P) : WW f rm_X9_addStep g 9 0 0 (Qv f g 0 0 T0 P) S 131 [(0, .ref (gad g 154)), (3, .int o), (4, .ref (gad g r)), (5, .int v5), (6, .int v6), (7, .int v7), (8, .int v8)] [] := by
  unfold wp_X9_addStep_131 at h
  refine ww_iload C dX9_addStep_131 3 rfl ?_
  refine ww_if_le (tgt := 221) C dX9_addStep_133 (by decide) (fun q51 => ?_) (fun q51 => ?_)
  · replace h := h.1 q51
    exact ww_sub [0, 1, 2, 3, 4, 5, 6] rfl (run_X9_addStep_221 C hrt hr hT  h)
  · replace h := h.2 q51
    refine ww_iload C dX9_addStep_136 4 rfl ?_
    refine ww_if_le (tgt := 221) C dX9_addStep_138 (by decide) (fun q52 => ?_) (fun q52 => ?_)
    · replace h := h.1 q52
      exact ww_sub [0, 1, 2, 3, 4, 5, 6] rfl (run_X9_addStep_221 C hrt hr hT  h)
    · replace h := h.2 q52
      refine ww_iload C dX9_addStep_141 3 rfl ?_
      refine ww_bipush (v := 65) C dX9_addStep_143 (by decide) ?_
      refine ww_icmp_ge (tgt := 221) C dX9_addStep_145 (by decide) (fun q53 => ?_) (fun q53 => ?_)
      · replace h := h.1 q53
        exact ww_sub [0, 1, 2, 3, 4, 5, 6] rfl (run_X9_addStep_221 C hrt hr hT  h)
      · replace h := h.2 q53
        refine ww_iload C dX9_addStep_148 4 rfl ?_
        refine ww_bipush (v := 65) C dX9_addStep_150 (by decide) ?_
        refine ww_icmp_ge (tgt := 221) C dX9_addStep_152 (by decide) (fun q54 => ?_) (fun q54 => ?_)
        · replace h := h.1 q54
          exact ww_sub [0, 1, 2, 3, 4, 5, 6] rfl (run_X9_addStep_221 C hrt hr hT  h)
        · replace h := h.2 q54
          refine ww_aload C dX9_addStep_155 2 rfl ?_
          refine ww_iload_n C dX9_addStep_157 1 rfl ?_
          refine ww_bipush (v := 20) C dX9_addStep_158 (by decide) ?_
          refine ww_iadd C dX9_addStep_160 ?_
          refine ww_iload C dX9_addStep_161 3 rfl ?_
          refine ww_iconst (v := 1) C dX9_addStep_163 (by decide) ?_
          refine ww_isub C dX9_addStep_164 ?_
          refine ww_bipush (v := 16) C dX9_addStep_165 (by decide) ?_
          refine ww_idiv C dX9_addStep_167 (by decide) ?_
          refine ww_bipush (v := 16) C dX9_addStep_168 (by decide) ?_
          refine ww_imul C dX9_addStep_170 ?_
          refine ww_iadd C dX9_addStep_171 ?_
          refine ww_iload C dX9_addStep_172 4 rfl ?_
          refine ww_iconst (v := 1) C dX9_addStep_174 (by decide) ?_
          refine ww_isub C dX9_addStep_175 ?_
          refine ww_bipush (v := 16) C dX9_addStep_176 (by decide) ?_
          refine ww_idiv C dX9_addStep_178 (by decide) ?_
          refine ww_iconst (v := 4) C dX9_addStep_179 (by decide) ?_
          refine ww_imul C dX9_addStep_180 ?_
          refine ww_iadd C dX9_addStep_181 ?_
          refine ww_iload C dX9_addStep_182 5 rfl ?_
          refine ww_iadd C dX9_addStep_184 ?_
          refine ww_iconst (v := 2) C dX9_addStep_185 (by decide) ?_
          refine ww_iload C dX9_addStep_186 6 rfl ?_
          refine ww_imul C dX9_addStep_188 ?_
          refine ww_iadd C dX9_addStep_189 ?_
          refine ww_cVg (As := [.int (((((o + 20) + (((v5 - 1) / 16) * 16)) + (((v6 - 1) / 16) * 4)) + v7) + (2 * v8))]) (rest := []) C ok_X8_add bw_539 dX9_addStep_190 (cm_X8_add hr) (rc_Row hr) rfl ⟨Nat.le_of_ble_eq_true rfl, Nat.le_of_ble_eq_true rfl⟩ (Nat.le_of_ble_eq_true rfl) (c2 := 0) (s2 := 0) rfl rfl ⟨Nat.le_of_ble_eq_true rfl, Nat.le_of_ble_eq_true rfl⟩ rfl (fun hTg => ?_)
          refine ww_nm (fun S55 e_S55 => ?_)
          replace h := h S55 e_S55
          have hT_S55 : S55.2.2.1 = T0 := by rw [e_S55, hTg]; exact hT
          refine ww_aload_n C dX9_addStep_193 0 rfl ?_
          refine gf_StreamForm_details C bw_119 dX9_addStep_194 ?_
          refine ww_iload C dX9_addStep_197 3 rfl ?_
          refine ww_iconst (v := 1) C dX9_addStep_199 (by decide) ?_
          refine ww_isub C dX9_addStep_200 ?_
          refine ww_bipush (v := 16) C dX9_addStep_201 (by decide) ?_
          refine ww_irem C dX9_addStep_203 (by decide) ?_
          refine ww_bipush (v := 16) C dX9_addStep_204 (by decide) ?_
          refine ww_imul C dX9_addStep_206 ?_
          refine ww_iload C dX9_addStep_207 4 rfl ?_
          refine ww_iconst (v := 1) C dX9_addStep_209 (by decide) ?_
          refine ww_isub C dX9_addStep_210 ?_
          refine ww_bipush (v := 16) C dX9_addStep_211 (by decide) ?_
          refine ww_irem C dX9_addStep_213 (by decide) ?_
          refine ww_iadd C dX9_addStep_214 ?_
          refine ww_cVg (As := [.int ((((v5 - 1) - (v5 - 1) / 16 * 16) * 16) + ((v6 - 1) - (v6 - 1) / 16 * 16))]) (rest := []) C ok_X8_add bw_539 dX9_addStep_215 (cm_X8_add (by decide)) (rc_Row (by decide)) rfl ⟨Nat.le_of_ble_eq_true rfl, Nat.le_of_ble_eq_true rfl⟩ (Nat.le_of_ble_eq_true rfl) (c2 := 0) (s2 := 0) rfl rfl ⟨Nat.le_of_ble_eq_true rfl, Nat.le_of_ble_eq_true rfl⟩ rfl (fun hTg => ?_)
          refine ww_nm (fun S56 e_S56 => ?_)
          replace h := h S56 e_S56
          have hT_S56 : S56.2.2.1 = T0 := by rw [e_S56, hTg]; exact hT_S55
          refine ww_goto (tgt := 442) C dX9_addStep_218 (by decide) ?_
          exact ww_sub [] rfl (run_X9_addStep_442 C hrt hr hT_S56  h)
def wp_X9_addStep_81 (x : Int32) (y : Int32) (o : Int32) (r : Nat) (S : St) (v5 : Int32) (v6 : Int32) (v7 : Int32) (v8 : Int32) (P : St → Prop) : Prop :=
  ((¬ v6 = 0 → wp_X9_addStep_131 x y o r S v5 v6 v7 v8 P) ∧ (v6 = 0 → ((1280 ≤ v5 → wp_X9_addStep_131 x y o r S v5 v6 v7 v8 P) ∧ (¬ 1280 ≤ v5 → ∀ S59 : St, S59 = rAdd S r (((o + 10) + ((v5 / 256) * 2)) + v7) → ∀ S60 : St, S60 = rAdd S59 63 (v5 - v5 / 256 * 256) → wp_X9_addStep_442 x y o r S60  P))))
set_option maxHeartbeats 4000000 in
set_option maxRecDepth 100000 in
theorem run_X9_addStep_81 {f : Fx} {g : Gx} {T0 : List (Nat × Nat × Nat)} {S : St} {x : Int32} {y : Int32} {o : Int32} {r : Nat} {P : St → Prop} (C : Cx f g cX9_addStep 9 RX9) (hrt : (fmeth f).sig.returnType = none) (hr : r < 68) {v5 : Int32} {v6 : Int32} {v7 : Int32} {v8 : Int32} (hT : S.2.2.1 = T0)  (h : wp_X9_addStep_81 x y o r S v5 v6 v7 v8 P) : WW f rm_X9_addStep g 9 0 0 (Qv f g 0 0 T0 P) S 81 [(0, .ref (gad g 154)), (3, .int o), (4, .ref (gad g r)), (5, .int v5), (6, .int v6), (7, .int v7), (8, .int v8)] [] := by
  unfold wp_X9_addStep_81 at h
  refine ww_iload C dX9_addStep_81 4 rfl ?_
  refine ww_if_ne (tgt := 131) C dX9_addStep_83 (by decide) (fun q57 => ?_) (fun q57 => ?_)
  · replace h := h.1 q57
    exact ww_sub [0, 1, 2, 3, 4, 5, 6] rfl (run_X9_addStep_131 C hrt hr hT  h)
  · replace h := h.2 q57
    refine ww_iload C dX9_addStep_86 3 rfl ?_
    refine ww_sipush (v := 1280) C dX9_addStep_88 (by decide) ?_
    refine ww_icmp_ge (tgt := 131) C dX9_addStep_91 (by decide) (fun q58 => ?_) (fun q58 => ?_)
    · replace h := h.1 q58
      exact ww_sub [0, 1, 2, 3, 4, 5, 6] rfl (run_X9_addStep_131 C hrt hr hT  h)
    · replace h := h.2 q58
      refine ww_aload C dX9_addStep_94 2 rfl ?_
      refine ww_iload_n C dX9_addStep_96 1 rfl ?_
      refine ww_bipush (v := 10) C dX9_addStep_97 (by decide) ?_
      refine ww_iadd C dX9_addStep_99 ?_
      refine ww_iload C dX9_addStep_100 3 rfl ?_
      refine ww_sipush (v := 256) C dX9_addStep_102 (by decide) ?_
      refine ww_idiv C dX9_addStep_105 (by decide) ?_
      refine ww_iconst (v := 2) C dX9_addStep_106 (by decide) ?_
      refine ww_imul C dX9_addStep_107 ?_
      refine ww_iadd C dX9_addStep_108 ?_
      refine ww_iload C dX9_addStep_109 5 rfl ?_
      refine ww_iadd C dX9_addStep_111 ?_
      refine ww_cVg (As := [.int (((o + 10) + ((v5 / 256) * 2)) + v7)]) (rest := []) C ok_X8_add bw_539 dX9_addStep_112 (cm_X8_add hr) (rc_Row hr) rfl ⟨Nat.le_of_ble_eq_true rfl, Nat.le_of_ble_eq_true rfl⟩ (Nat.le_of_ble_eq_true rfl) (c2 := 0) (s2 := 0) rfl rfl ⟨Nat.le_of_ble_eq_true rfl, Nat.le_of_ble_eq_true rfl⟩ rfl (fun hTg => ?_)
      refine ww_nm (fun S59 e_S59 => ?_)
      replace h := h S59 e_S59
      have hT_S59 : S59.2.2.1 = T0 := by rw [e_S59, hTg]; exact hT
      refine ww_aload_n C dX9_addStep_115 0 rfl ?_
      refine gf_StreamForm_details C bw_119 dX9_addStep_116 ?_
      refine ww_iload C dX9_addStep_119 3 rfl ?_
      refine ww_sipush (v := 256) C dX9_addStep_121 (by decide) ?_
      refine ww_irem C dX9_addStep_124 (by decide) ?_
      refine ww_cVg (As := [.int (v5 - v5 / 256 * 256)]) (rest := []) C ok_X8_add bw_539 dX9_addStep_125 (cm_X8_add (by decide)) (rc_Row (by decide)) rfl ⟨Nat.le_of_ble_eq_true rfl, Nat.le_of_ble_eq_true rfl⟩ (Nat.le_of_ble_eq_true rfl) (c2 := 0) (s2 := 0) rfl rfl ⟨Nat.le_of_ble_eq_true rfl, Nat.le_of_ble_eq_true rfl⟩ rfl (fun hTg => ?_)
      refine ww_nm (fun S60 e_S60 => ?_)
      replace h := h S60 e_S60
      have hT_S60 : S60.2.2.1 = T0 := by rw [e_S60, hTg]; exact hT_S59
      refine ww_goto (tgt := 442) C dX9_addStep_128 (by decide) ?_
      exact ww_sub [] rfl (run_X9_addStep_442 C hrt hr hT_S60  h)
def wp_X9_addStep_32 (x : Int32) (y : Int32) (o : Int32) (r : Nat) (S : St) (v5 : Int32) (v6 : Int32) (v7 : Int32) (s0 : Int32) (P : St → Prop) : Prop :=
  ((¬ v5 = 0 → wp_X9_addStep_81 x y o r S v5 v6 v7 s0 P) ∧ (v5 = 0 → ((1280 ≤ v6 → wp_X9_addStep_81 x y o r S v5 v6 v7 s0 P) ∧ (¬ 1280 ≤ v6 → ∀ S63 : St, S63 = rAdd S r ((o + ((v6 / 256) * 2)) + s0) → ∀ S64 : St, S64 = rAdd S63 63 (v6 - v6 / 256 * 256) → wp_X9_addStep_442 x y o r S64  P))))
set_option maxHeartbeats 4000000 in
set_option maxRecDepth 100000 in
theorem run_X9_addStep_32 {f : Fx} {g : Gx} {T0 : List (Nat × Nat × Nat)} {S : St} {x : Int32} {y : Int32} {o : Int32} {r : Nat} {P : St → Prop} (C : Cx f g cX9_addStep 9 RX9) (hrt : (fmeth f).sig.returnType = none) (hr : r < 68) {v5 : Int32} {v6 : Int32} {v7 : Int32} {s0 : Int32} (hT : S.2.2.1 = T0)  (h : wp_X9_addStep_32 x y o r S v5 v6 v7 s0 P) : WW f rm_X9_addStep g 9 0 0 (Qv f g 0 0 T0 P) S 32 [(0, .ref (gad g 154)), (3, .int o), (4, .ref (gad g r)), (5, .int v5), (6, .int v6), (7, .int v7)] [.int s0] := by
  unfold wp_X9_addStep_32 at h
  refine ww_istore (lv2 := [(8, .int s0), (0, .ref (gad g 154)), (3, .int o), (4, .ref (gad g r)), (5, .int v5), (6, .int v6), (7, .int v7)]) C dX9_addStep_32 (Nat.le_of_ble_eq_true rfl) rfl ?_
  refine ww_iload C dX9_addStep_34 4 rfl ?_
  refine ww_if_ne (tgt := 81) C dX9_addStep_36 (by decide) (fun q61 => ?_) (fun q61 => ?_)
  · replace h := h.1 q61
    exact ww_sub [1, 2, 3, 4, 5, 6, 0] rfl (run_X9_addStep_81 C hrt hr hT  h)
  · replace h := h.2 q61
    refine ww_iload C dX9_addStep_39 5 rfl ?_
    refine ww_sipush (v := 1280) C dX9_addStep_41 (by decide) ?_
    refine ww_icmp_ge (tgt := 81) C dX9_addStep_44 (by decide) (fun q62 => ?_) (fun q62 => ?_)
    · replace h := h.1 q62
      exact ww_sub [1, 2, 3, 4, 5, 6, 0] rfl (run_X9_addStep_81 C hrt hr hT  h)
    · replace h := h.2 q62
      refine ww_aload C dX9_addStep_47 3 rfl ?_
      refine ww_iload_n C dX9_addStep_49 2 rfl ?_
      refine ww_iload C dX9_addStep_50 5 rfl ?_
      refine ww_sipush (v := 256) C dX9_addStep_52 (by decide) ?_
      refine ww_idiv C dX9_addStep_55 (by decide) ?_
      refine ww_iconst (v := 2) C dX9_addStep_56 (by decide) ?_
      refine ww_imul C dX9_addStep_57 ?_
      refine ww_iadd C dX9_addStep_58 ?_
      refine ww_iload C dX9_addStep_59 0 rfl ?_
      refine ww_iadd C dX9_addStep_61 ?_
      refine ww_cVg (As := [.int ((o + ((v6 / 256) * 2)) + s0)]) (rest := []) C ok_X8_add bw_539 dX9_addStep_62 (cm_X8_add hr) (rc_Row hr) rfl ⟨Nat.le_of_ble_eq_true rfl, Nat.le_of_ble_eq_true rfl⟩ (Nat.le_of_ble_eq_true rfl) (c2 := 0) (s2 := 0) rfl rfl ⟨Nat.le_of_ble_eq_true rfl, Nat.le_of_ble_eq_true rfl⟩ rfl (fun hTg => ?_)
      refine ww_nm (fun S63 e_S63 => ?_)
      replace h := h S63 e_S63
      have hT_S63 : S63.2.2.1 = T0 := by rw [e_S63, hTg]; exact hT
      refine ww_aload_n C dX9_addStep_65 1 rfl ?_
      refine gf_StreamForm_details C bw_119 dX9_addStep_66 ?_
      refine ww_iload C dX9_addStep_69 5 rfl ?_
      refine ww_sipush (v := 256) C dX9_addStep_71 (by decide) ?_
      refine ww_irem C dX9_addStep_74 (by decide) ?_
      refine ww_cVg (As := [.int (v6 - v6 / 256 * 256)]) (rest := []) C ok_X8_add bw_539 dX9_addStep_75 (cm_X8_add (by decide)) (rc_Row (by decide)) rfl ⟨Nat.le_of_ble_eq_true rfl, Nat.le_of_ble_eq_true rfl⟩ (Nat.le_of_ble_eq_true rfl) (c2 := 0) (s2 := 0) rfl rfl ⟨Nat.le_of_ble_eq_true rfl, Nat.le_of_ble_eq_true rfl⟩ rfl (fun hTg => ?_)
      refine ww_nm (fun S64 e_S64 => ?_)
      replace h := h S64 e_S64
      have hT_S64 : S64.2.2.1 = T0 := by rw [e_S64, hTg]; exact hT_S63
      refine ww_goto (tgt := 442) C dX9_addStep_78 (by decide) ?_
      exact ww_sub [] rfl (run_X9_addStep_442 C hrt hr hT_S64  h)
def wp_X9_addStep_21 (x : Int32) (y : Int32) (o : Int32) (r : Nat) (S : St) (v5 : Int32) (v6 : Int32) (s0 : Int32) (P : St → Prop) : Prop :=
  ((0 ≤ y → wp_X9_addStep_32 x y o r S v5 v6 s0 1 P) ∧ (¬ 0 ≤ y → wp_X9_addStep_32 x y o r S v5 v6 s0 0 P))
set_option maxHeartbeats 4000000 in
set_option maxRecDepth 100000 in
theorem run_X9_addStep_21 {f : Fx} {g : Gx} {T0 : List (Nat × Nat × Nat)} {S : St} {x : Int32} {y : Int32} {o : Int32} {r : Nat} {P : St → Prop} (C : Cx f g cX9_addStep 9 RX9) (hrt : (fmeth f).sig.returnType = none) (hr : r < 68) {v5 : Int32} {v6 : Int32} {s0 : Int32} (hT : S.2.2.1 = T0)  (h : wp_X9_addStep_21 x y o r S v5 v6 s0 P) : WW f rm_X9_addStep g 9 0 0 (Qv f g 0 0 T0 P) S 21 [(0, .ref (gad g 154)), (2, .int y), (3, .int o), (4, .ref (gad g r)), (5, .int v5), (6, .int v6)] [.int s0] := by
  unfold wp_X9_addStep_21 at h
  refine ww_istore (lv2 := [(7, .int s0), (0, .ref (gad g 154)), (2, .int y), (3, .int o), (4, .ref (gad g r)), (5, .int v5), (6, .int v6)]) C dX9_addStep_21 (Nat.le_of_ble_eq_true rfl) rfl ?_
  refine ww_iload_n C dX9_addStep_23 2 rfl ?_
  refine ww_if_ge (tgt := 31) C dX9_addStep_24 (by decide) (fun q65 => ?_) (fun q65 => ?_)
  · replace h := h.1 q65
    refine ww_iconst (v := 1) C dX9_addStep_31 (by decide) ?_
    exact ww_sub [1, 3, 4, 5, 6, 0] rfl (run_X9_addStep_32 C hrt hr hT  h)
  · replace h := h.2 q65
    refine ww_iconst (v := 0) C dX9_addStep_27 (by decide) ?_
    refine ww_goto (tgt := 32) C dX9_addStep_28 (by decide) ?_
    exact ww_sub [1, 3, 4, 5, 6, 0] rfl (run_X9_addStep_32 C hrt hr hT  h)
def wp_X9_addStep (S : St) (x : Int32) (y : Int32) (o : Int32) (r : Nat) (P : St → Prop) : Prop :=
  ∀ x66 : Int32, x66 = fv_J9_abs_0f7a4 S x → ∀ x67 : Int32, x67 = fv_J9_abs_0f7a4 S y → ((0 ≤ x → wp_X9_addStep_21 x y o r S x66 x67 1 P) ∧ (¬ 0 ≤ x → wp_X9_addStep_21 x y o r S x66 x67 0 P))
set_option maxHeartbeats 4000000 in
set_option maxRecDepth 100000 in
theorem run_X9_addStep {l : Launch} {g : Gx} {S : St} {x : Int32} {y : Int32} {o : Int32} {r : Nat} {P : St → Prop} (hr : r < 68) (h : rowsLe S → wp_X9_addStep S x y o r P) : CMv g l yX9_addStep cX9_addStep 9 none rm_X9_addStep [.ref (gad g 154), .int x, .int y, .int o, .ref (gad g r)] S P := cm_entry (own := RX9) (plainFor_of_name (by decide)) rfl (Nat.le_of_ble_eq_true rfl) rfl (fun hle f hf C hrt => by
  subst hf
  replace h := h hle
  obtain ⟨T0, hT⟩ : ∃ T, S.2.2.1 = T := ⟨_, rfl⟩
  rw [hT]
  unfold wp_X9_addStep at h
  refine ww_iload_n C dX9_addStep_0 1 rfl ?_
  refine ww_cSf (As := [.int x]) (rest := []) C ok_J9_abs_0f7a4 bw_556 dX9_addStep_1 cm_J9_abs_0f7a4 rfl ⟨Nat.le_of_ble_eq_true rfl, Nat.le_of_ble_eq_true rfl⟩ (Nat.le_of_ble_eq_true rfl) (c2 := 0) (s2 := 0) rfl rfl ⟨Nat.le_of_ble_eq_true rfl, Nat.le_of_ble_eq_true rfl⟩ rfl ?_
  refine ww_topi (fun x66 e_x66 => ?_)
  replace h := h x66 e_x66
  refine ww_istore (lv2 := [(5, .int x66), (0, .ref (gad g 154)), (1, .int x), (2, .int y), (3, .int o), (4, .ref (gad g r))]) C dX9_addStep_4 (Nat.le_of_ble_eq_true rfl) rfl ?_
  refine ww_iload_n C dX9_addStep_6 3 rfl ?_
  refine ww_cSf (As := [.int y]) (rest := []) C ok_J9_abs_0f7a4 bw_556 dX9_addStep_7 cm_J9_abs_0f7a4 rfl ⟨Nat.le_of_ble_eq_true rfl, Nat.le_of_ble_eq_true rfl⟩ (Nat.le_of_ble_eq_true rfl) (c2 := 0) (s2 := 0) rfl rfl ⟨Nat.le_of_ble_eq_true rfl, Nat.le_of_ble_eq_true rfl⟩ rfl ?_
  refine ww_topi (fun x67 e_x67 => ?_)
  replace h := h x67 e_x67
  refine ww_istore (lv2 := [(6, .int x67), (5, .int x66), (0, .ref (gad g 154)), (1, .int x), (2, .int y), (3, .int o), (4, .ref (gad g r))]) C dX9_addStep_10 (Nat.le_of_ble_eq_true rfl) rfl ?_
  refine ww_iload_n C dX9_addStep_12 3 rfl ?_
  refine ww_if_ge (tgt := 20) C dX9_addStep_13 (by decide) (fun q68 => ?_) (fun q68 => ?_)
  · replace h := h.1 q68
    refine ww_iconst (v := 1) C dX9_addStep_20 (by decide) ?_
    exact ww_sub [2, 4, 5, 6, 1, 0] rfl (run_X9_addStep_21 C hrt hr hT  h)
  · replace h := h.2 q68
    refine ww_iconst (v := 0) C dX9_addStep_16 (by decide) ?_
    refine ww_goto (tgt := 21) C dX9_addStep_17 (by decide) ?_
    exact ww_sub [2, 4, 5, 6, 1, 0] rfl (run_X9_addStep_21 C hrt hr hT  h))
abbrev rm_X9_makeTables : Room := { frames := 4, cells := 0, slots := 0, locals := 90 }
theorem ok_X9_makeTables : MOK yX9_makeTables RX9 cX9_makeTables 7 none 1 := ⟨bw_530, bw_531, bw_65, bw_532, by decide +kernel⟩
def st_X9_makeTables_35 (j : Nat) (P : St → Prop) (X35 : St → Nat → Nat → Int32 → Prop) (X55 : St → Nat → Nat → Int32 → Nat → Int32 → Prop) (X97 : St → Nat → Nat → Int32 → Nat → Int32 → Int32 → Int32 → Int32 → Prop) (S : St) (v2 : Nat) (v3 : Nat) (v4 : Int32) : Prop :=
  (((fv_X3_glyphCount S j) ≤ v4 → (neRow S v2 63 ∧ ∀ S18 : St, S18 = rAddRow S v2 63 → P S18)) ∧ (¬ (fv_X3_glyphCount S j) ≤ v4 → X55 S v2 v3 v4 (glId S j v4) 0))
def st_X9_makeTables_55 (j : Nat) (P : St → Prop) (X35 : St → Nat → Nat → Int32 → Prop) (X55 : St → Nat → Nat → Int32 → Nat → Int32 → Prop) (X97 : St → Nat → Nat → Int32 → Nat → Int32 → Int32 → Int32 → Int32 → Prop) (S : St) (v2 : Nat) (v3 : Nat) (v4 : Int32) (v5 : Nat) (v6 : Int32) : Prop :=
  (((fv_X4_pointCount S v5) ≤ v6 → ∀ S20 : St, S20 = rShort S v3 (fv_X4_advance S v5) → ∀ x21 : Int32, x21 = v4 + 1 → X35 S20 v2 v3 x21) ∧ (¬ (fv_X4_pointCount S v5) ≤ v6 → wp_X4_isOn S v5 v6 (fun r23 S22 => ((r23 = 0 → X97 S22 v2 v3 v4 v5 v6 128 (fv_X4_dy S v5 v6) (fv_X4_dx S v5 v6)) ∧ (¬ r23 = 0 → X97 S22 v2 v3 v4 v5 v6 0 (fv_X4_dy S v5 v6) (fv_X4_dx S v5 v6))))))
def st_X9_makeTables_97 (j : Nat) (P : St → Prop) (X35 : St → Nat → Nat → Int32 → Prop) (X55 : St → Nat → Nat → Int32 → Nat → Int32 → Prop) (X97 : St → Nat → Nat → Int32 → Nat → Int32 → Int32 → Int32 → Int32 → Prop) (S : St) (v2 : Nat) (v3 : Nat) (v4 : Int32) (v5 : Nat) (v6 : Int32) (s0 : Int32) (s1 : Int32) (s2 : Int32) : Prop :=
  wp_X9_addStep S s2 s1 s0 v2 (fun S25 => ∀ x27 : Int32, x27 = v6 + 1 → X55 S25 v2 v3 v4 v5 x27)
def at_X9_makeTables_35 (f : Fx) (g : Gx) (T0 : List (Nat × Nat × Nat)) (j : Nat) (P : St → Prop) (S : St) (v2 : Nat) (v3 : Nat) (v4 : Int32) : Prop := S.2.2.1 = T0 → v2 < 68 → v3 < 68 → WW f rm_X9_makeTables g 7 0 0 (Qv f g 0 0 T0 P) S 35 [(0, .ref (gad g 154)), (1, .ref (gad g (148 + j))), (2, .ref (gad g v2)), (3, .ref (gad g v3)), (4, .int v4)] []
def at_X9_makeTables_55 (f : Fx) (g : Gx) (T0 : List (Nat × Nat × Nat)) (j : Nat) (P : St → Prop) (S : St) (v2 : Nat) (v3 : Nat) (v4 : Int32) (v5 : Nat) (v6 : Int32) : Prop := S.2.2.1 = T0 → v2 < 68 → v3 < 68 → v5 < 12 → WW f rm_X9_makeTables g 7 0 0 (Qv f g 0 0 T0 P) S 55 [(0, .ref (gad g 154)), (1, .ref (gad g (148 + j))), (2, .ref (gad g v2)), (3, .ref (gad g v3)), (4, .int v4), (5, .ref (gad g (136 + v5))), (6, .int v6)] []
def at_X9_makeTables_97 (f : Fx) (g : Gx) (T0 : List (Nat × Nat × Nat)) (j : Nat) (P : St → Prop) (S : St) (v2 : Nat) (v3 : Nat) (v4 : Int32) (v5 : Nat) (v6 : Int32) (s0 : Int32) (s1 : Int32) (s2 : Int32) : Prop := S.2.2.1 = T0 → v2 < 68 → v3 < 68 → v5 < 12 → WW f rm_X9_makeTables g 7 0 0 (Qv f g 0 0 T0 P) S 97 [(0, .ref (gad g 154)), (1, .ref (gad g (148 + j))), (2, .ref (gad g v2)), (3, .ref (gad g v3)), (4, .int v4), (5, .ref (gad g (136 + v5))), (6, .int v6)] [.int s0, .int s1, .int s2, .ref (gad g 154)]
set_option maxHeartbeats 4000000 in
set_option maxRecDepth 100000 in
theorem run_X9_makeTables_35 {f : Fx} {g : Gx} {T0 : List (Nat × Nat × Nat)} {S : St} {j : Nat} {P : St → Prop} (C : Cx f g cX9_makeTables 7 RX9) (hrt : (fmeth f).sig.returnType = none) (hj : j < 2) {v2 : Nat} {v3 : Nat} {v4 : Int32} (h : st_X9_makeTables_35 j P (at_X9_makeTables_35 f g T0 j P) (at_X9_makeTables_55 f g T0 j P) (at_X9_makeTables_97 f g T0 j P) S v2 v3 v4) : at_X9_makeTables_35 f g T0 j P S v2 v3 v4 := by
  intro hT hv2 hv3
  unfold st_X9_makeTables_35 at h
  refine ww_iload C dX9_makeTables_35 4 rfl ?_
  refine ww_aload_n C dX9_makeTables_37 1 rfl ?_
  refine ww_cVf (As := []) (rest := [.int v4]) C ok_X3_glyphCount bw_538 dX9_makeTables_38 (cm_X3_glyphCount hj) (rc_Font hj) rfl ⟨Nat.le_of_ble_eq_true rfl, Nat.le_of_ble_eq_true rfl⟩ (Nat.le_of_ble_eq_true rfl) (c2 := 0) (s2 := 0) rfl rfl ⟨Nat.le_of_ble_eq_true rfl, Nat.le_of_ble_eq_true rfl⟩ rfl ?_
  refine ww_icmp_ge (tgt := 122) C dX9_makeTables_41 (by decide) (fun q17 => ?_) (fun q17 => ?_)
  · replace h := h.1 q17
    refine ww_aload_n C dX9_makeTables_122 2 rfl ?_
    refine ww_aload_n C dX9_makeTables_123 0 rfl ?_
    refine gf_StreamForm_details C bw_119 dX9_makeTables_124 ?_
    refine ww_cVg (As := [.ref (gad g 63)]) (rest := []) C ok_X8_addRow bw_559 dX9_makeTables_127 (cm_X8_addRow hv2 (by decide) h.1) (rc_Row hv2) rfl ⟨Nat.le_of_ble_eq_true rfl, Nat.le_of_ble_eq_true rfl⟩ (Nat.le_of_ble_eq_true rfl) (c2 := 0) (s2 := 0) rfl rfl ⟨Nat.le_of_ble_eq_true rfl, Nat.le_of_ble_eq_true rfl⟩ rfl (fun hTg => ?_)
    replace h := h.2
    refine ww_nm (fun S18 e_S18 => ?_)
    replace h := h S18 e_S18
    have hT_S18 : S18.2.2.1 = T0 := by rw [e_S18, hTg]; exact hT
    exact ww_vret C hrt dX9_makeTables_130 hT_S18 h
  · replace h := h.2 q17
    refine ww_aload_n C dX9_makeTables_44 1 rfl ?_
    refine ww_iload C dX9_makeTables_45 4 rfl ?_
    refine ww_cVr (As := [.int v4]) (rest := []) C ok_X3_glyphAt bw_540 dX9_makeTables_47 (cm_X3_glyphAt hj) (rc_Font hj) rfl ⟨Nat.le_of_ble_eq_true rfl, Nat.le_of_ble_eq_true rfl⟩ (Nat.le_of_ble_eq_true rfl) (c2 := 0) (s2 := 0) rfl rfl ⟨Nat.le_of_ble_eq_true rfl, Nat.le_of_ble_eq_true rfl⟩ rfl ?_
    refine ww_astore (lv2 := [(5, .ref (gad g (136 + (glId S j v4)))), (0, .ref (gad g 154)), (1, .ref (gad g (148 + j))), (2, .ref (gad g v2)), (3, .ref (gad g v3)), (4, .int v4)]) C dX9_makeTables_50 (Nat.le_of_ble_eq_true rfl) rfl ?_
    refine ww_iconst (v := 0) C dX9_makeTables_52 (by decide) ?_
    refine ww_istore (lv2 := [(6, .int 0), (5, .ref (gad g (136 + (glId S j v4)))), (0, .ref (gad g 154)), (1, .ref (gad g (148 + j))), (2, .ref (gad g v2)), (3, .ref (gad g v3)), (4, .int v4)]) C dX9_makeTables_53 (Nat.le_of_ble_eq_true rfl) rfl ?_
    exact ww_sub [2, 3, 4, 5, 6, 1, 0] rfl (h hT hv2 hv3 (glId_lt hj))
set_option maxHeartbeats 4000000 in
set_option maxRecDepth 100000 in
theorem run_X9_makeTables_55 {f : Fx} {g : Gx} {T0 : List (Nat × Nat × Nat)} {S : St} {j : Nat} {P : St → Prop} (C : Cx f g cX9_makeTables 7 RX9) (hrt : (fmeth f).sig.returnType = none) (hj : j < 2) {v2 : Nat} {v3 : Nat} {v4 : Int32} {v5 : Nat} {v6 : Int32} (h : st_X9_makeTables_55 j P (at_X9_makeTables_35 f g T0 j P) (at_X9_makeTables_55 f g T0 j P) (at_X9_makeTables_97 f g T0 j P) S v2 v3 v4 v5 v6) : at_X9_makeTables_55 f g T0 j P S v2 v3 v4 v5 v6 := by
  intro hT hv2 hv3 hv5
  unfold st_X9_makeTables_55 at h
  refine ww_iload C dX9_makeTables_55 6 rfl ?_
  refine ww_aload C dX9_makeTables_57 5 rfl ?_
  refine ww_cVf (As := []) (rest := [.int v6]) C ok_X4_pointCount bw_548 dX9_makeTables_59 (cm_X4_pointCount hv5) (rc_Glyph hv5) rfl ⟨Nat.le_of_ble_eq_true rfl, Nat.le_of_ble_eq_true rfl⟩ (Nat.le_of_ble_eq_true rfl) (c2 := 0) (s2 := 0) rfl rfl ⟨Nat.le_of_ble_eq_true rfl, Nat.le_of_ble_eq_true rfl⟩ rfl ?_
  refine ww_icmp_ge (tgt := 107) C dX9_makeTables_62 (by decide) (fun q19 => ?_) (fun q19 => ?_)
  · replace h := h.1 q19
    refine ww_aload_n C dX9_makeTables_107 3 rfl ?_
    refine ww_aload C dX9_makeTables_108 5 rfl ?_
    refine ww_cVf (As := []) (rest := [.ref (gad g v3)]) C ok_X4_advance bw_558 dX9_makeTables_110 (cm_X4_advance hv5) (rc_Glyph hv5) rfl ⟨Nat.le_of_ble_eq_true rfl, Nat.le_of_ble_eq_true rfl⟩ (Nat.le_of_ble_eq_true rfl) (c2 := 0) (s2 := 0) rfl rfl ⟨Nat.le_of_ble_eq_true rfl, Nat.le_of_ble_eq_true rfl⟩ rfl ?_
    refine ww_cVg (As := [.int (fv_X4_advance S v5)]) (rest := []) C ok_X8_addShort bw_543 dX9_makeTables_113 (cm_X8_addShort hv3) (rc_Row hv3) rfl ⟨Nat.le_of_ble_eq_true rfl, Nat.le_of_ble_eq_true rfl⟩ (Nat.le_of_ble_eq_true rfl) (c2 := 0) (s2 := 0) rfl rfl ⟨Nat.le_of_ble_eq_true rfl, Nat.le_of_ble_eq_true rfl⟩ rfl (fun hTg => ?_)
    refine ww_nm (fun S20 e_S20 => ?_)
    replace h := h S20 e_S20
    have hT_S20 : S20.2.2.1 = T0 := by rw [e_S20, hTg]; exact hT
    obtain ⟨x21, e_x21⟩ : ∃ z : Int32, z = v4 + 1 := ⟨_, rfl⟩
    replace h := h x21 e_x21
    refine ww_iinc (v := x21) (lv2 := [(4, .int x21), (0, .ref (gad g 154)), (1, .ref (gad g (148 + j))), (2, .ref (gad g v2)), (3, .ref (gad g v3)), (5, .ref (gad g (136 + v5))), (6, .int v6)]) C dX9_makeTables_116 4 rfl (by rw [e_x21]; rfl) (Nat.le_of_ble_eq_true rfl) rfl ?_
    refine ww_goto (tgt := 35) C dX9_makeTables_119 (by decide) ?_
    exact ww_sub [1, 2, 3, 4, 0] rfl (h hT_S20 hv2 hv3)
  · replace h := h.2 q19
    refine ww_aload_n C dX9_makeTables_65 0 rfl ?_
    refine ww_aload C dX9_makeTables_66 5 rfl ?_
    refine ww_iload C dX9_makeTables_68 6 rfl ?_
    refine ww_cVf (As := [.int v6]) (rest := [.ref (gad g 154)]) C ok_X4_dx bw_549 dX9_makeTables_70 (cm_X4_dx hv5) (rc_Glyph hv5) rfl ⟨Nat.le_of_ble_eq_true rfl, Nat.le_of_ble_eq_true rfl⟩ (Nat.le_of_ble_eq_true rfl) (c2 := 0) (s2 := 0) rfl rfl ⟨Nat.le_of_ble_eq_true rfl, Nat.le_of_ble_eq_true rfl⟩ rfl ?_
    refine ww_aload C dX9_makeTables_73 5 rfl ?_
    refine ww_iload C dX9_makeTables_75 6 rfl ?_
    refine ww_cVf (As := [.int v6]) (rest := [.int (fv_X4_dx S v5 v6), .ref (gad g 154)]) C ok_X4_dy bw_550 dX9_makeTables_77 (cm_X4_dy hv5) (rc_Glyph hv5) rfl ⟨Nat.le_of_ble_eq_true rfl, Nat.le_of_ble_eq_true rfl⟩ (Nat.le_of_ble_eq_true rfl) (c2 := 0) (s2 := 0) rfl rfl ⟨Nat.le_of_ble_eq_true rfl, Nat.le_of_ble_eq_true rfl⟩ rfl ?_
    refine ww_aload C dX9_makeTables_80 5 rfl ?_
    refine ww_iload C dX9_makeTables_82 6 rfl ?_
    refine ww_cVi (As := [.int v6]) (rest := [.int (fv_X4_dy S v5 v6), .int (fv_X4_dx S v5 v6), .ref (gad g 154)]) C ok_X4_isOn bw_551 dX9_makeTables_84 (run_X4_isOn hv5 (fun _ => h)) (rc_Glyph hv5) rfl ⟨Nat.le_of_ble_eq_true rfl, Nat.le_of_ble_eq_true rfl⟩ (Nat.le_of_ble_eq_true rfl) (c2 := 0) (s2 := 0) rfl rfl ⟨Nat.le_of_ble_eq_true rfl, Nat.le_of_ble_eq_true rfl⟩ rfl (fun r23 S22 hp hTg => ?_)
    replace h := hp
    have hT_S22 : S22.2.2.1 = T0 := by rw [hTg]; exact hT
    refine ww_if_eq (tgt := 94) C dX9_makeTables_87 (by decide) (fun q24 => ?_) (fun q24 => ?_)
    · replace h := h.1 q24
      refine ww_sipush (v := 128) C dX9_makeTables_94 (by decide) ?_
      exact ww_sub [0, 1, 2, 3, 4, 5, 6] rfl (h hT_S22 hv2 hv3 hv5)
    · replace h := h.2 q24
      refine ww_iconst (v := 0) C dX9_makeTables_90 (by decide) ?_
      refine ww_goto (tgt := 97) C dX9_makeTables_91 (by decide) ?_
      exact ww_sub [0, 1, 2, 3, 4, 5, 6] rfl (h hT_S22 hv2 hv3 hv5)
set_option maxHeartbeats 4000000 in
set_option maxRecDepth 100000 in
theorem run_X9_makeTables_97 {f : Fx} {g : Gx} {T0 : List (Nat × Nat × Nat)} {S : St} {j : Nat} {P : St → Prop} (C : Cx f g cX9_makeTables 7 RX9) (hrt : (fmeth f).sig.returnType = none) (hj : j < 2) {v2 : Nat} {v3 : Nat} {v4 : Int32} {v5 : Nat} {v6 : Int32} {s0 : Int32} {s1 : Int32} {s2 : Int32} (h : st_X9_makeTables_97 j P (at_X9_makeTables_35 f g T0 j P) (at_X9_makeTables_55 f g T0 j P) (at_X9_makeTables_97 f g T0 j P) S v2 v3 v4 v5 v6 s0 s1 s2) : at_X9_makeTables_97 f g T0 j P S v2 v3 v4 v5 v6 s0 s1 s2 := by
  intro hT hv2 hv3 hv5
  unfold st_X9_makeTables_97 at h
  refine ww_aload_n C dX9_makeTables_97 2 rfl ?_
  refine ww_cVv (As := [.int s2, .int s1, .int s0, .ref (gad g v2)]) (rest := []) C ok_X9_addStep bw_552 dX9_makeTables_98 (run_X9_addStep hv2 (fun _ => h)) rc_StreamForm rfl ⟨Nat.le_of_ble_eq_true rfl, Nat.le_of_ble_eq_true rfl⟩ (Nat.le_of_ble_eq_true rfl) (c2 := 0) (s2 := 0) rfl rfl ⟨Nat.le_of_ble_eq_true rfl, Nat.le_of_ble_eq_true rfl⟩ rfl (fun S25 hp hTg => ?_)
  replace h := hp
  have hT_S25 : S25.2.2.1 = T0 := by rw [hTg]; exact hT
  obtain ⟨x27, e_x27⟩ : ∃ z : Int32, z = v6 + 1 := ⟨_, rfl⟩
  replace h := h x27 e_x27
  refine ww_iinc (v := x27) (lv2 := [(6, .int x27), (0, .ref (gad g 154)), (1, .ref (gad g (148 + j))), (2, .ref (gad g v2)), (3, .ref (gad g v3)), (4, .int v4), (5, .ref (gad g (136 + v5)))]) C dX9_makeTables_101 6 rfl (by rw [e_x27]; rfl) (Nat.le_of_ble_eq_true rfl) rfl ?_
  refine ww_goto (tgt := 55) C dX9_makeTables_104 (by decide) ?_
  exact ww_sub [1, 2, 3, 4, 5, 6, 0] rfl (h hT_S25 hv2 hv3 hv5)
def wp_X9_makeTables (S : St) (j : Nat) (P : St → Prop) : Prop :=
  ∀ (X35 : St → Nat → Nat → Int32 → Prop) (X55 : St → Nat → Nat → Int32 → Nat → Int32 → Prop) (X97 : St → Nat → Nat → Int32 → Nat → Int32 → Int32 → Int32 → Int32 → Prop), (∀ S v2 v3 v4, st_X9_makeTables_35 j P X35 X55 X97 S v2 v3 v4 → X35 S v2 v3 v4) → (∀ S v2 v3 v4 v5 v6, st_X9_makeTables_55 j P X35 X55 X97 S v2 v3 v4 v5 v6 → X55 S v2 v3 v4 v5 v6) → (∀ S v2 v3 v4 v5 v6 s0 s1 s2, st_X9_makeTables_97 j P X35 X55 X97 S v2 v3 v4 v5 v6 s0 s1 s2 → X97 S v2 v3 v4 v5 v6 s0 s1 s2) → ∀ S28 : St, S28 = rMake S (rwId S j 0) → ∀ S29 : St, S29 = rMake S28 (rwId S j 1) → ∀ S30 : St, S30 = rMake S29 63 → wp_X9_addCounts S30 j (rwId S j 0) (fun S31 => X35 S31 (rwId S j 0) (rwId S j 1) 0)
set_option maxHeartbeats 4000000 in
set_option maxRecDepth 100000 in
theorem run_X9_makeTables {l : Launch} {g : Gx} {S : St} {j : Nat} {P : St → Prop} (hj : j < 2) (h : rowsLe S → wp_X9_makeTables S j P) : CMv g l yX9_makeTables cX9_makeTables 7 none rm_X9_makeTables [.ref (gad g 154), .ref (gad g (148 + j))] S P := cm_entry (own := RX9) (plainFor_of_name (by decide)) rfl (Nat.le_of_ble_eq_true rfl) rfl (fun hle f hf C hrt => by
  subst hf
  replace h := h hle
  obtain ⟨T0, hT⟩ : ∃ T, S.2.2.1 = T := ⟨_, rfl⟩
  rw [hT]
  replace h := h (at_X9_makeTables_35 f g T0 j P) (at_X9_makeTables_55 f g T0 j P) (at_X9_makeTables_97 f g T0 j P) (fun S v2 v3 v4 h => run_X9_makeTables_35 C hrt hj h) (fun S v2 v3 v4 v5 v6 h => run_X9_makeTables_55 C hrt hj h) (fun S v2 v3 v4 v5 v6 s0 s1 s2 h => run_X9_makeTables_97 C hrt hj h)
  refine ww_aload_n C dX9_makeTables_0 1 rfl ?_
  refine ww_iconst (v := 0) C dX9_makeTables_1 (by decide) ?_
  refine ww_cVr (As := [.int 0]) (rest := []) C ok_X3_tableRow bw_533 dX9_makeTables_2 (cm_X3_tableRow hj) (rc_Font hj) rfl ⟨Nat.le_of_ble_eq_true rfl, Nat.le_of_ble_eq_true rfl⟩ (Nat.le_of_ble_eq_true rfl) (c2 := 0) (s2 := 0) rfl rfl ⟨Nat.le_of_ble_eq_true rfl, Nat.le_of_ble_eq_true rfl⟩ rfl ?_
  refine ww_astore_n (lv2 := [(2, .ref (gad g (rwId S j 0))), (0, .ref (gad g 154)), (1, .ref (gad g (148 + j)))]) C dX9_makeTables_5 rfl (Nat.le_of_ble_eq_true rfl) rfl ?_
  refine ww_aload_n C dX9_makeTables_6 2 rfl ?_
  refine ww_iconst (v := 1) C dX9_makeTables_7 (by decide) ?_
  refine ww_cVr (As := [.int 1]) (rest := []) C ok_X3_tableRow bw_533 dX9_makeTables_8 (cm_X3_tableRow hj) (rc_Font hj) rfl ⟨Nat.le_of_ble_eq_true rfl, Nat.le_of_ble_eq_true rfl⟩ (Nat.le_of_ble_eq_true rfl) (c2 := 0) (s2 := 0) rfl rfl ⟨Nat.le_of_ble_eq_true rfl, Nat.le_of_ble_eq_true rfl⟩ rfl ?_
  refine ww_astore_n (lv2 := [(3, .ref (gad g (rwId S j 1))), (2, .ref (gad g (rwId S j 0))), (0, .ref (gad g 154)), (1, .ref (gad g (148 + j)))]) C dX9_makeTables_11 rfl (Nat.le_of_ble_eq_true rfl) rfl ?_
  refine ww_aload_n C dX9_makeTables_12 1 rfl ?_
  refine ww_cVg (As := []) (rest := []) C ok_X8_makeEmpty bw_534 dX9_makeTables_13 (cm_X8_makeEmpty (rwId_lt hj)) (rc_Row (rwId_lt hj)) rfl ⟨Nat.le_of_ble_eq_true rfl, Nat.le_of_ble_eq_true rfl⟩ (Nat.le_of_ble_eq_true rfl) (c2 := 0) (s2 := 0) rfl rfl ⟨Nat.le_of_ble_eq_true rfl, Nat.le_of_ble_eq_true rfl⟩ rfl (fun hTg => ?_)
  refine ww_nm (fun S28 e_S28 => ?_)
  replace h := h S28 e_S28
  have hT_S28 : S28.2.2.1 = T0 := by rw [e_S28, hTg]; exact hT
  refine ww_aload_n C dX9_makeTables_16 0 rfl ?_
  refine ww_cVg (As := []) (rest := []) C ok_X8_makeEmpty bw_534 dX9_makeTables_17 (cm_X8_makeEmpty (rwId_lt hj)) (rc_Row (rwId_lt hj)) rfl ⟨Nat.le_of_ble_eq_true rfl, Nat.le_of_ble_eq_true rfl⟩ (Nat.le_of_ble_eq_true rfl) (c2 := 0) (s2 := 0) rfl rfl ⟨Nat.le_of_ble_eq_true rfl, Nat.le_of_ble_eq_true rfl⟩ rfl (fun hTg => ?_)
  refine ww_nm (fun S29 e_S29 => ?_)
  replace h := h S29 e_S29
  have hT_S29 : S29.2.2.1 = T0 := by rw [e_S29, hTg]; exact hT_S28
  refine ww_aload_n C dX9_makeTables_20 2 rfl ?_
  refine gf_StreamForm_details C bw_119 dX9_makeTables_21 ?_
  refine ww_cVg (As := []) (rest := []) C ok_X8_makeEmpty bw_534 dX9_makeTables_24 (cm_X8_makeEmpty (by decide)) (rc_Row (by decide)) rfl ⟨Nat.le_of_ble_eq_true rfl, Nat.le_of_ble_eq_true rfl⟩ (Nat.le_of_ble_eq_true rfl) (c2 := 0) (s2 := 0) rfl rfl ⟨Nat.le_of_ble_eq_true rfl, Nat.le_of_ble_eq_true rfl⟩ rfl (fun hTg => ?_)
  refine ww_nm (fun S30 e_S30 => ?_)
  replace h := h S30 e_S30
  have hT_S30 : S30.2.2.1 = T0 := by rw [e_S30, hTg]; exact hT_S29
  refine ww_aload_n C dX9_makeTables_27 3 rfl ?_
  refine ww_aload_n C dX9_makeTables_28 1 rfl ?_
  refine ww_cSv (As := [.ref (gad g (148 + j)), .ref (gad g (rwId S j 0))]) (rest := []) C ok_X9_addCounts bw_535 dX9_makeTables_29 (run_X9_addCounts hj (rwId_lt hj) (fun _ => h)) rfl ⟨Nat.le_of_ble_eq_true rfl, Nat.le_of_ble_eq_true rfl⟩ (Nat.le_of_ble_eq_true rfl) (c2 := 0) (s2 := 0) rfl rfl ⟨Nat.le_of_ble_eq_true rfl, Nat.le_of_ble_eq_true rfl⟩ rfl (fun S31 hp hTg => ?_)
  replace h := hp
  have hT_S31 : S31.2.2.1 = T0 := by rw [hTg]; exact hT_S30
  refine ww_iconst (v := 0) C dX9_makeTables_32 (by decide) ?_
  refine ww_istore (lv2 := [(4, .int 0), (3, .ref (gad g (rwId S j 1))), (2, .ref (gad g (rwId S j 0))), (0, .ref (gad g 154)), (1, .ref (gad g (148 + j)))]) C dX9_makeTables_33 (Nat.le_of_ble_eq_true rfl) rfl ?_
  exact ww_sub [3, 4, 2, 1, 0] rfl (h hT_S31 (rwId_lt hj) (rwId_lt hj)))
