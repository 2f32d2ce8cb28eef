abbrev rm_X3_makeEmpty : Room := { frames := 1, cells := 0, slots := 0, locals := 20 }
theorem ok_X3_makeEmpty : MOK yX3_makeEmpty RX3 cX3_makeEmpty 2 none 0 := ⟨bw_233, bw_234, bw_67, bw_235, by decide +kernel⟩
def st_X3_makeEmpty_7 (j : Nat) (P : St → Prop) (X7 : St → Int32 → Prop) (S : St) (v1 : Int32) : Prop :=
  ((7 ≤ v1 → P S) ∧ (¬ 7 ≤ v1 → (vp_in v1 7 ∧ ∀ S8 : St, S8 = rMake S (48 + 7 * j + v1.toNatClampNeg) → ∀ x9 : Int32, x9 = v1 + 1 → X7 S8 x9)))
def at_X3_makeEmpty_7 (f : Fx) (g : Gx) (T0 : List (Nat × Nat × Nat)) (j : Nat) (P : St → Prop) (S : St) (v1 : Int32) : Prop := S.2.2.1 = T0 → WW f rm_X3_makeEmpty g 2 0 0 (Qv f g 0 0 T0 P) S 7 [(0, .ref (gad g (148 + j))), (1, .int v1)] []
set_option maxHeartbeats 4000000 in
set_option maxRecDepth 100000 in
theorem run_X3_makeEmpty_7 {f : Fx} {g : Gx} {T0 : List (Nat × Nat × Nat)} {S : St} {j : Nat} {P : St → Prop} (C : Cx f g cX3_makeEmpty 2 RX3) (hrt : (fmeth f).sig.returnType = none) (hj : j < 2) {v1 : Int32} (h : st_X3_makeEmpty_7 j P (at_X3_makeEmpty_7 f g T0 j P) S v1) : at_X3_makeEmpty_7 f g T0 j P S v1 := by
  intro hT 
  unfold st_X3_makeEmpty_7 at h
  refine ww_iload_n C dX3_makeEmpty_7 1 rfl ?_
  refine ww_aload_n C dX3_makeEmpty_8 0 rfl ?_
  refine gf_Font_rows C (j := j) hj bw_200 dX3_makeEmpty_9 ?_
  refine ral C hj dX3_makeEmpty_12 ?_
  refine ww_icmp_ge (tgt := 31) C dX3_makeEmpty_13 (by decide) (fun q6 => ?_) (fun q6 => ?_)
  · replace h := h.1 q6
    exact ww_vret C hrt dX3_makeEmpty_31 hT h
  · replace h := h.2 q6
    refine ww_aload_n C dX3_makeEmpty_16 0 rfl ?_
    refine gf_Font_rows C (j := j) hj bw_200 dX3_makeEmpty_17 ?_
    refine ww_iload_n C dX3_makeEmpty_20 1 rfl ?_
    have hin7 := h.1
    replace h := h.2
    refine raa2 C hj hin7 dX3_makeEmpty_21 ?_
    refine ww_cVg (As := []) (rest := []) C ok_X8_makeEmpty bw_236 dX3_makeEmpty_22 (cm_X8_makeEmpty (ra_lt hj hin7)) (rc_Row (ra_lt hj hin7)) rfl ⟨Nat.le_of_ble_eq_true rfl, Nat.le_of_ble_eq_true rfl⟩ (Nat.le_of_ble_eq_true rfl) (c2 := 0) (s2 := 0) rfl rfl ⟨Nat.le_of_ble_eq_true rfl, Nat.le_of_ble_eq_true rfl⟩ rfl (fun hTg => ?_)
    refine ww_nm (fun S8 e_S8 => ?_)
    replace h := h S8 e_S8
    have hT_S8 : S8.2.2.1 = T0 := by rw [e_S8, hTg]; exact hT
    obtain ⟨x9, e_x9⟩ : ∃ z : Int32, z = v1 + 1 := ⟨_, rfl⟩
    replace h := h x9 e_x9
    refine ww_iinc (v := x9) (lv2 := [(1, .int x9), (0, .ref (gad g (148 + j)))]) C dX3_makeEmpty_25 1 rfl (by rw [e_x9]; rfl) (Nat.le_of_ble_eq_true rfl) rfl ?_
    refine ww_goto (tgt := 7) C dX3_makeEmpty_28 (by decide) ?_
    exact ww_sub [1, 0] rfl (h hT_S8)
def wp_X3_makeEmpty (S : St) (j : Nat) (P : St → Prop) : Prop :=
  ∀ (X7 : St → Int32 → Prop), (∀ S v1, st_X3_makeEmpty_7 j P X7 S v1 → X7 S v1) → ∀ S10 : St, S10 = stM S 1 j 0 → X7 S10 0
set_option maxHeartbeats 4000000 in
set_option maxRecDepth 100000 in
theorem run_X3_makeEmpty {l : Launch} {g : Gx} {S : St} {j : Nat} {P : St → Prop} (hj : j < 2) (h : rowsLe S → wp_X3_makeEmpty S j P) : CMv g l yX3_makeEmpty cX3_makeEmpty 2 none rm_X3_makeEmpty [.ref (gad g (148 + j))] S P := cm_entry (own := RX3) (plainFor_of_name (by decide)) rfl (Nat.le_of_ble_eq_true rfl) rfl (fun hle f hf C hrt => by
  subst hf
  replace h := h hle
  obtain ⟨T0, hT⟩ : ∃ T, S.2.2.1 = T := ⟨_, rfl⟩
  rw [hT]
  replace h := h (at_X3_makeEmpty_7 f g T0 j P) (fun S v1 h => run_X3_makeEmpty_7 C hrt hj h)
  refine ww_aload_n C dX3_makeEmpty_0 0 rfl ?_
  refine ww_iconst (v := 0) C dX3_makeEmpty_1 (by decide) ?_
  refine pf_Font_glyphCount C (j := j) hj bw_201 dX3_makeEmpty_2 ?_
  refine ww_nm (fun S10 e_S10 => ?_)
  replace h := h S10 e_S10
  have hT_S10 : S10.2.2.1 = T0 := by rw [e_S10]; exact hT
  refine ww_iconst (v := 0) C dX3_makeEmpty_5 (by decide) ?_
  refine ww_istore_n (lv2 := [(1, .int 0), (0, .ref (gad g (148 + j)))]) C dX3_makeEmpty_6 rfl (Nat.le_of_ble_eq_true rfl) rfl ?_
  exact ww_sub [1, 0] rfl (h hT_S10))
