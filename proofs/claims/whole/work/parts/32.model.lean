abbrev rm_X11_add : Room := { frames := 0, cells := 0, slots := 0, locals := 0 }
theorem ok_X11_add : MOK yX11_add RX11 cX11_add 2 none 1 := ⟨bw_1083, bw_18, bw_69, bw_1084, by decide +kernel⟩
def wp_X11_add (S : St) (b : Int32) (P : St → Prop) : Prop :=
  (vp_in (S.2.1 9 3) (gw_ml 19) ∧ ∀ S3 : St, S3 = stM S 29 (S.2.1 9 3).toNatClampNeg (b &&& 255) → ∀ S4 : St, S4 = stM S3 9 3 ((S3.2.1 9 3) + 1) → P S4)
set_option maxHeartbeats 4000000 in
set_option maxRecDepth 100000 in
theorem run_X11_add {l : Launch} {g : Gx} {S : St} {b : Int32} {P : St → Prop}  (h : rowsLe S → wp_X11_add S b P) : CMv g l yX11_add cX11_add 2 none rm_X11_add [.ref (gad g 158), .int b] S P := cm_entry (own := RX11) (plainFor_of_name (by decide)) rfl (Nat.le_of_ble_eq_true rfl) rfl (fun hle f hf C hrt => by
  subst hf
  replace h := h hle
  obtain ⟨T0, hT⟩ : ∃ T, S.2.2.1 = T := ⟨_, rfl⟩
  rw [hT]
  unfold wp_X11_add at h
  refine ww_aload_n C dX11_add_0 0 rfl ?_
  refine gf_Model_buffer C bw_946 dX11_add_1 ?_
  refine ww_aload_n C dX11_add_4 0 rfl ?_
  refine gf_Model_buffered C bw_945 dX11_add_5 ?_
  refine ww_iload_n C dX11_add_8 1 rfl ?_
  refine ww_sipush (v := 255) C dX11_add_9 (by decide) ?_
  refine ww_iand C dX11_add_12 ?_
  refine is_m (a := 19) C (by decide) (by decide) h.1 dX11_add_13 ?_
  replace h := h.2
  refine ww_nm (fun S3 e_S3 => ?_)
  replace h := h S3 e_S3
  have hT_S3 : S3.2.2.1 = T0 := by rw [e_S3]; exact hT
  refine ww_aload_n C dX11_add_14 0 rfl ?_
  refine ww_dup C dX11_add_15 rfl ?_
  refine gf_Model_buffered C bw_945 dX11_add_16 ?_
  refine ww_iconst (v := 1) C dX11_add_19 (by decide) ?_
  refine ww_iadd C dX11_add_20 ?_
  refine pf_Model_buffered C bw_945 dX11_add_21 ?_
  refine ww_nm (fun S4 e_S4 => ?_)
  replace h := h S4 e_S4
  have hT_S4 : S4.2.2.1 = T0 := by rw [e_S4]; exact hT_S3
  exact ww_vret C hrt dX11_add_24 hT_S4 h)
abbrev rm_X11_addLong : Room := { frames := 1, cells := 0, slots := 0, locals := 21 }
theorem ok_X11_addLong : MOK yX11_addLong RX11 cX11_addLong 2 none 1 := ⟨bw_1150, bw_34, bw_69, bw_1151, by decide +kernel⟩
def wp_X11_addLong_43 (v : Int32) (S : St)  (P : St → Prop) : Prop :=
  wp_X11_add S (v - v / 128 * 128) (fun S9 => P S9)
set_option maxHeartbeats 4000000 in
set_option maxRecDepth 100000 in
theorem run_X11_addLong_43 {f : Fx} {g : Gx} {T0 : List (Nat × Nat × Nat)} {S : St} {v : Int32} {P : St → Prop} (C : Cx f g cX11_addLong 2 RX11) (hrt : (fmeth f).sig.returnType = none)   (hT : S.2.2.1 = T0)  (h : wp_X11_addLong_43 v S  P) : WW f rm_X11_addLong g 2 0 0 (Qv f g 0 0 T0 P) S 43 [(0, .ref (gad g 158)), (1, .int v)] [] := by
  unfold wp_X11_addLong_43 at h
  refine ww_aload_n C dX11_addLong_43 0 rfl ?_
  refine ww_iload_n C dX11_addLong_44 1 rfl ?_
  refine ww_sipush (v := 128) C dX11_addLong_45 (by decide) ?_
  refine ww_irem C dX11_addLong_48 (by decide) ?_
  refine ww_cVv (As := [.int (v - v / 128 * 128)]) (rest := []) C ok_X11_add bw_1081 dX11_addLong_49 (run_X11_add  (fun _ => h)) rc_Model rfl ⟨Nat.le_of_ble_eq_true rfl, Nat.le_of_ble_eq_true rfl⟩ (Nat.le_of_ble_eq_true rfl) (c2 := 0) (s2 := 0) rfl rfl ⟨Nat.le_of_ble_eq_true rfl, Nat.le_of_ble_eq_true rfl⟩ rfl (fun S9 hp hTg => ?_)
  replace h := hp
  have hT_S9 : S9.2.2.1 = T0 := by rw [hTg]; exact hT
  exact ww_vret C hrt dX11_addLong_52 hT_S9 h
def wp_X11_addLong_20 (v : Int32) (S : St)  (P : St → Prop) : Prop :=
  ((v ≤ 127 → wp_X11_addLong_43 v S  P) ∧ (¬ v ≤ 127 → wp_X11_add S (128 + ((v / 128) - (v / 128) / 128 * 128)) (fun S12 => wp_X11_addLong_43 v S12  P)))
set_option maxHeartbeats 4000000 in
set_option maxRecDepth 100000 in
theorem run_X11_addLong_20 {f : Fx} {g : Gx} {T0 : List (Nat × Nat × Nat)} {S : St} {v : Int32} {P : St → Prop} (C : Cx f g cX11_addLong 2 RX11) (hrt : (fmeth f).sig.returnType = none)   (hT : S.2.2.1 = T0)  (h : wp_X11_addLong_20 v S  P) : WW f rm_X11_addLong g 2 0 0 (Qv f g 0 0 T0 P) S 20 [(0, .ref (gad g 158)), (1, .int v)] [] := by
  unfold wp_X11_addLong_20 at h
  refine ww_iload_n C dX11_addLong_20 1 rfl ?_
  refine ww_bipush (v := 127) C dX11_addLong_21 (by decide) ?_
  refine ww_icmp_le (tgt := 43) C dX11_addLong_23 (by decide) (fun q11 => ?_) (fun q11 => ?_)
  · replace h := h.1 q11
    exact ww_sub [0, 1] rfl (run_X11_addLong_43 C hrt  hT  h)
  · replace h := h.2 q11
    refine ww_aload_n C dX11_addLong_26 0 rfl ?_
    refine ww_sipush (v := 128) C dX11_addLong_27 (by decide) ?_
    refine ww_iload_n C dX11_addLong_30 1 rfl ?_
    refine ww_sipush (v := 128) C dX11_addLong_31 (by decide) ?_
    refine ww_idiv C dX11_addLong_34 (by decide) ?_
    refine ww_sipush (v := 128) C dX11_addLong_35 (by decide) ?_
    refine ww_irem C dX11_addLong_38 (by decide) ?_
    refine ww_iadd C dX11_addLong_39 ?_
    refine ww_cVv (As := [.int (128 + ((v / 128) - (v / 128) / 128 * 128))]) (rest := []) C ok_X11_add bw_1081 dX11_addLong_40 (run_X11_add  (fun _ => h)) rc_Model rfl ⟨Nat.le_of_ble_eq_true rfl, Nat.le_of_ble_eq_true rfl⟩ (Nat.le_of_ble_eq_true rfl) (c2 := 0) (s2 := 0) rfl rfl ⟨Nat.le_of_ble_eq_true rfl, Nat.le_of_ble_eq_true rfl⟩ rfl (fun S12 hp hTg => ?_)
    replace h := hp
    have hT_S12 : S12.2.2.1 = T0 := by rw [hTg]; exact hT
    exact ww_sub [0, 1] rfl (run_X11_addLong_43 C hrt  hT_S12  h)
def wp_X11_addLong (S : St) (v : Int32) (P : St → Prop) : Prop :=
  ((v ≤ 16383 → wp_X11_addLong_20 v S  P) ∧ (¬ v ≤ 16383 → wp_X11_add S (128 + (v / 16384)) (fun S15 => wp_X11_addLong_20 v S15  P)))
set_option maxHeartbeats 4000000 in
set_option maxRecDepth 100000 in
theorem run_X11_addLong {l : Launch} {g : Gx} {S : St} {v : Int32} {P : St → Prop}  (h : rowsLe S → wp_X11_addLong S v P) : CMv g l yX11_addLong cX11_addLong 2 none rm_X11_addLong [.ref (gad g 158), .int v] S P := cm_entry (own := RX11) (plainFor_of_name (by decide)) rfl (Nat.le_of_ble_eq_true rfl) rfl (fun hle f hf C hrt => by
  subst hf
  replace h := h hle
  obtain ⟨T0, hT⟩ : ∃ T, S.2.2.1 = T := ⟨_, rfl⟩
  rw [hT]
  unfold wp_X11_addLong at h
  refine ww_iload_n C dX11_addLong_0 1 rfl ?_
  refine ww_sipush (v := 16383) C dX11_addLong_1 (by decide) ?_
  refine ww_icmp_le (tgt := 20) C dX11_addLong_4 (by decide) (fun q14 => ?_) (fun q14 => ?_)
  · replace h := h.1 q14
    exact ww_sub [0, 1] rfl (run_X11_addLong_20 C hrt  hT  h)
  · replace h := h.2 q14
    refine ww_aload_n C dX11_addLong_7 0 rfl ?_
    refine ww_sipush (v := 128) C dX11_addLong_8 (by decide) ?_
    refine ww_iload_n C dX11_addLong_11 1 rfl ?_
    refine ww_sipush (v := 16384) C dX11_addLong_12 (by decide) ?_
    refine ww_idiv C dX11_addLong_15 (by decide) ?_
    refine ww_iadd C dX11_addLong_16 ?_
    refine ww_cVv (As := [.int (128 + (v / 16384))]) (rest := []) C ok_X11_add bw_1081 dX11_addLong_17 (run_X11_add  (fun _ => h)) rc_Model rfl ⟨Nat.le_of_ble_eq_true rfl, Nat.le_of_ble_eq_true rfl⟩ (Nat.le_of_ble_eq_true rfl) (c2 := 0) (s2 := 0) rfl rfl ⟨Nat.le_of_ble_eq_true rfl, Nat.le_of_ble_eq_true rfl⟩ rfl (fun S15 hp hTg => ?_)
    replace h := hp
    have hT_S15 : S15.2.2.1 = T0 := by rw [hTg]; exact hT
    exact ww_sub [0, 1] rfl (run_X11_addLong_20 C hrt  hT_S15  h))
abbrev rm_X11_flow : Room := { frames := 0, cells := 0, slots := 0, locals := 0 }
theorem ok_X11_flow : MOK yX11_flow RX11 cX11_flow 2 none 1 := ⟨bw_1099, bw_22, bw_69, bw_1100, by decide +kernel⟩
def wp_X11_flow (S : St) (b : Int32) (P : St → Prop) : Prop :=
  (vp_in (S.2.1 9 4) (gw_ml 20) ∧ ∀ S3 : St, S3 = stM S 30 (S.2.1 9 4).toNatClampNeg (b &&& 255) → ∀ S4 : St, S4 = stM S3 9 4 ((S3.2.1 9 4) + 1) → P S4)
set_option maxHeartbeats 4000000 in
set_option maxRecDepth 100000 in
theorem run_X11_flow {l : Launch} {g : Gx} {S : St} {b : Int32} {P : St → Prop}  (h : rowsLe S → wp_X11_flow S b P) : CMv g l yX11_flow cX11_flow 2 none rm_X11_flow [.ref (gad g 158), .int b] S P := cm_entry (own := RX11) (plainFor_of_name (by decide)) rfl (Nat.le_of_ble_eq_true rfl) rfl (fun hle f hf C hrt => by
  subst hf
  replace h := h hle
  obtain ⟨T0, hT⟩ : ∃ T, S.2.2.1 = T := ⟨_, rfl⟩
  rw [hT]
  unfold wp_X11_flow at h
  refine ww_aload_n C dX11_flow_0 0 rfl ?_
  refine gf_Model_stream C bw_948 dX11_flow_1 ?_
  refine ww_aload_n C dX11_flow_4 0 rfl ?_
  refine gf_Model_streamed C bw_947 dX11_flow_5 ?_
  refine ww_iload_n C dX11_flow_8 1 rfl ?_
  refine ww_sipush (v := 255) C dX11_flow_9 (by decide) ?_
  refine ww_iand C dX11_flow_12 ?_
  refine is_m (a := 20) C (by decide) (by decide) h.1 dX11_flow_13 ?_
  replace h := h.2
  refine ww_nm (fun S3 e_S3 => ?_)
  replace h := h S3 e_S3
  have hT_S3 : S3.2.2.1 = T0 := by rw [e_S3]; exact hT
  refine ww_aload_n C dX11_flow_14 0 rfl ?_
  refine ww_dup C dX11_flow_15 rfl ?_
  refine gf_Model_streamed C bw_947 dX11_flow_16 ?_
  refine ww_iconst (v := 1) C dX11_flow_19 (by decide) ?_
  refine ww_iadd C dX11_flow_20 ?_
  refine pf_Model_streamed C bw_947 dX11_flow_21 ?_
  refine ww_nm (fun S4 e_S4 => ?_)
  replace h := h S4 e_S4
  have hT_S4 : S4.2.2.1 = T0 := by rw [e_S4]; exact hT_S3
  exact ww_vret C hrt dX11_flow_24 hT_S4 h)
abbrev rm_X11_flowShort : Room := { frames := 1, cells := 0, slots := 0, locals := 21 }
theorem ok_X11_flowShort : MOK yX11_flowShort RX11 cX11_flowShort 2 none 1 := ⟨bw_1103, bw_23, bw_69, bw_1104, by decide +kernel⟩
def wp_X11_flowShort_107 (v : Int32) (S : St) (s0 : Int32) (P : St → Prop) : Prop :=
  wp_X11_flow S s0 (fun S20 => P S20)
set_option maxHeartbeats 4000000 in
set_option maxRecDepth 100000 in
theorem run_X11_flowShort_107 {f : Fx} {g : Gx} {T0 : List (Nat × Nat × Nat)} {S : St} {v : Int32} {P : St → Prop} (C : Cx f g cX11_flowShort 2 RX11) (hrt : (fmeth f).sig.returnType = none)  {s0 : Int32} (hT : S.2.2.1 = T0)  (h : wp_X11_flowShort_107 v S s0 P) : WW f rm_X11_flowShort g 2 0 0 (Qv f g 0 0 T0 P) S 107 [] [.int s0, .ref (gad g 158)] := by
  unfold wp_X11_flowShort_107 at h
  refine ww_cVv (As := [.int s0]) (rest := []) C ok_X11_flow bw_1097 dX11_flowShort_107 (run_X11_flow  (fun _ => h)) rc_Model rfl ⟨Nat.le_of_ble_eq_true rfl, Nat.le_of_ble_eq_true rfl⟩ (Nat.le_of_ble_eq_true rfl) (c2 := 0) (s2 := 0) rfl rfl ⟨Nat.le_of_ble_eq_true rfl, Nat.le_of_ble_eq_true rfl⟩ rfl (fun S20 hp hTg => ?_)
  replace h := hp
  have hT_S20 : S20.2.2.1 = T0 := by rw [hTg]; exact hT
  exact ww_vret C hrt dX11_flowShort_110 hT_S20 h
def wp_X11_flowShort_64 (v : Int32) (S : St)  (P : St → Prop) : Prop :=
  ((v ≤ 761 → ((v ≤ 505 → ((v ≤ 252 → wp_X11_flowShort_107 v S v P) ∧ (¬ v ≤ 252 → wp_X11_flowShort_107 v S (v - 253) P))) ∧ (¬ v ≤ 505 → wp_X11_flowShort_107 v S (v - 506) P))) ∧ (¬ v ≤ 761 → wp_X11_flowShort_107 v S v P))
set_option maxHeartbeats 4000000 in
set_option maxRecDepth 100000 in
theorem run_X11_flowShort_64 {f : Fx} {g : Gx} {T0 : List (Nat × Nat × Nat)} {S : St} {v : Int32} {P : St → Prop} (C : Cx f g cX11_flowShort 2 RX11) (hrt : (fmeth f).sig.returnType = none)   (hT : S.2.2.1 = T0)  (h : wp_X11_flowShort_64 v S  P) : WW f rm_X11_flowShort g 2 0 0 (Qv f g 0 0 T0 P) S 64 [(0, .ref (gad g 158)), (1, .int v)] [] := by
  unfold wp_X11_flowShort_64 at h
  refine ww_aload_n C dX11_flowShort_64 0 rfl ?_
  refine ww_iload_n C dX11_flowShort_65 1 rfl ?_
  refine ww_sipush (v := 761) C dX11_flowShort_66 (by decide) ?_
  refine ww_icmp_le (tgt := 76) C dX11_flowShort_69 (by decide) (fun q22 => ?_) (fun q22 => ?_)
  · replace h := h.1 q22
    refine ww_iload_n C dX11_flowShort_76 1 rfl ?_
    refine ww_sipush (v := 505) C dX11_flowShort_77 (by decide) ?_
    refine ww_icmp_le (tgt := 91) C dX11_flowShort_80 (by decide) (fun q23 => ?_) (fun q23 => ?_)
    · replace h := h.1 q23
      refine ww_iload_n C dX11_flowShort_91 1 rfl ?_
      refine ww_sipush (v := 252) C dX11_flowShort_92 (by decide) ?_
      refine ww_icmp_le (tgt := 106) C dX11_flowShort_95 (by decide) (fun q24 => ?_) (fun q24 => ?_)
      · replace h := h.1 q24
        refine ww_iload_n C dX11_flowShort_106 1 rfl ?_
        exact ww_sub [] rfl (run_X11_flowShort_107 C hrt  hT  h)
      · replace h := h.2 q24
        refine ww_iload_n C dX11_flowShort_98 1 rfl ?_
        refine ww_sipush (v := 253) C dX11_flowShort_99 (by decide) ?_
        refine ww_isub C dX11_flowShort_102 ?_
        refine ww_goto (tgt := 107) C dX11_flowShort_103 (by decide) ?_
        exact ww_sub [] rfl (run_X11_flowShort_107 C hrt  hT  h)
    · replace h := h.2 q23
      refine ww_iload_n C dX11_flowShort_83 1 rfl ?_
      refine ww_sipush (v := 506) C dX11_flowShort_84 (by decide) ?_
      refine ww_isub C dX11_flowShort_87 ?_
      refine ww_goto (tgt := 107) C dX11_flowShort_88 (by decide) ?_
      exact ww_sub [] rfl (run_X11_flowShort_107 C hrt  hT  h)
  · replace h := h.2 q22
    refine ww_iload_n C dX11_flowShort_72 1 rfl ?_
    refine ww_goto (tgt := 107) C dX11_flowShort_73 (by decide) ?_
    exact ww_sub [] rfl (run_X11_flowShort_107 C hrt  hT  h)
def wp_X11_flowShort_48 (v : Int32) (S : St)  (P : St → Prop) : Prop :=
  ((v ≤ 761 → wp_X11_flowShort_64 v S  P) ∧ (¬ v ≤ 761 → wp_X11_flow S (v / 256) (fun S26 => wp_X11_flowShort_64 v S26  P)))
set_option maxHeartbeats 4000000 in
set_option maxRecDepth 100000 in
theorem run_X11_flowShort_48 {f : Fx} {g : Gx} {T0 : List (Nat × Nat × Nat)} {S : St} {v : Int32} {P : St → Prop} (C : Cx f g cX11_flowShort 2 RX11) (hrt : (fmeth f).sig.returnType = none)   (hT : S.2.2.1 = T0)  (h : wp_X11_flowShort_48 v S  P) : WW f rm_X11_flowShort g 2 0 0 (Qv f g 0 0 T0 P) S 48 [(0, .ref (gad g 158)), (1, .int v)] [] := by
  unfold wp_X11_flowShort_48 at h
  refine ww_iload_n C dX11_flowShort_48 1 rfl ?_
  refine ww_sipush (v := 761) C dX11_flowShort_49 (by decide) ?_
  refine ww_icmp_le (tgt := 64) C dX11_flowShort_52 (by decide) (fun q25 => ?_) (fun q25 => ?_)
  · replace h := h.1 q25
    exact ww_sub [0, 1] rfl (run_X11_flowShort_64 C hrt  hT  h)
  · replace h := h.2 q25
    refine ww_aload_n C dX11_flowShort_55 0 rfl ?_
    refine ww_iload_n C dX11_flowShort_56 1 rfl ?_
    refine ww_sipush (v := 256) C dX11_flowShort_57 (by decide) ?_
    refine ww_idiv C dX11_flowShort_60 (by decide) ?_
    refine ww_cVv (As := [.int (v / 256)]) (rest := []) C ok_X11_flow bw_1097 dX11_flowShort_61 (run_X11_flow  (fun _ => h)) rc_Model rfl ⟨Nat.le_of_ble_eq_true rfl, Nat.le_of_ble_eq_true rfl⟩ (Nat.le_of_ble_eq_true rfl) (c2 := 0) (s2 := 0) rfl rfl ⟨Nat.le_of_ble_eq_true rfl, Nat.le_of_ble_eq_true rfl⟩ rfl (fun S26 hp hTg => ?_)
    replace h := hp
    have hT_S26 : S26.2.2.1 = T0 := by rw [hTg]; exact hT
    exact ww_sub [0, 1] rfl (run_X11_flowShort_64 C hrt  hT_S26  h)
def wp_X11_flowShort (S : St) (v : Int32) (P : St → Prop) : Prop :=
  ((v ≤ 761 → ((v ≤ 505 → ((v ≤ 252 → wp_X11_flowShort_48 v S  P) ∧ (¬ v ≤ 252 → wp_X11_flow S 255 (fun S31 => wp_X11_flowShort_48 v S31  P)))) ∧ (¬ v ≤ 505 → wp_X11_flow S 254 (fun S33 => wp_X11_flowShort_48 v S33  P)))) ∧ (¬ v ≤ 761 → wp_X11_flow S 253 (fun S35 => wp_X11_flowShort_48 v S35  P)))
set_option maxHeartbeats 4000000 in
set_option maxRecDepth 100000 in
theorem run_X11_flowShort {l : Launch} {g : Gx} {S : St} {v : Int32} {P : St → Prop}  (h : rowsLe S → wp_X11_flowShort S v P) : CMv g l yX11_flowShort cX11_flowShort 2 none rm_X11_flowShort [.ref (gad g 158), .int v] S P := cm_entry (own := RX11) (plainFor_of_name (by decide)) rfl (Nat.le_of_ble_eq_true rfl) rfl (fun hle f hf C hrt => by
  subst hf
  replace h := h hle
  obtain ⟨T0, hT⟩ : ∃ T, S.2.2.1 = T := ⟨_, rfl⟩
  rw [hT]
  unfold wp_X11_flowShort at h
  refine ww_iload_n C dX11_flowShort_0 1 rfl ?_
  refine ww_sipush (v := 761) C dX11_flowShort_1 (by decide) ?_
  refine ww_icmp_le (tgt := 17) C dX11_flowShort_4 (by decide) (fun q28 => ?_) (fun q28 => ?_)
  · replace h := h.1 q28
    refine ww_iload_n C dX11_flowShort_17 1 rfl ?_
    refine ww_sipush (v := 505) C dX11_flowShort_18 (by decide) ?_
    refine ww_icmp_le (tgt := 34) C dX11_flowShort_21 (by decide) (fun q29 => ?_) (fun q29 => ?_)
    · replace h := h.1 q29
      refine ww_iload_n C dX11_flowShort_34 1 rfl ?_
      refine ww_sipush (v := 252) C dX11_flowShort_35 (by decide) ?_
      refine ww_icmp_le (tgt := 48) C dX11_flowShort_38 (by decide) (fun q30 => ?_) (fun q30 => ?_)
      · replace h := h.1 q30
        exact ww_sub [0, 1] rfl (run_X11_flowShort_48 C hrt  hT  h)
      · replace h := h.2 q30
        refine ww_aload_n C dX11_flowShort_41 0 rfl ?_
        refine ww_sipush (v := 255) C dX11_flowShort_42 (by decide) ?_
        refine ww_cVv (As := [.int 255]) (rest := []) C ok_X11_flow bw_1097 dX11_flowShort_45 (run_X11_flow  (fun _ => h)) rc_Model rfl ⟨Nat.le_of_ble_eq_true rfl, Nat.le_of_ble_eq_true rfl⟩ (Nat.le_of_ble_eq_true rfl) (c2 := 0) (s2 := 0) rfl rfl ⟨Nat.le_of_ble_eq_true rfl, Nat.le_of_ble_eq_true rfl⟩ rfl (fun S31 hp hTg => ?_)
        replace h := hp
        have hT_S31 : S31.2.2.1 = T0 := by rw [hTg]; exact hT
        exact ww_sub [0, 1] rfl (run_X11_flowShort_48 C hrt  hT_S31  h)
    · replace h := h.2 q29
      refine ww_aload_n C dX11_flowShort_24 0 rfl ?_
      refine ww_sipush (v := 254) C dX11_flowShort_25 (by decide) ?_
      refine ww_cVv (As := [.int 254]) (rest := []) C ok_X11_flow bw_1097 dX11_flowShort_28 (run_X11_flow  (fun _ => h)) rc_Model rfl ⟨Nat.le_of_ble_eq_true rfl, Nat.le_of_ble_eq_true rfl⟩ (Nat.le_of_ble_eq_true rfl) (c2 := 0) (s2 := 0) rfl rfl ⟨Nat.le_of_ble_eq_true rfl, Nat.le_of_ble_eq_true rfl⟩ rfl (fun S33 hp hTg => ?_)
      replace h := hp
      have hT_S33 : S33.2.2.1 = T0 := by rw [hTg]; exact hT
      refine ww_goto (tgt := 48) C dX11_flowShort_31 (by decide) ?_
      exact ww_sub [0, 1] rfl (run_X11_flowShort_48 C hrt  hT_S33  h)
  · replace h := h.2 q28
    refine ww_aload_n C dX11_flowShort_7 0 rfl ?_
    refine ww_sipush (v := 253) C dX11_flowShort_8 (by decide) ?_
    refine ww_cVv (As := [.int 253]) (rest := []) C ok_X11_flow bw_1097 dX11_flowShort_11 (run_X11_flow  (fun _ => h)) rc_Model rfl ⟨Nat.le_of_ble_eq_true rfl, Nat.le_of_ble_eq_true rfl⟩ (Nat.le_of_ble_eq_true rfl) (c2 := 0) (s2 := 0) rfl rfl ⟨Nat.le_of_ble_eq_true rfl, Nat.le_of_ble_eq_true rfl⟩ rfl (fun S35 hp hTg => ?_)
    replace h := hp
    have hT_S35 : S35.2.2.1 = T0 := by rw [hTg]; exact hT
    refine ww_goto (tgt := 48) C dX11_flowShort_14 (by decide) ?_
    exact ww_sub [0, 1] rfl (run_X11_flowShort_48 C hrt  hT_S35  h))
abbrev rm_X11_signOf : Room := { frames := 1, cells := 0, slots := 0, locals := 22 }
theorem ok_X11_signOf : MOK yX11_signOf RX11 cX11_signOf 10 (some .int) 2 := ⟨bw_1107, bw_24, bw_69, bw_1108, by decide +kernel⟩
def wp_X11_signOf_250 (q : Int32) (p : Int32) (S : St) (v7 : Int32) (v8 : Int32) (s0 : Int32) (P : Int32 → St → Prop) : Prop :=
  P ((s0 + v7) + (2 * v8)) S
set_option maxHeartbeats 4000000 in
set_option maxRecDepth 100000 in
theorem run_X11_signOf_250 {f : Fx} {g : Gx} {T0 : List (Nat × Nat × Nat)} {S : St} {q : Int32} {p : Int32} {P : Int32 → St → Prop} (C : Cx f g cX11_signOf 10 RX11) (hrt : (fmeth f).sig.returnType = (some .int))  {v7 : Int32} {v8 : Int32} {s0 : Int32} (hT : S.2.2.1 = T0)  (h : wp_X11_signOf_250 q p S v7 v8 s0 P) : WW f rm_X11_signOf g 10 0 0 (Qi f g 0 0 T0 P) S 250 [(7, .int v7), (8, .int v8)] [.int s0] := by
  unfold wp_X11_signOf_250 at h
  refine ww_iload C dX11_signOf_250 0 rfl ?_
  refine ww_iadd C dX11_signOf_252 ?_
  refine ww_iconst (v := 2) C dX11_signOf_253 (by decide) ?_
  refine ww_iload C dX11_signOf_254 1 rfl ?_
  refine ww_imul C dX11_signOf_256 ?_
  refine ww_iadd C dX11_signOf_257 ?_
  exact ww_iret C hrt dX11_signOf_258 hT h
def wp_X11_signOf_248 (q : Int32) (p : Int32) (S : St) (v7 : Int32) (v8 : Int32) (P : Int32 → St → Prop) : Prop :=
  wp_X11_signOf_250 q p S v7 v8 124 P
set_option maxHeartbeats 4000000 in
set_option maxRecDepth 100000 in
theorem run_X11_signOf_248 {f : Fx} {g : Gx} {T0 : List (Nat × Nat × Nat)} {S : St} {q : Int32} {p : Int32} {P : Int32 → St → Prop} (C : Cx f g cX11_signOf 10 RX11) (hrt : (fmeth f).sig.returnType = (some .int))  {v7 : Int32} {v8 : Int32} (hT : S.2.2.1 = T0)  (h : wp_X11_signOf_248 q p S v7 v8 P) : WW f rm_X11_signOf g 10 0 0 (Qi f g 0 0 T0 P) S 248 [(7, .int v7), (8, .int v8)] [] := by
  unfold wp_X11_signOf_248 at h
  refine ww_bipush (v := 124) C dX11_signOf_248 (by decide) ?_
  exact ww_sub [0, 1] rfl (run_X11_signOf_250 C hrt  hT  h)
def wp_X11_signOf_227 (q : Int32) (p : Int32) (S : St) (v5 : Int32) (v6 : Int32) (v7 : Int32) (v8 : Int32) (P : Int32 → St → Prop) : Prop :=
  ((4096 ≤ v5 → wp_X11_signOf_248 q p S v7 v8 P) ∧ (¬ 4096 ≤ v5 → ((4096 ≤ v6 → wp_X11_signOf_248 q p S v7 v8 P) ∧ (¬ 4096 ≤ v6 → wp_X11_signOf_250 q p S v7 v8 120 P))))
set_option maxHeartbeats 4000000 in
set_option maxRecDepth 100000 in
theorem run_X11_signOf_227 {f : Fx} {g : Gx} {T0 : List (Nat × Nat × Nat)} {S : St} {q : Int32} {p : Int32} {P : Int32 → St → Prop} (C : Cx f g cX11_signOf 10 RX11) (hrt : (fmeth f).sig.returnType = (some .int))  {v5 : Int32} {v6 : Int32} {v7 : Int32} {v8 : Int32} (hT : S.2.2.1 = T0)  (h : wp_X11_signOf_227 q p S v5 v6 v7 v8 P) : WW f rm_X11_signOf g 10 0 0 (Qi f g 0 0 T0 P) S 227 [(5, .int v5), (6, .int v6), (7, .int v7), (8, .int v8)] [] := by
  unfold wp_X11_signOf_227 at h
  refine ww_iload C dX11_signOf_227 0 rfl ?_
  refine ww_sipush (v := 4096) C dX11_signOf_229 (by decide) ?_
  refine ww_icmp_ge (tgt := 248) C dX11_signOf_232 (by decide) (fun q23 => ?_) (fun q23 => ?_)
  · replace h := h.1 q23
    exact ww_sub [2, 3] rfl (run_X11_signOf_248 C hrt  hT  h)
  · replace h := h.2 q23
    refine ww_iload C dX11_signOf_235 1 rfl ?_
    refine ww_sipush (v := 4096) C dX11_signOf_237 (by decide) ?_
    refine ww_icmp_ge (tgt := 248) C dX11_signOf_240 (by decide) (fun q24 => ?_) (fun q24 => ?_)
    · replace h := h.1 q24
      exact ww_sub [2, 3] rfl (run_X11_signOf_248 C hrt  hT  h)
    · replace h := h.2 q24
      refine ww_bipush (v := 120) C dX11_signOf_243 (by decide) ?_
      refine ww_goto (tgt := 250) C dX11_signOf_245 (by decide) ?_
      exact ww_sub [2, 3] rfl (run_X11_signOf_250 C hrt  hT  h)
def wp_X11_signOf_172 (q : Int32) (p : Int32) (S : St) (v5 : Int32) (v6 : Int32) (v7 : Int32) (v8 : Int32) (v9 : Int32) (P : Int32 → St → Prop) : Prop :=
  ((¬ v9 = 0 → wp_X11_signOf_227 q p S v5 v6 v7 v8 P) ∧ (v9 = 0 → ((769 ≤ v5 → wp_X11_signOf_227 q p S v5 v6 v7 v8 P) ∧ (¬ 769 ≤ v5 → ((769 ≤ v6 → wp_X11_signOf_227 q p S v5 v6 v7 v8 P) ∧ (¬ 769 ≤ v6 → P ((((84 + (((v5 - 1) / 256) * 12)) + (((v6 - 1) / 256) * 4)) + v7) + (2 * v8)) S))))))
set_option maxHeartbeats 4000000 in
set_option maxRecDepth 100000 in
theorem run_X11_signOf_172 {f : Fx} {g : Gx} {T0 : List (Nat × Nat × Nat)} {S : St} {q : Int32} {p : Int32} {P : Int32 → St → Prop} (C : Cx f g cX11_signOf 10 RX11) (hrt : (fmeth f).sig.returnType = (some .int))  {v5 : Int32} {v6 : Int32} {v7 : Int32} {v8 : Int32} {v9 : Int32} (hT : S.2.2.1 = T0)  (h : wp_X11_signOf_172 q p S v5 v6 v7 v8 v9 P) : WW f rm_X11_signOf g 10 0 0 (Qi f g 0 0 T0 P) S 172 [(5, .int v5), (6, .int v6), (7, .int v7), (8, .int v8), (9, .int v9)] [] := by
  unfold wp_X11_signOf_172 at h
  refine ww_iload C dX11_signOf_172 4 rfl ?_
  refine ww_if_ne (tgt := 227) C dX11_signOf_174 (by decide) (fun q25 => ?_) (fun q25 => ?_)
  · replace h := h.1 q25
    exact ww_sub [0, 1, 2, 3] rfl (run_X11_signOf_227 C hrt  hT  h)
  · replace h := h.2 q25
    refine ww_iload C dX11_signOf_177 0 rfl ?_
    refine ww_sipush (v := 769) C dX11_signOf_179 (by decide) ?_
    refine ww_icmp_ge (tgt := 227) C dX11_signOf_182 (by decide) (fun q26 => ?_) (fun q26 => ?_)
    · replace h := h.1 q26
      exact ww_sub [0, 1, 2, 3] rfl (run_X11_signOf_227 C hrt  hT  h)
    · replace h := h.2 q26
      refine ww_iload C dX11_signOf_185 1 rfl ?_
      refine ww_sipush (v := 769) C dX11_signOf_187 (by decide) ?_
      refine ww_icmp_ge (tgt := 227) C dX11_signOf_190 (by decide) (fun q27 => ?_) (fun q27 => ?_)
      · replace h := h.1 q27
        exact ww_sub [0, 1, 2, 3] rfl (run_X11_signOf_227 C hrt  hT  h)
      · replace h := h.2 q27
        refine ww_bipush (v := 84) C dX11_signOf_193 (by decide) ?_
        refine ww_iload C dX11_signOf_195 0 rfl ?_
        refine ww_iconst (v := 1) C dX11_signOf_197 (by decide) ?_
        refine ww_isub C dX11_signOf_198 ?_
        refine ww_sipush (v := 256) C dX11_signOf_199 (by decide) ?_
        refine ww_idiv C dX11_signOf_202 (by decide) ?_
        refine ww_bipush (v := 12) C dX11_signOf_203 (by decide) ?_
        refine ww_imul C dX11_signOf_205 ?_
        refine ww_iadd C dX11_signOf_206 ?_
        refine ww_iload C dX11_signOf_207 1 rfl ?_
        refine ww_iconst (v := 1) C dX11_signOf_209 (by decide) ?_
        refine ww_isub C dX11_signOf_210 ?_
        refine ww_sipush (v := 256) C dX11_signOf_211 (by decide) ?_
        refine ww_idiv C dX11_signOf_214 (by decide) ?_
        refine ww_iconst (v := 4) C dX11_signOf_215 (by decide) ?_
        refine ww_imul C dX11_signOf_216 ?_
        refine ww_iadd C dX11_signOf_217 ?_
        refine ww_iload C dX11_signOf_218 2 rfl ?_
        refine ww_iadd C dX11_signOf_220 ?_
        refine ww_iconst (v := 2) C dX11_signOf_221 (by decide) ?_
        refine ww_iload C dX11_signOf_222 3 rfl ?_
        refine ww_imul C dX11_signOf_224 ?_
        refine ww_iadd C dX11_signOf_225 ?_
        exact ww_iret C hrt dX11_signOf_226 hT h
def wp_X11_signOf_119 (q : Int32) (p : Int32) (S : St) (v5 : Int32) (v6 : Int32) (v7 : Int32) (v8 : Int32) (s0 : Int32) (P : Int32 → St → Prop) : Prop :=
  ((¬ s0 = 0 → wp_X11_signOf_172 q p S v5 v6 v7 v8 s0 P) ∧ (s0 = 0 → ((65 ≤ v5 → wp_X11_signOf_172 q p S v5 v6 v7 v8 s0 P) ∧ (¬ 65 ≤ v5 → ((65 ≤ v6 → wp_X11_signOf_172 q p S v5 v6 v7 v8 s0 P) ∧ (¬ 65 ≤ v6 → P ((((20 + (((v5 - 1) / 16) * 16)) + (((v6 - 1) / 16) * 4)) + v7) + (2 * v8)) S))))))
set_option maxHeartbeats 4000000 in
set_option maxRecDepth 100000 in
theorem run_X11_signOf_119 {f : Fx} {g : Gx} {T0 : List (Nat × Nat × Nat)} {S : St} {q : Int32} {p : Int32} {P : Int32 → St → Prop} (C : Cx f g cX11_signOf 10 RX11) (hrt : (fmeth f).sig.returnType = (some .int))  {v5 : Int32} {v6 : Int32} {v7 : Int32} {v8 : Int32} {s0 : Int32} (hT : S.2.2.1 = T0)  (h : wp_X11_signOf_119 q p S v5 v6 v7 v8 s0 P) : WW f rm_X11_signOf g 10 0 0 (Qi f g 0 0 T0 P) S 119 [(5, .int v5), (6, .int v6), (7, .int v7), (8, .int v8)] [.int s0] := by
  unfold wp_X11_signOf_119 at h
  refine ww_istore (lv2 := [(9, .int s0), (5, .int v5), (6, .int v6), (7, .int v7), (8, .int v8)]) C dX11_signOf_119 (Nat.le_of_ble_eq_true rfl) rfl ?_
  refine ww_iload C dX11_signOf_121 0 rfl ?_
  refine ww_if_ne (tgt := 172) C dX11_signOf_123 (by decide) (fun q28 => ?_) (fun q28 => ?_)
  · replace h := h.1 q28
    exact ww_sub [1, 2, 3, 4, 0] rfl (run_X11_signOf_172 C hrt  hT  h)
  · replace h := h.2 q28
    refine ww_iload C dX11_signOf_126 1 rfl ?_
    refine ww_bipush (v := 65) C dX11_signOf_128 (by decide) ?_
    refine ww_icmp_ge (tgt := 172) C dX11_signOf_130 (by decide) (fun q29 => ?_) (fun q29 => ?_)
    · replace h := h.1 q29
      exact ww_sub [1, 2, 3, 4, 0] rfl (run_X11_signOf_172 C hrt  hT  h)
    · replace h := h.2 q29
      refine ww_iload C dX11_signOf_133 2 rfl ?_
      refine ww_bipush (v := 65) C dX11_signOf_135 (by decide) ?_
      refine ww_icmp_ge (tgt := 172) C dX11_signOf_137 (by decide) (fun q30 => ?_) (fun q30 => ?_)
      · replace h := h.1 q30
        exact ww_sub [1, 2, 3, 4, 0] rfl (run_X11_signOf_172 C hrt  hT  h)
      · replace h := h.2 q30
        refine ww_bipush (v := 20) C dX11_signOf_140 (by decide) ?_
        refine ww_iload C dX11_signOf_142 1 rfl ?_
        refine ww_iconst (v := 1) C dX11_signOf_144 (by decide) ?_
        refine ww_isub C dX11_signOf_145 ?_
        refine ww_bipush (v := 16) C dX11_signOf_146 (by decide) ?_
        refine ww_idiv C dX11_signOf_148 (by decide) ?_
        refine ww_bipush (v := 16) C dX11_signOf_149 (by decide) ?_
        refine ww_imul C dX11_signOf_151 ?_
        refine ww_iadd C dX11_signOf_152 ?_
        refine ww_iload C dX11_signOf_153 2 rfl ?_
        refine ww_iconst (v := 1) C dX11_signOf_155 (by decide) ?_
        refine ww_isub C dX11_signOf_156 ?_
        refine ww_bipush (v := 16) C dX11_signOf_157 (by decide) ?_
        refine ww_idiv C dX11_signOf_159 (by decide) ?_
        refine ww_iconst (v := 4) C dX11_signOf_160 (by decide) ?_
        refine ww_imul C dX11_signOf_161 ?_
        refine ww_iadd C dX11_signOf_162 ?_
        refine ww_iload C dX11_signOf_163 3 rfl ?_
        refine ww_iadd C dX11_signOf_165 ?_
        refine ww_iconst (v := 2) C dX11_signOf_166 (by decide) ?_
        refine ww_iload C dX11_signOf_167 4 rfl ?_
        refine ww_imul C dX11_signOf_169 ?_
        refine ww_iadd C dX11_signOf_170 ?_
        exact ww_iret C hrt dX11_signOf_171 hT h
def wp_X11_signOf_114 (q : Int32) (p : Int32) (S : St) (v5 : Int32) (v6 : Int32) (v7 : Int32) (v8 : Int32) (P : Int32 → St → Prop) : Prop :=
  wp_X11_signOf_119 q p S v5 v6 v7 v8 1 P
set_option maxHeartbeats 4000000 in
set_option maxRecDepth 100000 in
theorem run_X11_signOf_114 {f : Fx} {g : Gx} {T0 : List (Nat × Nat × Nat)} {S : St} {q : Int32} {p : Int32} {P : Int32 → St → Prop} (C : Cx f g cX11_signOf 10 RX11) (hrt : (fmeth f).sig.returnType = (some .int))  {v5 : Int32} {v6 : Int32} {v7 : Int32} {v8 : Int32} (hT : S.2.2.1 = T0)  (h : wp_X11_signOf_114 q p S v5 v6 v7 v8 P) : WW f rm_X11_signOf g 10 0 0 (Qi f g 0 0 T0 P) S 114 [(5, .int v5), (6, .int v6), (7, .int v7), (8, .int v8)] [] := by
  unfold wp_X11_signOf_114 at h
  refine ww_iconst (v := 1) C dX11_signOf_114 (by decide) ?_
  refine ww_goto (tgt := 119) C dX11_signOf_115 (by decide) ?_
  exact ww_sub [0, 1, 2, 3] rfl (run_X11_signOf_119 C hrt  hT  h)
def wp_X11_signOf_104 (q : Int32) (p : Int32) (S : St) (v5 : Int32) (v6 : Int32) (v7 : Int32) (v8 : Int32) (P : Int32 → St → Prop) : Prop :=
  ((v5 = 0 → wp_X11_signOf_114 q p S v5 v6 v7 v8 P) ∧ (¬ v5 = 0 → ((¬ v6 = 0 → wp_X11_signOf_119 q p S v5 v6 v7 v8 0 P) ∧ (v6 = 0 → wp_X11_signOf_114 q p S v5 v6 v7 v8 P))))
set_option maxHeartbeats 4000000 in
set_option maxRecDepth 100000 in
theorem run_X11_signOf_104 {f : Fx} {g : Gx} {T0 : List (Nat × Nat × Nat)} {S : St} {q : Int32} {p : Int32} {P : Int32 → St → Prop} (C : Cx f g cX11_signOf 10 RX11) (hrt : (fmeth f).sig.returnType = (some .int))  {v5 : Int32} {v6 : Int32} {v7 : Int32} {v8 : Int32} (hT : S.2.2.1 = T0)  (h : wp_X11_signOf_104 q p S v5 v6 v7 v8 P) : WW f rm_X11_signOf g 10 0 0 (Qi f g 0 0 T0 P) S 104 [(5, .int v5), (6, .int v6), (7, .int v7), (8, .int v8)] [] := by
  unfold wp_X11_signOf_104 at h
  refine ww_iload C dX11_signOf_104 0 rfl ?_
  refine ww_if_eq (tgt := 114) C dX11_signOf_106 (by decide) (fun q31 => ?_) (fun q31 => ?_)
  · replace h := h.1 q31
    exact ww_sub [0, 1, 2, 3] rfl (run_X11_signOf_114 C hrt  hT  h)
  · replace h := h.2 q31
    refine ww_iload C dX11_signOf_109 1 rfl ?_
    refine ww_if_ne (tgt := 118) C dX11_signOf_111 (by decide) (fun q32 => ?_) (fun q32 => ?_)
    · replace h := h.1 q32
      refine ww_iconst (v := 0) C dX11_signOf_118 (by decide) ?_
      exact ww_sub [0, 1, 2, 3] rfl (run_X11_signOf_119 C hrt  hT  h)
    · replace h := h.2 q32
      exact ww_sub [0, 1, 2, 3] rfl (run_X11_signOf_114 C hrt  hT  h)
def wp_X11_signOf_76 (q : Int32) (p : Int32) (S : St) (v5 : Int32) (v6 : Int32) (v7 : Int32) (v8 : Int32) (P : Int32 → St → Prop) : Prop :=
  ((¬ v6 = 0 → wp_X11_signOf_104 q p S v5 v6 v7 v8 P) ∧ (v6 = 0 → ((1280 ≤ v5 → wp_X11_signOf_104 q p S v5 v6 v7 v8 P) ∧ (¬ 1280 ≤ v5 → P ((10 + ((v5 / 256) * 2)) + v7) S))))
set_option maxHeartbeats 4000000 in
set_option maxRecDepth 100000 in
theorem run_X11_signOf_76 {f : Fx} {g : Gx} {T0 : List (Nat × Nat × Nat)} {S : St} {q : Int32} {p : Int32} {P : Int32 → St → Prop} (C : Cx f g cX11_signOf 10 RX11) (hrt : (fmeth f).sig.returnType = (some .int))  {v5 : Int32} {v6 : Int32} {v7 : Int32} {v8 : Int32} (hT : S.2.2.1 = T0)  (h : wp_X11_signOf_76 q p S v5 v6 v7 v8 P) : WW f rm_X11_signOf g 10 0 0 (Qi f g 0 0 T0 P) S 76 [(5, .int v5), (6, .int v6), (7, .int v7), (8, .int v8)] [] := by
  unfold wp_X11_signOf_76 at h
  refine ww_iload C dX11_signOf_76 1 rfl ?_
  refine ww_if_ne (tgt := 104) C dX11_signOf_78 (by decide) (fun q33 => ?_) (fun q33 => ?_)
  · replace h := h.1 q33
    exact ww_sub [0, 1, 2, 3] rfl (run_X11_signOf_104 C hrt  hT  h)
  · replace h := h.2 q33
    refine ww_iload C dX11_signOf_81 0 rfl ?_
    refine ww_sipush (v := 1280) C dX11_signOf_83 (by decide) ?_
    refine ww_icmp_ge (tgt := 104) C dX11_signOf_86 (by decide) (fun q34 => ?_) (fun q34 => ?_)
    · replace h := h.1 q34
      exact ww_sub [0, 1, 2, 3] rfl (run_X11_signOf_104 C hrt  hT  h)
    · replace h := h.2 q34
      refine ww_bipush (v := 10) C dX11_signOf_89 (by decide) ?_
      refine ww_iload C dX11_signOf_91 0 rfl ?_
      refine ww_sipush (v := 256) C dX11_signOf_93 (by decide) ?_
      refine ww_idiv C dX11_signOf_96 (by decide) ?_
      refine ww_iconst (v := 2) C dX11_signOf_97 (by decide) ?_
      refine ww_imul C dX11_signOf_98 ?_
      refine ww_iadd C dX11_signOf_99 ?_
      refine ww_iload C dX11_signOf_100 2 rfl ?_
      refine ww_iadd C dX11_signOf_102 ?_
      exact ww_iret C hrt dX11_signOf_103 hT h
def wp_X11_signOf_49 (q : Int32) (p : Int32) (S : St) (v5 : Int32) (v6 : Int32) (v7 : Int32) (s0 : Int32) (P : Int32 → St → Prop) : Prop :=
  ((¬ v5 = 0 → wp_X11_signOf_76 q p S v5 v6 v7 s0 P) ∧ (v5 = 0 → ((1280 ≤ v6 → wp_X11_signOf_76 q p S v5 v6 v7 s0 P) ∧ (¬ 1280 ≤ v6 → P (((v6 / 256) * 2) + s0) S))))
set_option maxHeartbeats 4000000 in
set_option maxRecDepth 100000 in
theorem run_X11_signOf_49 {f : Fx} {g : Gx} {T0 : List (Nat × Nat × Nat)} {S : St} {q : Int32} {p : Int32} {P : Int32 → St → Prop} (C : Cx f g cX11_signOf 10 RX11) (hrt : (fmeth f).sig.returnType = (some .int))  {v5 : Int32} {v6 : Int32} {v7 : Int32} {s0 : Int32} (hT : S.2.2.1 = T0)  (h : wp_X11_signOf_49 q p S v5 v6 v7 s0 P) : WW f rm_X11_signOf g 10 0 0 (Qi f g 0 0 T0 P) S 49 [(5, .int v5), (6, .int v6), (7, .int v7)] [.int s0] := by
  unfold wp_X11_signOf_49 at h
  refine ww_istore (lv2 := [(8, .int s0), (5, .int v5), (6, .int v6), (7, .int v7)]) C dX11_signOf_49 (Nat.le_of_ble_eq_true rfl) rfl ?_
  refine ww_iload C dX11_signOf_51 1 rfl ?_
  refine ww_if_ne (tgt := 76) C dX11_signOf_53 (by decide) (fun q35 => ?_) (fun q35 => ?_)
  · replace h := h.1 q35
    exact ww_sub [1, 2, 3, 0] rfl (run_X11_signOf_76 C hrt  hT  h)
  · replace h := h.2 q35
    refine ww_iload C dX11_signOf_56 2 rfl ?_
    refine ww_sipush (v := 1280) C dX11_signOf_58 (by decide) ?_
    refine ww_icmp_ge (tgt := 76) C dX11_signOf_61 (by decide) (fun q36 => ?_) (fun q36 => ?_)
    · replace h := h.1 q36
      exact ww_sub [1, 2, 3, 0] rfl (run_X11_signOf_76 C hrt  hT  h)
    · replace h := h.2 q36
      refine ww_iload C dX11_signOf_64 2 rfl ?_
      refine ww_sipush (v := 256) C dX11_signOf_66 (by decide) ?_
      refine ww_idiv C dX11_signOf_69 (by decide) ?_
      refine ww_iconst (v := 2) C dX11_signOf_70 (by decide) ?_
      refine ww_imul C dX11_signOf_71 ?_
      refine ww_iload C dX11_signOf_72 0 rfl ?_
      refine ww_iadd C dX11_signOf_74 ?_
      exact ww_iret C hrt dX11_signOf_75 hT h
def wp_X11_signOf_37 (q : Int32) (p : Int32) (S : St) (v4 : Int32) (v5 : Int32) (v6 : Int32) (s0 : Int32) (P : Int32 → St → Prop) : Prop :=
  ((v4 < 0 → wp_X11_signOf_49 q p S v5 v6 s0 0 P) ∧ (¬ v4 < 0 → wp_X11_signOf_49 q p S v5 v6 s0 1 P))
set_option maxHeartbeats 4000000 in
set_option maxRecDepth 100000 in
theorem run_X11_signOf_37 {f : Fx} {g : Gx} {T0 : List (Nat × Nat × Nat)} {S : St} {q : Int32} {p : Int32} {P : Int32 → St → Prop} (C : Cx f g cX11_signOf 10 RX11) (hrt : (fmeth f).sig.returnType = (some .int))  {v4 : Int32} {v5 : Int32} {v6 : Int32} {s0 : Int32} (hT : S.2.2.1 = T0)  (h : wp_X11_signOf_37 q p S v4 v5 v6 s0 P) : WW f rm_X11_signOf g 10 0 0 (Qi f g 0 0 T0 P) S 37 [(4, .int v4), (5, .int v5), (6, .int v6)] [.int s0] := by
  unfold wp_X11_signOf_37 at h
  refine ww_istore (lv2 := [(7, .int s0), (4, .int v4), (5, .int v5), (6, .int v6)]) C dX11_signOf_37 (Nat.le_of_ble_eq_true rfl) rfl ?_
  refine ww_iload C dX11_signOf_39 1 rfl ?_
  refine ww_if_lt (tgt := 48) C dX11_signOf_41 (by decide) (fun q37 => ?_) (fun q37 => ?_)
  · replace h := h.1 q37
    refine ww_iconst (v := 0) C dX11_signOf_48 (by decide) ?_
    exact ww_sub [2, 3, 0] rfl (run_X11_signOf_49 C hrt  hT  h)
  · replace h := h.2 q37
    refine ww_iconst (v := 1) C dX11_signOf_44 (by decide) ?_
    refine ww_goto (tgt := 49) C dX11_signOf_45 (by decide) ?_
    exact ww_sub [2, 3, 0] rfl (run_X11_signOf_49 C hrt  hT  h)
def wp_X11_signOf (S : St) (q : Int32) (p : Int32) (P : Int32 → St → Prop) : Prop :=
  wp_X11_stepX S q p (fun r39 S38 => wp_X11_stepY S38 q p (fun r41 S40 => ∀ x42 : Int32, x42 = fv_X11_abs S40 r39 → ∀ x43 : Int32, x43 = fv_X11_abs S40 r41 → ((r39 < 0 → wp_X11_signOf_37 q p S40 r41 x42 x43 0 P) ∧ (¬ r39 < 0 → wp_X11_signOf_37 q p S40 r41 x42 x43 1 P))))
set_option maxHeartbeats 4000000 in
set_option maxRecDepth 100000 in
theorem run_X11_signOf {l : Launch} {g : Gx} {S : St} {q : Int32} {p : Int32} {P : Int32 → St → Prop}  (h : rowsLe S → wp_X11_signOf S q p P) : CMi g l yX11_signOf cX11_signOf 10 (some .int) rm_X11_signOf [.ref (gad g 158), .int q, .int p] S P := cm_entry (own := RX11) (plainFor_of_name (by decide)) rfl (Nat.le_of_ble_eq_true rfl) rfl (fun hle f hf C hrt => by
  subst hf
  replace h := h hle
  obtain ⟨T0, hT⟩ : ∃ T, S.2.2.1 = T := ⟨_, rfl⟩
  rw [hT]
  unfold wp_X11_signOf at h
  refine ww_aload_n C dX11_signOf_0 0 rfl ?_
  refine ww_iload_n C dX11_signOf_1 1 rfl ?_
  refine ww_iload_n C dX11_signOf_2 2 rfl ?_
  refine ww_cVi (As := [.int q, .int p]) (rest := []) C ok_X11_stepX bw_1109 dX11_signOf_3 (run_X11_stepX  (fun _ => h)) rc_Model rfl ⟨Nat.le_of_ble_eq_true rfl, Nat.le_of_ble_eq_true rfl⟩ (Nat.le_of_ble_eq_true rfl) (c2 := 0) (s2 := 0) rfl rfl ⟨Nat.le_of_ble_eq_true rfl, Nat.le_of_ble_eq_true rfl⟩ rfl (fun r39 S38 hp hTg => ?_)
  replace h := hp
  have hT_S38 : S38.2.2.1 = T0 := by rw [hTg]; exact hT
  refine ww_istore_n (lv2 := [(3, .int r39), (0, .ref (gad g 158)), (1, .int q), (2, .int p)]) C dX11_signOf_6 rfl (Nat.le_of_ble_eq_true rfl) rfl ?_
  refine ww_aload_n C dX11_signOf_7 1 rfl ?_
  refine ww_iload_n C dX11_signOf_8 2 rfl ?_
  refine ww_iload_n C dX11_signOf_9 3 rfl ?_
  refine ww_cVi (As := [.int q, .int p]) (rest := []) C ok_X11_stepY bw_1113 dX11_signOf_10 (run_X11_stepY  (fun _ => h)) rc_Model rfl ⟨Nat.le_of_ble_eq_true rfl, Nat.le_of_ble_eq_true rfl⟩ (Nat.le_of_ble_eq_true rfl) (c2 := 0) (s2 := 0) rfl rfl ⟨Nat.le_of_ble_eq_true rfl, Nat.le_of_ble_eq_true rfl⟩ rfl (fun r41 S40 hp hTg => ?_)
  replace h := hp
  have hT_S40 : S40.2.2.1 = T0 := by rw [hTg]; exact hT_S38
  refine ww_istore (lv2 := [(4, .int r41), (3, .int r39), (0, .ref (gad g 158)), (1, .int q), (2, .int p)]) C dX11_signOf_13 (Nat.le_of_ble_eq_true rfl) rfl ?_
  refine ww_iload_n C dX11_signOf_15 1 rfl ?_
  refine ww_cSf (As := [.int r39]) (rest := []) C ok_X11_abs bw_1117 dX11_signOf_16 cm_X11_abs rfl ⟨Nat.le_of_ble_eq_true rfl, Nat.le_of_ble_eq_true rfl⟩ (Nat.le_of_ble_eq_true rfl) (c2 := 0) (s2 := 0) rfl rfl ⟨Nat.le_of_ble_eq_true rfl, Nat.le_of_ble_eq_true rfl⟩ rfl ?_
  refine ww_topi (fun x42 e_x42 => ?_)
  replace h := h x42 e_x42
  refine ww_istore (lv2 := [(5, .int x42), (4, .int r41), (3, .int r39), (0, .ref (gad g 158)), (1, .int q), (2, .int p)]) C dX11_signOf_19 (Nat.le_of_ble_eq_true rfl) rfl ?_
  refine ww_iload C dX11_signOf_21 1 rfl ?_
  refine ww_cSf (As := [.int r41]) (rest := []) C ok_X11_abs bw_1117 dX11_signOf_23 cm_X11_abs rfl ⟨Nat.le_of_ble_eq_true rfl, Nat.le_of_ble_eq_true rfl⟩ (Nat.le_of_ble_eq_true rfl) (c2 := 0) (s2 := 0) rfl rfl ⟨Nat.le_of_ble_eq_true rfl, Nat.le_of_ble_eq_true rfl⟩ rfl ?_
  refine ww_topi (fun x43 e_x43 => ?_)
  replace h := h x43 e_x43
  refine ww_istore (lv2 := [(6, .int x43), (5, .int x42), (4, .int r41), (3, .int r39), (0, .ref (gad g 158)), (1, .int q), (2, .int p)]) C dX11_signOf_26 (Nat.le_of_ble_eq_true rfl) rfl ?_
  refine ww_iload_n C dX11_signOf_28 3 rfl ?_
  refine ww_if_lt (tgt := 36) C dX11_signOf_29 (by decide) (fun q44 => ?_) (fun q44 => ?_)
  · replace h := h.1 q44
    refine ww_iconst (v := 0) C dX11_signOf_36 (by decide) ?_
    exact ww_sub [2, 1, 0] rfl (run_X11_signOf_37 C hrt  hT_S40  h)
  · replace h := h.2 q44
    refine ww_iconst (v := 1) C dX11_signOf_32 (by decide) ?_
    refine ww_goto (tgt := 37) C dX11_signOf_33 (by decide) ?_
    exact ww_sub [2, 1, 0] rfl (run_X11_signOf_37 C hrt  hT_S40  h))
abbrev rm_X11_flowStep : Room := { frames := 2, cells := 0, slots := 0, locals := 51 }
theorem ok_X11_flowStep : MOK yX11_flowStep RX11 cX11_flowStep 6 none 2 := ⟨bw_1122, bw_27, bw_69, bw_1123, by decide +kernel⟩
def wp_X11_flowStep_194 (q : Int32) (p : Int32) (S : St)  (P : St → Prop) : Prop :=
  P S
set_option maxHeartbeats 4000000 in
set_option maxRecDepth 100000 in
theorem run_X11_flowStep_194 {f : Fx} {g : Gx} {T0 : List (Nat × Nat × Nat)} {S : St} {q : Int32} {p : Int32} {P : St → Prop} (C : Cx f g cX11_flowStep 6 RX11) (hrt : (fmeth f).sig.returnType = none)   (hT : S.2.2.1 = T0)  (h : wp_X11_flowStep_194 q p S  P) : WW f rm_X11_flowStep g 6 0 0 (Qv f g 0 0 T0 P) S 194 [] [] := by
  unfold wp_X11_flowStep_194 at h
  exact ww_vret C hrt dX11_flowStep_194 hT h
def wp_X11_flowStep_49 (q : Int32) (p : Int32) (S : St) (s0 : Int32) (P : St → Prop) : Prop :=
  wp_X11_flow S s0 (fun S36 => wp_X11_flowStep_194 q p S36  P)
set_option maxHeartbeats 4000000 in
set_option maxRecDepth 100000 in
theorem run_X11_flowStep_49 {f : Fx} {g : Gx} {T0 : List (Nat × Nat × Nat)} {S : St} {q : Int32} {p : Int32} {P : St → Prop} (C : Cx f g cX11_flowStep 6 RX11) (hrt : (fmeth f).sig.returnType = none)  {s0 : Int32} (hT : S.2.2.1 = T0)  (h : wp_X11_flowStep_49 q p S s0 P) : WW f rm_X11_flowStep g 6 0 0 (Qv f g 0 0 T0 P) S 49 [] [.int s0, .ref (gad g 158)] := by
  unfold wp_X11_flowStep_49 at h
  refine ww_cVv (As := [.int s0]) (rest := []) C ok_X11_flow bw_1097 dX11_flowStep_49 (run_X11_flow  (fun _ => h)) rc_Model rfl ⟨Nat.le_of_ble_eq_true rfl, Nat.le_of_ble_eq_true rfl⟩ (Nat.le_of_ble_eq_true rfl) (c2 := 0) (s2 := 0) rfl rfl ⟨Nat.le_of_ble_eq_true rfl, Nat.le_of_ble_eq_true rfl⟩ rfl (fun S36 hp hTg => ?_)
  replace h := hp
  have hT_S36 : S36.2.2.1 = T0 := by rw [hTg]; exact hT
  refine ww_goto (tgt := 194) C dX11_flowStep_52 (by decide) ?_
  exact ww_sub [] rfl (run_X11_flowStep_194 C hrt  hT_S36  h)
def wp_X11_flowStep (S : St) (q : Int32) (p : Int32) (P : St → Prop) : Prop :=
  wp_X11_signOf S q p (fun r39 S38 => wp_X11_stepX S38 q p (fun r41 S40 => ∀ x42 : Int32, x42 = fv_X11_abs S40 r41 → wp_X11_stepY S40 q p (fun r44 S43 => ∀ x45 : Int32, x45 = fv_X11_abs S43 r44 → ((20 ≤ r39 → ((84 ≤ r39 → ((120 ≤ r39 → ((124 ≤ r39 → wp_X11_flow S43 (x42 / 256) (fun S50 => wp_X11_flow S50 x42 (fun S52 => wp_X11_flow S52 (x45 / 256) (fun S54 => wp_X11_flow S54 x45 (fun S56 => wp_X11_flowStep_194 q p S56  P))))) ∧ (¬ 124 ≤ r39 → wp_X11_flow S43 (x42 / 16) (fun S58 => wp_X11_flow S58 (((x42 - x42 / 16 * 16) * 16) + (x45 / 256)) (fun S60 => wp_X11_flow S60 x45 (fun S62 => wp_X11_flowStep_194 q p S62  P)))))) ∧ (¬ 120 ≤ r39 → wp_X11_flow S43 ((x42 - 1) - (x42 - 1) / 256 * 256) (fun S64 => wp_X11_flow S64 ((x45 - 1) - (x45 - 1) / 256 * 256) (fun S66 => wp_X11_flowStep_194 q p S66  P))))) ∧ (¬ 84 ≤ r39 → wp_X11_flow S43 ((((x42 - 1) - (x42 - 1) / 16 * 16) * 16) + ((x45 - 1) - (x45 - 1) / 16 * 16)) (fun S68 => wp_X11_flowStep_194 q p S68  P)))) ∧ (¬ 20 ≤ r39 → ((10 ≤ r39 → wp_X11_flowStep_49 q p S43 x42 P) ∧ (¬ 10 ≤ r39 → wp_X11_flowStep_49 q p S43 x45 P)))))))
set_option maxHeartbeats 4000000 in
set_option maxRecDepth 100000 in
theorem run_X11_flowStep {l : Launch} {g : Gx} {S : St} {q : Int32} {p : Int32} {P : St → Prop}  (h : rowsLe S → wp_X11_flowStep S q p P) : CMv g l yX11_flowStep cX11_flowStep 6 none rm_X11_flowStep [.ref (gad g 158), .int q, .int p] S P := cm_entry (own := RX11) (plainFor_of_name (by decide)) rfl (Nat.le_of_ble_eq_true rfl) rfl (fun hle f hf C hrt => by
  subst hf
  replace h := h hle
  obtain ⟨T0, hT⟩ : ∃ T, S.2.2.1 = T := ⟨_, rfl⟩
  rw [hT]
  unfold wp_X11_flowStep at h
  refine ww_aload_n C dX11_flowStep_0 0 rfl ?_
  refine ww_iload_n C dX11_flowStep_1 1 rfl ?_
  refine ww_iload_n C dX11_flowStep_2 2 rfl ?_
  refine ww_cVi (As := [.int q, .int p]) (rest := []) C ok_X11_signOf bw_1105 dX11_flowStep_3 (run_X11_signOf  (fun _ => h)) rc_Model rfl ⟨Nat.le_of_ble_eq_true rfl, Nat.le_of_ble_eq_true rfl⟩ (Nat.le_of_ble_eq_true rfl) (c2 := 0) (s2 := 0) rfl rfl ⟨Nat.le_of_ble_eq_true rfl, Nat.le_of_ble_eq_true rfl⟩ rfl (fun r39 S38 hp hTg => ?_)
  replace h := hp
  have hT_S38 : S38.2.2.1 = T0 := by rw [hTg]; exact hT
  refine ww_istore_n (lv2 := [(3, .int r39), (0, .ref (gad g 158)), (1, .int q), (2, .int p)]) C dX11_flowStep_6 rfl (Nat.le_of_ble_eq_true rfl) rfl ?_
  refine ww_aload_n C dX11_flowStep_7 1 rfl ?_
  refine ww_iload_n C dX11_flowStep_8 2 rfl ?_
  refine ww_iload_n C dX11_flowStep_9 3 rfl ?_
  refine ww_cVi (As := [.int q, .int p]) (rest := []) C ok_X11_stepX bw_1109 dX11_flowStep_10 (run_X11_stepX  (fun _ => h)) rc_Model rfl ⟨Nat.le_of_ble_eq_true rfl, Nat.le_of_ble_eq_true rfl⟩ (Nat.le_of_ble_eq_true rfl) (c2 := 0) (s2 := 0) rfl rfl ⟨Nat.le_of_ble_eq_true rfl, Nat.le_of_ble_eq_true rfl⟩ rfl (fun r41 S40 hp hTg => ?_)
  replace h := hp
  have hT_S40 : S40.2.2.1 = T0 := by rw [hTg]; exact hT_S38
  refine ww_cSf (As := [.int r41]) (rest := []) C ok_X11_abs bw_1117 dX11_flowStep_13 cm_X11_abs rfl ⟨Nat.le_of_ble_eq_true rfl, Nat.le_of_ble_eq_true rfl⟩ (Nat.le_of_ble_eq_true rfl) (c2 := 0) (s2 := 0) rfl rfl ⟨Nat.le_of_ble_eq_true rfl, Nat.le_of_ble_eq_true rfl⟩ rfl ?_
  refine ww_topi (fun x42 e_x42 => ?_)
  replace h := h x42 e_x42
  refine ww_istore (lv2 := [(4, .int x42), (3, .int r39), (0, .ref (gad g 158)), (1, .int q), (2, .int p)]) C dX11_flowStep_16 (Nat.le_of_ble_eq_true rfl) rfl ?_
  refine ww_aload_n C dX11_flowStep_18 2 rfl ?_
  refine ww_iload_n C dX11_flowStep_19 3 rfl ?_
  refine ww_iload_n C dX11_flowStep_20 4 rfl ?_
  refine ww_cVi (As := [.int q, .int p]) (rest := []) C ok_X11_stepY bw_1113 dX11_flowStep_21 (run_X11_stepY  (fun _ => h)) rc_Model rfl ⟨Nat.le_of_ble_eq_true rfl, Nat.le_of_ble_eq_true rfl⟩ (Nat.le_of_ble_eq_true rfl) (c2 := 0) (s2 := 0) rfl rfl ⟨Nat.le_of_ble_eq_true rfl, Nat.le_of_ble_eq_true rfl⟩ rfl (fun r44 S43 hp hTg => ?_)
  replace h := hp
  have hT_S43 : S43.2.2.1 = T0 := by rw [hTg]; exact hT_S40
  refine ww_cSf (As := [.int r44]) (rest := []) C ok_X11_abs bw_1117 dX11_flowStep_24 cm_X11_abs rfl ⟨Nat.le_of_ble_eq_true rfl, Nat.le_of_ble_eq_true rfl⟩ (Nat.le_of_ble_eq_true rfl) (c2 := 0) (s2 := 0) rfl rfl ⟨Nat.le_of_ble_eq_true rfl, Nat.le_of_ble_eq_true rfl⟩ rfl ?_
  refine ww_topi (fun x45 e_x45 => ?_)
  replace h := h x45 e_x45
  refine ww_istore (lv2 := [(5, .int x45), (4, .int x42), (3, .int r39), (0, .ref (gad g 158)), (1, .int q), (2, .int p)]) C dX11_flowStep_27 (Nat.le_of_ble_eq_true rfl) rfl ?_
  refine ww_iload_n C dX11_flowStep_29 2 rfl ?_
  refine ww_bipush (v := 20) C dX11_flowStep_30 (by decide) ?_
  refine ww_icmp_ge (tgt := 55) C dX11_flowStep_32 (by decide) (fun q46 => ?_) (fun q46 => ?_)
  · replace h := h.1 q46
    refine ww_iload_n C dX11_flowStep_55 2 rfl ?_
    refine ww_bipush (v := 84) C dX11_flowStep_56 (by decide) ?_
    refine ww_icmp_ge (tgt := 86) C dX11_flowStep_58 (by decide) (fun q47 => ?_) (fun q47 => ?_)
    · replace h := h.1 q47
      refine ww_iload_n C dX11_flowStep_86 2 rfl ?_
      refine ww_bipush (v := 120) C dX11_flowStep_87 (by decide) ?_
      refine ww_icmp_ge (tgt := 119) C dX11_flowStep_89 (by decide) (fun q48 => ?_) (fun q48 => ?_)
      · replace h := h.1 q48
        refine ww_iload_n C dX11_flowStep_119 2 rfl ?_
        refine ww_bipush (v := 124) C dX11_flowStep_120 (by decide) ?_
        refine ww_icmp_ge (tgt := 162) C dX11_flowStep_122 (by decide) (fun q49 => ?_) (fun q49 => ?_)
        · replace h := h.1 q49
          refine ww_aload_n C dX11_flowStep_162 3 rfl ?_
          refine ww_iload C dX11_flowStep_163 1 rfl ?_
          refine ww_sipush (v := 256) C dX11_flowStep_165 (by decide) ?_
          refine ww_idiv C dX11_flowStep_168 (by decide) ?_
          refine ww_cVv (As := [.int (x42 / 256)]) (rest := []) C ok_X11_flow bw_1097 dX11_flowStep_169 (run_X11_flow  (fun _ => h)) rc_Model rfl ⟨Nat.le_of_ble_eq_true rfl, Nat.le_of_ble_eq_true rfl⟩ (Nat.le_of_ble_eq_true rfl) (c2 := 0) (s2 := 0) rfl rfl ⟨Nat.le_of_ble_eq_true rfl, Nat.le_of_ble_eq_true rfl⟩ rfl (fun S50 hp hTg => ?_)
          replace h := hp
          have hT_S50 : S50.2.2.1 = T0 := by rw [hTg]; exact hT_S43
          refine ww_aload_n C dX11_flowStep_172 3 rfl ?_
          refine ww_iload C dX11_flowStep_173 1 rfl ?_
          refine ww_cVv (As := [.int x42]) (rest := []) C ok_X11_flow bw_1097 dX11_flowStep_175 (run_X11_flow  (fun _ => h)) rc_Model rfl ⟨Nat.le_of_ble_eq_true rfl, Nat.le_of_ble_eq_true rfl⟩ (Nat.le_of_ble_eq_true rfl) (c2 := 0) (s2 := 0) rfl rfl ⟨Nat.le_of_ble_eq_true rfl, Nat.le_of_ble_eq_true rfl⟩ rfl (fun S52 hp hTg => ?_)
          replace h := hp
          have hT_S52 : S52.2.2.1 = T0 := by rw [hTg]; exact hT_S50
          refine ww_aload_n C dX11_flowStep_178 3 rfl ?_
          refine ww_iload C dX11_flowStep_179 0 rfl ?_
          refine ww_sipush (v := 256) C dX11_flowStep_181 (by decide) ?_
          refine ww_idiv C dX11_flowStep_184 (by decide) ?_
          refine ww_cVv (As := [.int (x45 / 256)]) (rest := []) C ok_X11_flow bw_1097 dX11_flowStep_185 (run_X11_flow  (fun _ => h)) rc_Model rfl ⟨Nat.le_of_ble_eq_true rfl, Nat.le_of_ble_eq_true rfl⟩ (Nat.le_of_ble_eq_true rfl) (c2 := 0) (s2 := 0) rfl rfl ⟨Nat.le_of_ble_eq_true rfl, Nat.le_of_ble_eq_true rfl⟩ rfl (fun S54 hp hTg => ?_)
          replace h := hp
          have hT_S54 : S54.2.2.1 = T0 := by rw [hTg]; exact hT_S52
          refine ww_aload_n C dX11_flowStep_188 3 rfl ?_
          refine ww_iload C dX11_flowStep_189 0 rfl ?_
          refine ww_cVv (As := [.int x45]) (rest := []) C ok_X11_flow bw_1097 dX11_flowStep_191 (run_X11_flow  (fun _ => h)) rc_Model rfl ⟨Nat.le_of_ble_eq_true rfl, Nat.le_of_ble_eq_true rfl⟩ (Nat.le_of_ble_eq_true rfl) (c2 := 0) (s2 := 0) rfl rfl ⟨Nat.le_of_ble_eq_true rfl, Nat.le_of_ble_eq_true rfl⟩ rfl (fun S56 hp hTg => ?_)
          replace h := hp
          have hT_S56 : S56.2.2.1 = T0 := by rw [hTg]; exact hT_S54
          exact ww_sub [] rfl (run_X11_flowStep_194 C hrt  hT_S56  h)
        · replace h := h.2 q49
          refine ww_aload_n C dX11_flowStep_125 3 rfl ?_
          refine ww_iload C dX11_flowStep_126 1 rfl ?_
          refine ww_bipush (v := 16) C dX11_flowStep_128 (by decide) ?_
          refine ww_idiv C dX11_flowStep_130 (by decide) ?_
          refine ww_cVv (As := [.int (x42 / 16)]) (rest := []) C ok_X11_flow bw_1097 dX11_flowStep_131 (run_X11_flow  (fun _ => h)) rc_Model rfl ⟨Nat.le_of_ble_eq_true rfl, Nat.le_of_ble_eq_true rfl⟩ (Nat.le_of_ble_eq_true rfl) (c2 := 0) (s2 := 0) rfl rfl ⟨Nat.le_of_ble_eq_true rfl, Nat.le_of_ble_eq_true rfl⟩ rfl (fun S58 hp hTg => ?_)
          replace h := hp
          have hT_S58 : S58.2.2.1 = T0 := by rw [hTg]; exact hT_S43
          refine ww_aload_n C dX11_flowStep_134 3 rfl ?_
          refine ww_iload C dX11_flowStep_135 1 rfl ?_
          refine ww_bipush (v := 16) C dX11_flowStep_137 (by decide) ?_
          refine ww_irem C dX11_flowStep_139 (by decide) ?_
          refine ww_bipush (v := 16) C dX11_flowStep_140 (by decide) ?_
          refine ww_imul C dX11_flowStep_142 ?_
          refine ww_iload C dX11_flowStep_143 0 rfl ?_
          refine ww_sipush (v := 256) C dX11_flowStep_145 (by decide) ?_
          refine ww_idiv C dX11_flowStep_148 (by decide) ?_
          refine ww_iadd C dX11_flowStep_149 ?_
          refine ww_cVv (As := [.int (((x42 - x42 / 16 * 16) * 16) + (x45 / 256))]) (rest := []) C ok_X11_flow bw_1097 dX11_flowStep_150 (run_X11_flow  (fun _ => h)) rc_Model rfl ⟨Nat.le_of_ble_eq_true rfl, Nat.le_of_ble_eq_true rfl⟩ (Nat.le_of_ble_eq_true rfl) (c2 := 0) (s2 := 0) rfl rfl ⟨Nat.le_of_ble_eq_true rfl, Nat.le_of_ble_eq_true rfl⟩ rfl (fun S60 hp hTg => ?_)
          replace h := hp
          have hT_S60 : S60.2.2.1 = T0 := by rw [hTg]; exact hT_S58
          refine ww_aload_n C dX11_flowStep_153 3 rfl ?_
          refine ww_iload C dX11_flowStep_154 0 rfl ?_
          refine ww_cVv (As := [.int x45]) (rest := []) C ok_X11_flow bw_1097 dX11_flowStep_156 (run_X11_flow  (fun _ => h)) rc_Model rfl ⟨Nat.le_of_ble_eq_true rfl, Nat.le_of_ble_eq_true rfl⟩ (Nat.le_of_ble_eq_true rfl) (c2 := 0) (s2 := 0) rfl rfl ⟨Nat.le_of_ble_eq_true rfl, Nat.le_of_ble_eq_true rfl⟩ rfl (fun S62 hp hTg => ?_)
          replace h := hp
          have hT_S62 : S62.2.2.1 = T0 := by rw [hTg]; exact hT_S60
          refine ww_goto (tgt := 194) C dX11_flowStep_159 (by decide) ?_
          exact ww_sub [] rfl (run_X11_flowStep_194 C hrt  hT_S62  h)
      · replace h := h.2 q48
        refine ww_aload_n C dX11_flowStep_92 3 rfl ?_
        refine ww_iload C dX11_flowStep_93 1 rfl ?_
        refine ww_iconst (v := 1) C dX11_flowStep_95 (by decide) ?_
        refine ww_isub C dX11_flowStep_96 ?_
        refine ww_sipush (v := 256) C dX11_flowStep_97 (by decide) ?_
        refine ww_irem C dX11_flowStep_100 (by decide) ?_
        refine ww_cVv (As := [.int ((x42 - 1) - (x42 - 1) / 256 * 256)]) (rest := []) C ok_X11_flow bw_1097 dX11_flowStep_101 (run_X11_flow  (fun _ => h)) rc_Model rfl ⟨Nat.le_of_ble_eq_true rfl, Nat.le_of_ble_eq_true rfl⟩ (Nat.le_of_ble_eq_true rfl) (c2 := 0) (s2 := 0) rfl rfl ⟨Nat.le_of_ble_eq_true rfl, Nat.le_of_ble_eq_true rfl⟩ rfl (fun S64 hp hTg => ?_)
        replace h := hp
        have hT_S64 : S64.2.2.1 = T0 := by rw [hTg]; exact hT_S43
        refine ww_aload_n C dX11_flowStep_104 3 rfl ?_
        refine ww_iload C dX11_flowStep_105 0 rfl ?_
        refine ww_iconst (v := 1) C dX11_flowStep_107 (by decide) ?_
        refine ww_isub C dX11_flowStep_108 ?_
        refine ww_sipush (v := 256) C dX11_flowStep_109 (by decide) ?_
        refine ww_irem C dX11_flowStep_112 (by decide) ?_
        refine ww_cVv (As := [.int ((x45 - 1) - (x45 - 1) / 256 * 256)]) (rest := []) C ok_X11_flow bw_1097 dX11_flowStep_113 (run_X11_flow  (fun _ => h)) rc_Model rfl ⟨Nat.le_of_ble_eq_true rfl, Nat.le_of_ble_eq_true rfl⟩ (Nat.le_of_ble_eq_true rfl) (c2 := 0) (s2 := 0) rfl rfl ⟨Nat.le_of_ble_eq_true rfl, Nat.le_of_ble_eq_true rfl⟩ rfl (fun S66 hp hTg => ?_)
        replace h := hp
        have hT_S66 : S66.2.2.1 = T0 := by rw [hTg]; exact hT_S64
        refine ww_goto (tgt := 194) C dX11_flowStep_116 (by decide) ?_
        exact ww_sub [] rfl (run_X11_flowStep_194 C hrt  hT_S66  h)
    · replace h := h.2 q47
      refine ww_aload_n C dX11_flowStep_61 3 rfl ?_
      refine ww_iload C dX11_flowStep_62 1 rfl ?_
      refine ww_iconst (v := 1) C dX11_flowStep_64 (by decide) ?_
      refine ww_isub C dX11_flowStep_65 ?_
      refine ww_bipush (v := 16) C dX11_flowStep_66 (by decide) ?_
      refine ww_irem C dX11_flowStep_68 (by decide) ?_
      refine ww_bipush (v := 16) C dX11_flowStep_69 (by decide) ?_
      refine ww_imul C dX11_flowStep_71 ?_
      refine ww_iload C dX11_flowStep_72 0 rfl ?_
      refine ww_iconst (v := 1) C dX11_flowStep_74 (by decide) ?_
      refine ww_isub C dX11_flowStep_75 ?_
      refine ww_bipush (v := 16) C dX11_flowStep_76 (by decide) ?_
      refine ww_irem C dX11_flowStep_78 (by decide) ?_
      refine ww_iadd C dX11_flowStep_79 ?_
      refine ww_cVv (As := [.int ((((x42 - 1) - (x42 - 1) / 16 * 16) * 16) + ((x45 - 1) - (x45 - 1) / 16 * 16))]) (rest := []) C ok_X11_flow bw_1097 dX11_flowStep_80 (run_X11_flow  (fun _ => h)) rc_Model rfl ⟨Nat.le_of_ble_eq_true rfl, Nat.le_of_ble_eq_true rfl⟩ (Nat.le_of_ble_eq_true rfl) (c2 := 0) (s2 := 0) rfl rfl ⟨Nat.le_of_ble_eq_true rfl, Nat.le_of_ble_eq_true rfl⟩ rfl (fun S68 hp hTg => ?_)
      replace h := hp
      have hT_S68 : S68.2.2.1 = T0 := by rw [hTg]; exact hT_S43
      refine ww_goto (tgt := 194) C dX11_flowStep_83 (by decide) ?_
      exact ww_sub [] rfl (run_X11_flowStep_194 C hrt  hT_S68  h)
  · replace h := h.2 q46
    refine ww_aload_n C dX11_flowStep_35 3 rfl ?_
    refine ww_iload_n C dX11_flowStep_36 2 rfl ?_
    refine ww_bipush (v := 10) C dX11_flowStep_37 (by decide) ?_
    refine ww_icmp_ge (tgt := 47) C dX11_flowStep_39 (by decide) (fun q70 => ?_) (fun q70 => ?_)
    · replace h := h.1 q70
      refine ww_iload C dX11_flowStep_47 1 rfl ?_
      exact ww_sub [] rfl (run_X11_flowStep_49 C hrt  hT_S43  h)
    · replace h := h.2 q70
      refine ww_iload C dX11_flowStep_42 0 rfl ?_
      refine ww_goto (tgt := 49) C dX11_flowStep_44 (by decide) ?_
      exact ww_sub [] rfl (run_X11_flowStep_49 C hrt  hT_S43  h))
abbrev rm_X11_flowTable : Room := { frames := 3, cells := 0, slots := 0, locals := 76 }
theorem ok_X11_flowTable : MOK yX11_flowTable RX11 cX11_flowTable 6 none 1 := ⟨bw_1095, bw_21, bw_69, bw_1096, by decide +kernel⟩
def st_X11_flowTable_2 (t : Int32) (P : St → Prop) (X2 : St → Int32 → Prop) (X35 : St → Int32 → Prop) (X64 : St → Prop) (X79 : St → Int32 → Prop) (X105 : St → Int32 → Prop) (X115 : St → Int32 → Int32 → Prop) (X131 : St → Int32 → Int32 → Int32 → Int32 → Prop) (X167 : St → Int32 → Int32 → Int32 → Int32 → Prop) (X195 : St → Int32 → Prop) (X205 : St → Int32 → Int32 → Prop) (X243 : St → Int32 → Int32 → Int32 → Int32 → Prop) (X261 : St → Int32 → Prop) (X271 : St → Int32 → Int32 → Prop) (S : St) (v2 : Int32) : Prop :=
  (vp_in t (gw_ml 7) ∧ (((S.2.1 17 t.toNatClampNeg) ≤ v2 → X35 S 0) ∧ (¬ (S.2.1 17 t.toNatClampNeg) ≤ v2 → (vp_in ((20 * t) + v2) (gw_ml 8) ∧ wp_X11_flow S (S.2.1 18 ((20 * t) + v2).toNatClampNeg) (fun S42 => ∀ x44 : Int32, x44 = v2 + 1 → X2 S42 x44)))))
def st_X11_flowTable_35 (t : Int32) (P : St → Prop) (X2 : St → Int32 → Prop) (X35 : St → Int32 → Prop) (X64 : St → Prop) (X79 : St → Int32 → Prop) (X105 : St → Int32 → Prop) (X115 : St → Int32 → Int32 → Prop) (X131 : St → Int32 → Int32 → Int32 → Int32 → Prop) (X167 : St → Int32 → Int32 → Int32 → Int32 → Prop) (X195 : St → Int32 → Prop) (X205 : St → Int32 → Int32 → Prop) (X243 : St → Int32 → Int32 → Int32 → Int32 → Prop) (X261 : St → Int32 → Prop) (X271 : St → Int32 → Int32 → Prop) (S : St) (v2 : Int32) : Prop :=
  (((S.2.1 9 1) ≤ v2 → X64 S) ∧ (¬ (S.2.1 9 1) ≤ v2 → ((¬ t = 1 → X64 S) ∧ (t = 1 → (vp_in v2 (gw_ml 0) ∧ wp_X11_flowShort S (S.2.1 10 v2.toNatClampNeg) (fun S47 => ∀ x49 : Int32, x49 = v2 + 1 → X35 S47 x49))))))
def st_X11_flowTable_64 (t : Int32) (P : St → Prop) (X2 : St → Int32 → Prop) (X35 : St → Int32 → Prop) (X64 : St → Prop) (X79 : St → Int32 → Prop) (X105 : St → Int32 → Prop) (X115 : St → Int32 → Int32 → Prop) (X131 : St → Int32 → Int32 → Int32 → Int32 → Prop) (X167 : St → Int32 → Int32 → Int32 → Int32 → Prop) (X195 : St → Int32 → Prop) (X205 : St → Int32 → Int32 → Prop) (X243 : St → Int32 → Int32 → Int32 → Int32 → Prop) (X261 : St → Int32 → Prop) (X271 : St → Int32 → Int32 → Prop) (S : St)  : Prop :=
  ((t = 0 → wp_X11_flow S (S.2.1 9 1) (fun S51 => X79 S51 0)) ∧ (¬ t = 0 → P S))
def st_X11_flowTable_79 (t : Int32) (P : St → Prop) (X2 : St → Int32 → Prop) (X35 : St → Int32 → Prop) (X64 : St → Prop) (X79 : St → Int32 → Prop) (X105 : St → Int32 → Prop) (X115 : St → Int32 → Int32 → Prop) (X131 : St → Int32 → Int32 → Int32 → Int32 → Prop) (X167 : St → Int32 → Int32 → Int32 → Int32 → Prop) (X195 : St → Int32 → Prop) (X205 : St → Int32 → Int32 → Prop) (X243 : St → Int32 → Int32 → Int32 → Int32 → Prop) (X261 : St → Int32 → Prop) (X271 : St → Int32 → Int32 → Prop) (S : St) (v2 : Int32) : Prop :=
  (((S.2.1 9 1) ≤ v2 → X105 S 0) ∧ (¬ (S.2.1 9 1) ≤ v2 → (vp_in v2 (gw_ml 1) ∧ wp_X11_flow S (S.2.1 11 v2.toNatClampNeg) (fun S54 => ∀ x56 : Int32, x56 = v2 + 1 → X79 S54 x56))))
def st_X11_flowTable_105 (t : Int32) (P : St → Prop) (X2 : St → Int32 → Prop) (X35 : St → Int32 → Prop) (X64 : St → Prop) (X79 : St → Int32 → Prop) (X105 : St → Int32 → Prop) (X115 : St → Int32 → Int32 → Prop) (X131 : St → Int32 → Int32 → Int32 → Int32 → Prop) (X167 : St → Int32 → Int32 → Int32 → Int32 → Prop) (X195 : St → Int32 → Prop) (X205 : St → Int32 → Int32 → Prop) (X243 : St → Int32 → Int32 → Int32 → Int32 → Prop) (X261 : St → Int32 → Prop) (X271 : St → Int32 → Int32 → Prop) (S : St) (v2 : Int32) : Prop :=
  (((S.2.1 9 1) ≤ v2 → X195 S 0) ∧ (¬ (S.2.1 9 1) ≤ v2 → X115 S v2 0))
def st_X11_flowTable_115 (t : Int32) (P : St → Prop) (X2 : St → Int32 → Prop) (X35 : St → Int32 → Prop) (X64 : St → Prop) (X79 : St → Int32 → Prop) (X105 : St → Int32 → Prop) (X115 : St → Int32 → Int32 → Prop) (X131 : St → Int32 → Int32 → Int32 → Int32 → Prop) (X167 : St → Int32 → Int32 → Int32 → Int32 → Prop) (X195 : St → Int32 → Prop) (X205 : St → Int32 → Int32 → Prop) (X243 : St → Int32 → Int32 → Int32 → Int32 → Prop) (X261 : St → Int32 → Prop) (X271 : St → Int32 → Int32 → Prop) (S : St) (v2 : Int32) (v3 : Int32) : Prop :=
  (vp_in v2 (gw_ml 1) ∧ (((S.2.1 11 v2.toNatClampNeg) ≤ v3 → ∀ x59 : Int32, x59 = v2 + 1 → X105 S x59) ∧ (¬ (S.2.1 11 v2.toNatClampNeg) ≤ v3 → X131 S v2 v3 0 0)))
def st_X11_flowTable_131 (t : Int32) (P : St → Prop) (X2 : St → Int32 → Prop) (X35 : St → Int32 → Prop) (X64 : St → Prop) (X79 : St → Int32 → Prop) (X105 : St → Int32 → Prop) (X115 : St → Int32 → Int32 → Prop) (X131 : St → Int32 → Int32 → Int32 → Int32 → Prop) (X167 : St → Int32 → Int32 → Int32 → Int32 → Prop) (X195 : St → Int32 → Prop) (X205 : St → Int32 → Int32 → Prop) (X243 : St → Int32 → Int32 → Int32 → Int32 → Prop) (X261 : St → Int32 → Prop) (X271 : St → Int32 → Int32 → Prop) (S : St) (v2 : Int32) (v3 : Int32) (v4 : Int32) (v5 : Int32) : Prop :=
  (vp_in v2 (gw_ml 2) ∧ (((S.2.1 12 v2.toNatClampNeg) ≤ v5 → wp_X11_flowShort S v4 (fun S61 => ∀ x63 : Int32, x63 = v3 + 1 → X115 S61 v2 x63)) ∧ (¬ (S.2.1 12 v2.toNatClampNeg) ≤ v5 → (vp_in ((16 * v2) + v5) (gw_ml 6) ∧ ((¬ (S.2.1 16 ((16 * v2) + v5).toNatClampNeg) = v3 → X167 S v2 v3 v5 v4) ∧ ((S.2.1 16 ((16 * v2) + v5).toNatClampNeg) = v3 → X167 S v2 v3 v5 (v4 + 1)))))))
def st_X11_flowTable_167 (t : Int32) (P : St → Prop) (X2 : St → Int32 → Prop) (X35 : St → Int32 → Prop) (X64 : St → Prop) (X79 : St → Int32 → Prop) (X105 : St → Int32 → Prop) (X115 : St → Int32 → Int32 → Prop) (X131 : St → Int32 → Int32 → Int32 → Int32 → Prop) (X167 : St → Int32 → Int32 → Int32 → Int32 → Prop) (X195 : St → Int32 → Prop) (X205 : St → Int32 → Int32 → Prop) (X243 : St → Int32 → Int32 → Int32 → Int32 → Prop) (X261 : St → Int32 → Prop) (X271 : St → Int32 → Int32 → Prop) (S : St) (v2 : Int32) (v3 : Int32) (v5 : Int32) (s0 : Int32) : Prop :=
  ∀ x65 : Int32, x65 = v5 + 1 → X131 S v2 v3 s0 x65
def st_X11_flowTable_195 (t : Int32) (P : St → Prop) (X2 : St → Int32 → Prop) (X35 : St → Int32 → Prop) (X64 : St → Prop) (X79 : St → Int32 → Prop) (X105 : St → Int32 → Prop) (X115 : St → Int32 → Int32 → Prop) (X131 : St → Int32 → Int32 → Int32 → Int32 → Prop) (X167 : St → Int32 → Int32 → Int32 → Int32 → Prop) (X195 : St → Int32 → Prop) (X205 : St → Int32 → Int32 → Prop) (X243 : St → Int32 → Int32 → Int32 → Int32 → Prop) (X261 : St → Int32 → Prop) (X271 : St → Int32 → Int32 → Prop) (S : St) (v2 : Int32) : Prop :=
  (((S.2.1 9 1) ≤ v2 → X261 S 0) ∧ (¬ (S.2.1 9 1) ≤ v2 → X205 S v2 0))
def st_X11_flowTable_205 (t : Int32) (P : St → Prop) (X2 : St → Int32 → Prop) (X35 : St → Int32 → Prop) (X64 : St → Prop) (X79 : St → Int32 → Prop) (X105 : St → Int32 → Prop) (X115 : St → Int32 → Int32 → Prop) (X131 : St → Int32 → Int32 → Int32 → Int32 → Prop) (X167 : St → Int32 → Int32 → Int32 → Int32 → Prop) (X195 : St → Int32 → Prop) (X205 : St → Int32 → Int32 → Prop) (X243 : St → Int32 → Int32 → Int32 → Int32 → Prop) (X261 : St → Int32 → Prop) (X271 : St → Int32 → Int32 → Prop) (S : St) (v2 : Int32) (v3 : Int32) : Prop :=
  (vp_in v2 (gw_ml 2) ∧ (((S.2.1 12 v2.toNatClampNeg) ≤ v3 → ∀ x68 : Int32, x68 = v2 + 1 → X195 S x68) ∧ (¬ (S.2.1 12 v2.toNatClampNeg) ≤ v3 → wp_X11_signOf S v2 v3 (fun r70 S69 => (vp_in ((16 * v2) + v3) (gw_ml 5) ∧ (((S69.2.1 15 ((16 * v2) + v3).toNatClampNeg) = 0 → X243 S69 v2 v3 128 r70) ∧ (¬ (S69.2.1 15 ((16 * v2) + v3).toNatClampNeg) = 0 → X243 S69 v2 v3 0 r70)))))))
def st_X11_flowTable_243 (t : Int32) (P : St → Prop) (X2 : St → Int32 → Prop) (X35 : St → Int32 → Prop) (X64 : St → Prop) (X79 : St → Int32 → Prop) (X105 : St → Int32 → Prop) (X115 : St → Int32 → Int32 → Prop) (X131 : St → Int32 → Int32 → Int32 → Int32 → Prop) (X167 : St → Int32 → Int32 → Int32 → Int32 → Prop) (X195 : St → Int32 → Prop) (X205 : St → Int32 → Int32 → Prop) (X243 : St → Int32 → Int32 → Int32 → Int32 → Prop) (X261 : St → Int32 → Prop) (X271 : St → Int32 → Int32 → Prop) (S : St) (v2 : Int32) (v3 : Int32) (s0 : Int32) (s1 : Int32) : Prop :=
  wp_X11_flow S (s1 + s0) (fun S72 => ∀ x74 : Int32, x74 = v3 + 1 → X205 S72 v2 x74)
def st_X11_flowTable_261 (t : Int32) (P : St → Prop) (X2 : St → Int32 → Prop) (X35 : St → Int32 → Prop) (X64 : St → Prop) (X79 : St → Int32 → Prop) (X105 : St → Int32 → Prop) (X115 : St → Int32 → Int32 → Prop) (X131 : St → Int32 → Int32 → Int32 → Int32 → Prop) (X167 : St → Int32 → Int32 → Int32 → Int32 → Prop) (X195 : St → Int32 → Prop) (X205 : St → Int32 → Int32 → Prop) (X243 : St → Int32 → Int32 → Int32 → Int32 → Prop) (X261 : St → Int32 → Prop) (X271 : St → Int32 → Int32 → Prop) (S : St) (v2 : Int32) : Prop :=
  (((S.2.1 9 1) ≤ v2 → P S) ∧ (¬ (S.2.1 9 1) ≤ v2 → X271 S v2 0))
def st_X11_flowTable_271 (t : Int32) (P : St → Prop) (X2 : St → Int32 → Prop) (X35 : St → Int32 → Prop) (X64 : St → Prop) (X79 : St → Int32 → Prop) (X105 : St → Int32 → Prop) (X115 : St → Int32 → Int32 → Prop) (X131 : St → Int32 → Int32 → Int32 → Int32 → Prop) (X167 : St → Int32 → Int32 → Int32 → Int32 → Prop) (X195 : St → Int32 → Prop) (X205 : St → Int32 → Int32 → Prop) (X243 : St → Int32 → Int32 → Int32 → Int32 → Prop) (X261 : St → Int32 → Prop) (X271 : St → Int32 → Int32 → Prop) (S : St) (v2 : Int32) (v3 : Int32) : Prop :=
  (vp_in v2 (gw_ml 2) ∧ (((S.2.1 12 v2.toNatClampNeg) ≤ v3 → ∀ x77 : Int32, x77 = v2 + 1 → X261 S x77) ∧ (¬ (S.2.1 12 v2.toNatClampNeg) ≤ v3 → wp_X11_flowStep S v2 v3 (fun S78 => ∀ x80 : Int32, x80 = v3 + 1 → X271 S78 v2 x80))))
def at_X11_flowTable_2 (f : Fx) (g : Gx) (T0 : List (Nat × Nat × Nat)) (t : Int32) (P : St → Prop) (S : St) (v2 : Int32) : Prop := S.2.2.1 = T0 → WW f rm_X11_flowTable g 6 0 0 (Qv f g 0 0 T0 P) S 2 [(0, .ref (gad g 158)), (1, .int t), (2, .int v2)] []
def at_X11_flowTable_35 (f : Fx) (g : Gx) (T0 : List (Nat × Nat × Nat)) (t : Int32) (P : St → Prop) (S : St) (v2 : Int32) : Prop := S.2.2.1 = T0 → WW f rm_X11_flowTable g 6 0 0 (Qv f g 0 0 T0 P) S 35 [(0, .ref (gad g 158)), (1, .int t), (2, .int v2)] []
def at_X11_flowTable_64 (f : Fx) (g : Gx) (T0 : List (Nat × Nat × Nat)) (t : Int32) (P : St → Prop) (S : St)  : Prop := S.2.2.1 = T0 → WW f rm_X11_flowTable g 6 0 0 (Qv f g 0 0 T0 P) S 64 [(0, .ref (gad g 158)), (1, .int t)] []
def at_X11_flowTable_79 (f : Fx) (g : Gx) (T0 : List (Nat × Nat × Nat)) (t : Int32) (P : St → Prop) (S : St) (v2 : Int32) : Prop := S.2.2.1 = T0 → WW f rm_X11_flowTable g 6 0 0 (Qv f g 0 0 T0 P) S 79 [(0, .ref (gad g 158)), (2, .int v2)] []
def at_X11_flowTable_105 (f : Fx) (g : Gx) (T0 : List (Nat × Nat × Nat)) (t : Int32) (P : St → Prop) (S : St) (v2 : Int32) : Prop := S.2.2.1 = T0 → WW f rm_X11_flowTable g 6 0 0 (Qv f g 0 0 T0 P) S 105 [(0, .ref (gad g 158)), (2, .int v2)] []
def at_X11_flowTable_115 (f : Fx) (g : Gx) (T0 : List (Nat × Nat × Nat)) (t : Int32) (P : St → Prop) (S : St) (v2 : Int32) (v3 : Int32) : Prop := S.2.2.1 = T0 → WW f rm_X11_flowTable g 6 0 0 (Qv f g 0 0 T0 P) S 115 [(0, .ref (gad g 158)), (2, .int v2), (3, .int v3)] []
def at_X11_flowTable_131 (f : Fx) (g : Gx) (T0 : List (Nat × Nat × Nat)) (t : Int32) (P : St → Prop) (S : St) (v2 : Int32) (v3 : Int32) (v4 : Int32) (v5 : Int32) : Prop := S.2.2.1 = T0 → WW f rm_X11_flowTable g 6 0 0 (Qv f g 0 0 T0 P) S 131 [(0, .ref (gad g 158)), (2, .int v2), (3, .int v3), (4, .int v4), (5, .int v5)] []
def at_X11_flowTable_167 (f : Fx) (g : Gx) (T0 : List (Nat × Nat × Nat)) (t : Int32) (P : St → Prop) (S : St) (v2 : Int32) (v3 : Int32) (v5 : Int32) (s0 : Int32) : Prop := S.2.2.1 = T0 → WW f rm_X11_flowTable g 6 0 0 (Qv f g 0 0 T0 P) S 167 [(0, .ref (gad g 158)), (2, .int v2), (3, .int v3), (5, .int v5)] [.int s0]
def at_X11_flowTable_195 (f : Fx) (g : Gx) (T0 : List (Nat × Nat × Nat)) (t : Int32) (P : St → Prop) (S : St) (v2 : Int32) : Prop := S.2.2.1 = T0 → WW f rm_X11_flowTable g 6 0 0 (Qv f g 0 0 T0 P) S 195 [(0, .ref (gad g 158)), (2, .int v2)] []
def at_X11_flowTable_205 (f : Fx) (g : Gx) (T0 : List (Nat × Nat × Nat)) (t : Int32) (P : St → Prop) (S : St) (v2 : Int32) (v3 : Int32) : Prop := S.2.2.1 = T0 → WW f rm_X11_flowTable g 6 0 0 (Qv f g 0 0 T0 P) S 205 [(0, .ref (gad g 158)), (2, .int v2), (3, .int v3)] []
def at_X11_flowTable_243 (f : Fx) (g : Gx) (T0 : List (Nat × Nat × Nat)) (t : Int32) (P : St → Prop) (S : St) (v2 : Int32) (v3 : Int32) (s0 : Int32) (s1 : Int32) : Prop := S.2.2.1 = T0 → WW f rm_X11_flowTable g 6 0 0 (Qv f g 0 0 T0 P) S 243 [(0, .ref (gad g 158)), (2, .int v2), (3, .int v3)] [.int s0, .int s1, .ref (gad g 158)]
def at_X11_flowTable_261 (f : Fx) (g : Gx) (T0 : List (Nat × Nat × Nat)) (t : Int32) (P : St → Prop) (S : St) (v2 : Int32) : Prop := S.2.2.1 = T0 → WW f rm_X11_flowTable g 6 0 0 (Qv f g 0 0 T0 P) S 261 [(0, .ref (gad g 158)), (2, .int v2)] []
def at_X11_flowTable_271 (f : Fx) (g : Gx) (T0 : List (Nat × Nat × Nat)) (t : Int32) (P : St → Prop) (S : St) (v2 : Int32) (v3 : Int32) : Prop := S.2.2.1 = T0 → WW f rm_X11_flowTable g 6 0 0 (Qv f g 0 0 T0 P) S 271 [(0, .ref (gad g 158)), (2, .int v2), (3, .int v3)] []
set_option maxHeartbeats 4000000 in
set_option maxRecDepth 100000 in
theorem run_X11_flowTable_2 {f : Fx} {g : Gx} {T0 : List (Nat × Nat × Nat)} {S : St} {t : Int32} {P : St → Prop} (C : Cx f g cX11_flowTable 6 RX11) (hrt : (fmeth f).sig.returnType = none)  {v2 : Int32} (h : st_X11_flowTable_2 t P (at_X11_flowTable_2 f g T0 t P) (at_X11_flowTable_35 f g T0 t P) (at_X11_flowTable_64 f g T0 t P) (at_X11_flowTable_79 f g T0 t P) (at_X11_flowTable_105 f g T0 t P) (at_X11_flowTable_115 f g T0 t P) (at_X11_flowTable_131 f g T0 t P) (at_X11_flowTable_167 f g T0 t P) (at_X11_flowTable_195 f g T0 t P) (at_X11_flowTable_205 f g T0 t P) (at_X11_flowTable_243 f g T0 t P) (at_X11_flowTable_261 f g T0 t P) (at_X11_flowTable_271 f g T0 t P) S v2) : at_X11_flowTable_2 f g T0 t P S v2 := by
  intro hT 
  unfold st_X11_flowTable_2 at h
  refine ww_iload_n C dX11_flowTable_2 2 rfl ?_
  refine ww_aload_n C dX11_flowTable_3 0 rfl ?_
  refine gf_Model_rowSize C bw_932 dX11_flowTable_4 ?_
  refine ww_iload_n C dX11_flowTable_7 1 rfl ?_
  refine ia_m (a := 7) C (by decide) (by decide) h.1 dX11_flowTable_8 ?_
  replace h := h.2
  refine ww_icmp_ge (tgt := 33) C dX11_flowTable_9 (by decide) (fun q41 => ?_) (fun q41 => ?_)
  · replace h := h.1 q41
    refine ww_iconst (v := 0) C dX11_flowTable_33 (by decide) ?_
    refine ww_istore_n (lv2 := [(2, .int 0), (0, .ref (gad g 158)), (1, .int t)]) C dX11_flowTable_34 rfl (Nat.le_of_ble_eq_true rfl) rfl ?_
    exact ww_sub [1, 2, 0] rfl (h hT)
  · replace h := h.2 q41
    refine ww_aload_n C dX11_flowTable_12 0 rfl ?_
    refine ww_aload_n C dX11_flowTable_13 0 rfl ?_
    refine gf_Model_row C bw_933 dX11_flowTable_14 ?_
    refine ww_bipush (v := 20) C dX11_flowTable_17 (by decide) ?_
    refine ww_iload_n C dX11_flowTable_19 1 rfl ?_
    refine ww_imul C dX11_flowTable_20 ?_
    refine ww_iload_n C dX11_flowTable_21 2 rfl ?_
    refine ww_iadd C dX11_flowTable_22 ?_
    refine ia_m (a := 8) C (by decide) (by decide) h.1 dX11_flowTable_23 ?_
    replace h := h.2
    refine ww_cVv (As := [.int (S.2.1 18 ((20 * t) + v2).toNatClampNeg)]) (rest := []) C ok_X11_flow bw_1097 dX11_flowTable_24 (run_X11_flow  (fun _ => h)) rc_Model rfl ⟨Nat.le_of_ble_eq_true rfl, Nat.le_of_ble_eq_true rfl⟩ (Nat.le_of_ble_eq_true rfl) (c2 := 0) (s2 := 0) rfl rfl ⟨Nat.le_of_ble_eq_true rfl, Nat.le_of_ble_eq_true rfl⟩ rfl (fun S42 hp hTg => ?_)
    replace h := hp
    have hT_S42 : S42.2.2.1 = T0 := by rw [hTg]; exact hT
    obtain ⟨x44, e_x44⟩ : ∃ z : Int32, z = v2 + 1 := ⟨_, rfl⟩
    replace h := h x44 e_x44
    refine ww_iinc (v := x44) (lv2 := [(2, .int x44), (0, .ref (gad g 158)), (1, .int t)]) C dX11_flowTable_27 2 rfl (by rw [e_x44]; rfl) (Nat.le_of_ble_eq_true rfl) rfl ?_
    refine ww_goto (tgt := 2) C dX11_flowTable_30 (by decide) ?_
    exact ww_sub [1, 2, 0] rfl (h hT_S42)
set_option maxHeartbeats 4000000 in
set_option maxRecDepth 100000 in
theorem run_X11_flowTable_35 {f : Fx} {g : Gx} {T0 : List (Nat × Nat × Nat)} {S : St} {t : Int32} {P : St → Prop} (C : Cx f g cX11_flowTable 6 RX11) (hrt : (fmeth f).sig.returnType = none)  {v2 : Int32} (h : st_X11_flowTable_35 t P (at_X11_flowTable_2 f g T0 t P) (at_X11_flowTable_35 f g T0 t P) (at_X11_flowTable_64 f g T0 t P) (at_X11_flowTable_79 f g T0 t P) (at_X11_flowTable_105 f g T0 t P) (at_X11_flowTable_115 f g T0 t P) (at_X11_flowTable_131 f g T0 t P) (at_X11_flowTable_167 f g T0 t P) (at_X11_flowTable_195 f g T0 t P) (at_X11_flowTable_205 f g T0 t P) (at_X11_flowTable_243 f g T0 t P) (at_X11_flowTable_261 f g T0 t P) (at_X11_flowTable_271 f g T0 t P) S v2) : at_X11_flowTable_35 f g T0 t P S v2 := by
  intro hT 
  unfold st_X11_flowTable_35 at h
  refine ww_iload_n C dX11_flowTable_35 2 rfl ?_
  refine ww_aload_n C dX11_flowTable_36 0 rfl ?_
  refine gf_Model_glyphs C bw_924 dX11_flowTable_37 ?_
  refine ww_icmp_ge (tgt := 64) C dX11_flowTable_40 (by decide) (fun q45 => ?_) (fun q45 => ?_)
  · replace h := h.1 q45
    exact ww_sub [0, 1] rfl (h hT)
  · replace h := h.2 q45
    refine ww_iload_n C dX11_flowTable_43 1 rfl ?_
    refine ww_iconst (v := 1) C dX11_flowTable_44 (by decide) ?_
    refine ww_icmp_ne (tgt := 64) C dX11_flowTable_45 (by decide) (fun q46 => ?_) (fun q46 => ?_)
    · replace h := h.1 q46
      exact ww_sub [0, 1] rfl (h hT)
    · replace h := h.2 q46
      refine ww_aload_n C dX11_flowTable_48 0 rfl ?_
      refine ww_aload_n C dX11_flowTable_49 0 rfl ?_
      refine gf_Model_advance C bw_925 dX11_flowTable_50 ?_
      refine ww_iload_n C dX11_flowTable_53 2 rfl ?_
      refine ia_m (a := 0) C (by decide) (by decide) h.1 dX11_flowTable_54 ?_
      replace h := h.2
      refine ww_cVv (As := [.int (S.2.1 10 v2.toNatClampNeg)]) (rest := []) C ok_X11_flowShort bw_1101 dX11_flowTable_55 (run_X11_flowShort  (fun _ => h)) rc_Model rfl ⟨Nat.le_of_ble_eq_true rfl, Nat.le_of_ble_eq_true rfl⟩ (Nat.le_of_ble_eq_true rfl) (c2 := 0) (s2 := 0) rfl rfl ⟨Nat.le_of_ble_eq_true rfl, Nat.le_of_ble_eq_true rfl⟩ rfl (fun S47 hp hTg => ?_)
      replace h := hp
      have hT_S47 : S47.2.2.1 = T0 := by rw [hTg]; exact hT
      obtain ⟨x49, e_x49⟩ : ∃ z : Int32, z = v2 + 1 := ⟨_, rfl⟩
      replace h := h x49 e_x49
      refine ww_iinc (v := x49) (lv2 := [(2, .int x49), (0, .ref (gad g 158)), (1, .int t)]) C dX11_flowTable_58 2 rfl (by rw [e_x49]; rfl) (Nat.le_of_ble_eq_true rfl) rfl ?_
      refine ww_goto (tgt := 35) C dX11_flowTable_61 (by decide) ?_
      exact ww_sub [1, 2, 0] rfl (h hT_S47)
set_option maxHeartbeats 4000000 in
set_option maxRecDepth 100000 in
theorem run_X11_flowTable_64 {f : Fx} {g : Gx} {T0 : List (Nat × Nat × Nat)} {S : St} {t : Int32} {P : St → Prop} (C : Cx f g cX11_flowTable 6 RX11) (hrt : (fmeth f).sig.returnType = none)   (h : st_X11_flowTable_64 t P (at_X11_flowTable_2 f g T0 t P) (at_X11_flowTable_35 f g T0 t P) (at_X11_flowTable_64 f g T0 t P) (at_X11_flowTable_79 f g T0 t P) (at_X11_flowTable_105 f g T0 t P) (at_X11_flowTable_115 f g T0 t P) (at_X11_flowTable_131 f g T0 t P) (at_X11_flowTable_167 f g T0 t P) (at_X11_flowTable_195 f g T0 t P) (at_X11_flowTable_205 f g T0 t P) (at_X11_flowTable_243 f g T0 t P) (at_X11_flowTable_261 f g T0 t P) (at_X11_flowTable_271 f g T0 t P) S ) : at_X11_flowTable_64 f g T0 t P S  := by
  intro hT 
  unfold st_X11_flowTable_64 at h
  refine ww_iload_n C dX11_flowTable_64 1 rfl ?_
  refine ww_if_eq (tgt := 69) C dX11_flowTable_65 (by decide) (fun q50 => ?_) (fun q50 => ?_)
  · replace h := h.1 q50
    refine ww_aload_n C dX11_flowTable_69 0 rfl ?_
    refine ww_aload_n C dX11_flowTable_70 0 rfl ?_
    refine gf_Model_glyphs C bw_924 dX11_flowTable_71 ?_
    refine ww_cVv (As := [.int (S.2.1 9 1)]) (rest := []) C ok_X11_flow bw_1097 dX11_flowTable_74 (run_X11_flow  (fun _ => h)) rc_Model rfl ⟨Nat.le_of_ble_eq_true rfl, Nat.le_of_ble_eq_true rfl⟩ (Nat.le_of_ble_eq_true rfl) (c2 := 0) (s2 := 0) rfl rfl ⟨Nat.le_of_ble_eq_true rfl, Nat.le_of_ble_eq_true rfl⟩ rfl (fun S51 hp hTg => ?_)
    replace h := hp
    have hT_S51 : S51.2.2.1 = T0 := by rw [hTg]; exact hT
    refine ww_iconst (v := 0) C dX11_flowTable_77 (by decide) ?_
    refine ww_istore_n (lv2 := [(2, .int 0), (0, .ref (gad g 158)), (1, .int t)]) C dX11_flowTable_78 rfl (Nat.le_of_ble_eq_true rfl) rfl ?_
    exact ww_sub [1, 0] rfl (h hT_S51)
  · replace h := h.2 q50
    exact ww_vret C hrt dX11_flowTable_68 hT h
set_option maxHeartbeats 4000000 in
set_option maxRecDepth 100000 in
theorem run_X11_flowTable_79 {f : Fx} {g : Gx} {T0 : List (Nat × Nat × Nat)} {S : St} {t : Int32} {P : St → Prop} (C : Cx f g cX11_flowTable 6 RX11) (hrt : (fmeth f).sig.returnType = none)  {v2 : Int32} (h : st_X11_flowTable_79 t P (at_X11_flowTable_2 f g T0 t P) (at_X11_flowTable_35 f g T0 t P) (at_X11_flowTable_64 f g T0 t P) (at_X11_flowTable_79 f g T0 t P) (at_X11_flowTable_105 f g T0 t P) (at_X11_flowTable_115 f g T0 t P) (at_X11_flowTable_131 f g T0 t P) (at_X11_flowTable_167 f g T0 t P) (at_X11_flowTable_195 f g T0 t P) (at_X11_flowTable_205 f g T0 t P) (at_X11_flowTable_243 f g T0 t P) (at_X11_flowTable_261 f g T0 t P) (at_X11_flowTable_271 f g T0 t P) S v2) : at_X11_flowTable_79 f g T0 t P S v2 := by
  intro hT 
  unfold st_X11_flowTable_79 at h
  refine ww_iload_n C dX11_flowTable_79 1 rfl ?_
  refine ww_aload_n C dX11_flowTable_80 0 rfl ?_
  refine gf_Model_glyphs C bw_924 dX11_flowTable_81 ?_
  refine ww_icmp_ge (tgt := 103) C dX11_flowTable_84 (by decide) (fun q53 => ?_) (fun q53 => ?_)
  · replace h := h.1 q53
    refine ww_iconst (v := 0) C dX11_flowTable_103 (by decide) ?_
    refine ww_istore_n (lv2 := [(2, .int 0), (0, .ref (gad g 158))]) C dX11_flowTable_104 rfl (Nat.le_of_ble_eq_true rfl) rfl ?_
    exact ww_sub [1, 0] rfl (h hT)
  · replace h := h.2 q53
    refine ww_aload_n C dX11_flowTable_87 0 rfl ?_
    refine ww_aload_n C dX11_flowTable_88 0 rfl ?_
    refine gf_Model_contours C bw_926 dX11_flowTable_89 ?_
    refine ww_iload_n C dX11_flowTable_92 1 rfl ?_
    refine ia_m (a := 1) C (by decide) (by decide) h.1 dX11_flowTable_93 ?_
    replace h := h.2
    refine ww_cVv (As := [.int (S.2.1 11 v2.toNatClampNeg)]) (rest := []) C ok_X11_flow bw_1097 dX11_flowTable_94 (run_X11_flow  (fun _ => h)) rc_Model rfl ⟨Nat.le_of_ble_eq_true rfl, Nat.le_of_ble_eq_true rfl⟩ (Nat.le_of_ble_eq_true rfl) (c2 := 0) (s2 := 0) rfl rfl ⟨Nat.le_of_ble_eq_true rfl, Nat.le_of_ble_eq_true rfl⟩ rfl (fun S54 hp hTg => ?_)
    replace h := hp
    have hT_S54 : S54.2.2.1 = T0 := by rw [hTg]; exact hT
    obtain ⟨x56, e_x56⟩ : ∃ z : Int32, z = v2 + 1 := ⟨_, rfl⟩
    replace h := h x56 e_x56
    refine ww_iinc (v := x56) (lv2 := [(2, .int x56), (0, .ref (gad g 158))]) C dX11_flowTable_97 1 rfl (by rw [e_x56]; rfl) (Nat.le_of_ble_eq_true rfl) rfl ?_
    refine ww_goto (tgt := 79) C dX11_flowTable_100 (by decide) ?_
    exact ww_sub [1, 0] rfl (h hT_S54)
set_option maxHeartbeats 4000000 in
set_option maxRecDepth 100000 in
theorem run_X11_flowTable_105 {f : Fx} {g : Gx} {T0 : List (Nat × Nat × Nat)} {S : St} {t : Int32} {P : St → Prop} (C : Cx f g cX11_flowTable 6 RX11) (hrt : (fmeth f).sig.returnType = none)  {v2 : Int32} (h : st_X11_flowTable_105 t P (at_X11_flowTable_2 f g T0 t P) (at_X11_flowTable_35 f g T0 t P) (at_X11_flowTable_64 f g T0 t P) (at_X11_flowTable_79 f g T0 t P) (at_X11_flowTable_105 f g T0 t P) (at_X11_flowTable_115 f g T0 t P) (at_X11_flowTable_131 f g T0 t P) (at_X11_flowTable_167 f g T0 t P) (at_X11_flowTable_195 f g T0 t P) (at_X11_flowTable_205 f g T0 t P) (at_X11_flowTable_243 f g T0 t P) (at_X11_flowTable_261 f g T0 t P) (at_X11_flowTable_271 f g T0 t P) S v2) : at_X11_flowTable_105 f g T0 t P S v2 := by
  intro hT 
  unfold st_X11_flowTable_105 at h
  refine ww_iload_n C dX11_flowTable_105 1 rfl ?_
  refine ww_aload_n C dX11_flowTable_106 0 rfl ?_
  refine gf_Model_glyphs C bw_924 dX11_flowTable_107 ?_
  refine ww_icmp_ge (tgt := 193) C dX11_flowTable_110 (by decide) (fun q57 => ?_) (fun q57 => ?_)
  · replace h := h.1 q57
    refine ww_iconst (v := 0) C dX11_flowTable_193 (by decide) ?_
    refine ww_istore_n (lv2 := [(2, .int 0), (0, .ref (gad g 158))]) C dX11_flowTable_194 rfl (Nat.le_of_ble_eq_true rfl) rfl ?_
    exact ww_sub [1, 0] rfl (h hT)
  · replace h := h.2 q57
    refine ww_iconst (v := 0) C dX11_flowTable_113 (by decide) ?_
    refine ww_istore_n (lv2 := [(3, .int 0), (0, .ref (gad g 158)), (2, .int v2)]) C dX11_flowTable_114 rfl (Nat.le_of_ble_eq_true rfl) rfl ?_
    exact ww_sub [1, 2, 0] rfl (h hT)
set_option maxHeartbeats 4000000 in
set_option maxRecDepth 100000 in
theorem run_X11_flowTable_115 {f : Fx} {g : Gx} {T0 : List (Nat × Nat × Nat)} {S : St} {t : Int32} {P : St → Prop} (C : Cx f g cX11_flowTable 6 RX11) (hrt : (fmeth f).sig.returnType = none)  {v2 : Int32} {v3 : Int32} (h : st_X11_flowTable_115 t P (at_X11_flowTable_2 f g T0 t P) (at_X11_flowTable_35 f g T0 t P) (at_X11_flowTable_64 f g T0 t P) (at_X11_flowTable_79 f g T0 t P) (at_X11_flowTable_105 f g T0 t P) (at_X11_flowTable_115 f g T0 t P) (at_X11_flowTable_131 f g T0 t P) (at_X11_flowTable_167 f g T0 t P) (at_X11_flowTable_195 f g T0 t P) (at_X11_flowTable_205 f g T0 t P) (at_X11_flowTable_243 f g T0 t P) (at_X11_flowTable_261 f g T0 t P) (at_X11_flowTable_271 f g T0 t P) S v2 v3) : at_X11_flowTable_115 f g T0 t P S v2 v3 := by
  intro hT 
  unfold st_X11_flowTable_115 at h
  refine ww_iload_n C dX11_flowTable_115 2 rfl ?_
  refine ww_aload_n C dX11_flowTable_116 0 rfl ?_
  refine gf_Model_contours C bw_926 dX11_flowTable_117 ?_
  refine ww_iload_n C dX11_flowTable_120 1 rfl ?_
  refine ia_m (a := 1) C (by decide) (by decide) h.1 dX11_flowTable_121 ?_
  replace h := h.2
  refine ww_icmp_ge (tgt := 187) C dX11_flowTable_122 (by decide) (fun q58 => ?_) (fun q58 => ?_)
  · replace h := h.1 q58
    obtain ⟨x59, e_x59⟩ : ∃ z : Int32, z = v2 + 1 := ⟨_, rfl⟩
    replace h := h x59 e_x59
    refine ww_iinc (v := x59) (lv2 := [(2, .int x59), (0, .ref (gad g 158)), (3, .int v3)]) C dX11_flowTable_187 1 rfl (by rw [e_x59]; rfl) (Nat.le_of_ble_eq_true rfl) rfl ?_
    refine ww_goto (tgt := 105) C dX11_flowTable_190 (by decide) ?_
    exact ww_sub [1, 0] rfl (h hT)
  · replace h := h.2 q58
    refine ww_iconst (v := 0) C dX11_flowTable_125 (by decide) ?_
    refine ww_istore (lv2 := [(4, .int 0), (0, .ref (gad g 158)), (2, .int v2), (3, .int v3)]) C dX11_flowTable_126 (Nat.le_of_ble_eq_true rfl) rfl ?_
    refine ww_iconst (v := 0) C dX11_flowTable_128 (by decide) ?_
    refine ww_istore (lv2 := [(5, .int 0), (4, .int 0), (0, .ref (gad g 158)), (2, .int v2), (3, .int v3)]) C dX11_flowTable_129 (Nat.le_of_ble_eq_true rfl) rfl ?_
    exact ww_sub [2, 3, 4, 1, 0] rfl (h hT)
set_option maxHeartbeats 4000000 in
set_option maxRecDepth 100000 in
theorem run_X11_flowTable_131 {f : Fx} {g : Gx} {T0 : List (Nat × Nat × Nat)} {S : St} {t : Int32} {P : St → Prop} (C : Cx f g cX11_flowTable 6 RX11) (hrt : (fmeth f).sig.returnType = none)  {v2 : Int32} {v3 : Int32} {v4 : Int32} {v5 : Int32} (h : st_X11_flowTable_131 t P (at_X11_flowTable_2 f g T0 t P) (at_X11_flowTable_35 f g T0 t P) (at_X11_flowTable_64 f g T0 t P) (at_X11_flowTable_79 f g T0 t P) (at_X11_flowTable_105 f g T0 t P) (at_X11_flowTable_115 f g T0 t P) (at_X11_flowTable_131 f g T0 t P) (at_X11_flowTable_167 f g T0 t P) (at_X11_flowTable_195 f g T0 t P) (at_X11_flowTable_205 f g T0 t P) (at_X11_flowTable_243 f g T0 t P) (at_X11_flowTable_261 f g T0 t P) (at_X11_flowTable_271 f g T0 t P) S v2 v3 v4 v5) : at_X11_flowTable_131 f g T0 t P S v2 v3 v4 v5 := by
  intro hT 
  unfold st_X11_flowTable_131 at h
  refine ww_iload C dX11_flowTable_131 4 rfl ?_
  refine ww_aload_n C dX11_flowTable_133 0 rfl ?_
  refine gf_Model_points C bw_927 dX11_flowTable_134 ?_
  refine ww_iload_n C dX11_flowTable_137 1 rfl ?_
  refine ia_m (a := 2) C (by decide) (by decide) h.1 dX11_flowTable_138 ?_
  replace h := h.2
  refine ww_icmp_ge (tgt := 175) C dX11_flowTable_139 (by decide) (fun q60 => ?_) (fun q60 => ?_)
  · replace h := h.1 q60
    refine ww_aload_n C dX11_flowTable_175 0 rfl ?_
    refine ww_iload C dX11_flowTable_176 3 rfl ?_
    refine ww_cVv (As := [.int v4]) (rest := []) C ok_X11_flowShort bw_1101 dX11_flowTable_178 (run_X11_flowShort  (fun _ => h)) rc_Model rfl ⟨Nat.le_of_ble_eq_true rfl, Nat.le_of_ble_eq_true rfl⟩ (Nat.le_of_ble_eq_true rfl) (c2 := 0) (s2 := 0) rfl rfl ⟨Nat.le_of_ble_eq_true rfl, Nat.le_of_ble_eq_true rfl⟩ rfl (fun S61 hp hTg => ?_)
    replace h := hp
    have hT_S61 : S61.2.2.1 = T0 := by rw [hTg]; exact hT
    obtain ⟨x63, e_x63⟩ : ∃ z : Int32, z = v3 + 1 := ⟨_, rfl⟩
    replace h := h x63 e_x63
    refine ww_iinc (v := x63) (lv2 := [(3, .int x63), (0, .ref (gad g 158)), (2, .int v2), (4, .int v4), (5, .int v5)]) C dX11_flowTable_181 2 rfl (by rw [e_x63]; rfl) (Nat.le_of_ble_eq_true rfl) rfl ?_
    refine ww_goto (tgt := 115) C dX11_flowTable_184 (by decide) ?_
    exact ww_sub [1, 2, 0] rfl (h hT_S61)
  · replace h := h.2 q60
    refine ww_aload_n C dX11_flowTable_142 0 rfl ?_
    refine gf_Model_contourOf C bw_931 dX11_flowTable_143 ?_
    refine ww_bipush (v := 16) C dX11_flowTable_146 (by decide) ?_
    refine ww_iload_n C dX11_flowTable_148 1 rfl ?_
    refine ww_imul C dX11_flowTable_149 ?_
    refine ww_iload C dX11_flowTable_150 4 rfl ?_
    refine ww_iadd C dX11_flowTable_152 ?_
    refine ia_m (a := 6) C (by decide) (by decide) h.1 dX11_flowTable_153 ?_
    replace h := h.2
    refine ww_iload_n C dX11_flowTable_154 2 rfl ?_
    refine ww_icmp_ne (tgt := 165) C dX11_flowTable_155 (by decide) (fun q64 => ?_) (fun q64 => ?_)
    · replace h := h.1 q64
      refine ww_iload C dX11_flowTable_165 3 rfl ?_
      exact ww_sub [0, 1, 2, 4] rfl (h hT)
    · replace h := h.2 q64
      refine ww_iload C dX11_flowTable_158 3 rfl ?_
      refine ww_iconst (v := 1) C dX11_flowTable_160 (by decide) ?_
      refine ww_iadd C dX11_flowTable_161 ?_
      refine ww_goto (tgt := 167) C dX11_flowTable_162 (by decide) ?_
      exact ww_sub [0, 1, 2, 4] rfl (h hT)
set_option maxHeartbeats 4000000 in
set_option maxRecDepth 100000 in
theorem run_X11_flowTable_167 {f : Fx} {g : Gx} {T0 : List (Nat × Nat × Nat)} {S : St} {t : Int32} {P : St → Prop} (C : Cx f g cX11_flowTable 6 RX11) (hrt : (fmeth f).sig.returnType = none)  {v2 : Int32} {v3 : Int32} {v5 : Int32} {s0 : Int32} (h : st_X11_flowTable_167 t P (at_X11_flowTable_2 f g T0 t P) (at_X11_flowTable_35 f g T0 t P) (at_X11_flowTable_64 f g T0 t P) (at_X11_flowTable_79 f g T0 t P) (at_X11_flowTable_105 f g T0 t P) (at_X11_flowTable_115 f g T0 t P) (at_X11_flowTable_131 f g T0 t P) (at_X11_flowTable_167 f g T0 t P) (at_X11_flowTable_195 f g T0 t P) (at_X11_flowTable_205 f g T0 t P) (at_X11_flowTable_243 f g T0 t P) (at_X11_flowTable_261 f g T0 t P) (at_X11_flowTable_271 f g T0 t P) S v2 v3 v5 s0) : at_X11_flowTable_167 f g T0 t P S v2 v3 v5 s0 := by
  intro hT 
  unfold st_X11_flowTable_167 at h
  refine ww_istore (lv2 := [(4, .int s0), (0, .ref (gad g 158)), (2, .int v2), (3, .int v3), (5, .int v5)]) C dX11_flowTable_167 (Nat.le_of_ble_eq_true rfl) rfl ?_
  obtain ⟨x65, e_x65⟩ : ∃ z : Int32, z = v5 + 1 := ⟨_, rfl⟩
  replace h := h x65 e_x65
  refine ww_iinc (v := x65) (lv2 := [(5, .int x65), (4, .int s0), (0, .ref (gad g 158)), (2, .int v2), (3, .int v3)]) C dX11_flowTable_169 4 rfl (by rw [e_x65]; rfl) (Nat.le_of_ble_eq_true rfl) rfl ?_
  refine ww_goto (tgt := 131) C dX11_flowTable_172 (by decide) ?_
  exact ww_sub [2, 3, 4, 1, 0] rfl (h hT)
set_option maxHeartbeats 4000000 in
set_option maxRecDepth 100000 in
theorem run_X11_flowTable_195 {f : Fx} {g : Gx} {T0 : List (Nat × Nat × Nat)} {S : St} {t : Int32} {P : St → Prop} (C : Cx f g cX11_flowTable 6 RX11) (hrt : (fmeth f).sig.returnType = none)  {v2 : Int32} (h : st_X11_flowTable_195 t P (at_X11_flowTable_2 f g T0 t P) (at_X11_flowTable_35 f g T0 t P) (at_X11_flowTable_64 f g T0 t P) (at_X11_flowTable_79 f g T0 t P) (at_X11_flowTable_105 f g T0 t P) (at_X11_flowTable_115 f g T0 t P) (at_X11_flowTable_131 f g T0 t P) (at_X11_flowTable_167 f g T0 t P) (at_X11_flowTable_195 f g T0 t P) (at_X11_flowTable_205 f g T0 t P) (at_X11_flowTable_243 f g T0 t P) (at_X11_flowTable_261 f g T0 t P) (at_X11_flowTable_271 f g T0 t P) S v2) : at_X11_flowTable_195 f g T0 t P S v2 := by
  intro hT 
  unfold st_X11_flowTable_195 at h
  refine ww_iload_n C dX11_flowTable_195 1 rfl ?_
  refine ww_aload_n C dX11_flowTable_196 0 rfl ?_
  refine gf_Model_glyphs C bw_924 dX11_flowTable_197 ?_
  refine ww_icmp_ge (tgt := 259) C dX11_flowTable_200 (by decide) (fun q66 => ?_) (fun q66 => ?_)
  · replace h := h.1 q66
    refine ww_iconst (v := 0) C dX11_flowTable_259 (by decide) ?_
    refine ww_istore_n (lv2 := [(2, .int 0), (0, .ref (gad g 158))]) C dX11_flowTable_260 rfl (Nat.le_of_ble_eq_true rfl) rfl ?_
    exact ww_sub [1, 0] rfl (h hT)
  · replace h := h.2 q66
    refine ww_iconst (v := 0) C dX11_flowTable_203 (by decide) ?_
    refine ww_istore_n (lv2 := [(3, .int 0), (0, .ref (gad g 158)), (2, .int v2)]) C dX11_flowTable_204 rfl (Nat.le_of_ble_eq_true rfl) rfl ?_
    exact ww_sub [1, 2, 0] rfl (h hT)
set_option maxHeartbeats 4000000 in
set_option maxRecDepth 100000 in
theorem run_X11_flowTable_205 {f : Fx} {g : Gx} {T0 : List (Nat × Nat × Nat)} {S : St} {t : Int32} {P : St → Prop} (C : Cx f g cX11_flowTable 6 RX11) (hrt : (fmeth f).sig.returnType = none)  {v2 : Int32} {v3 : Int32} (h : st_X11_flowTable_205 t P (at_X11_flowTable_2 f g T0 t P) (at_X11_flowTable_35 f g T0 t P) (at_X11_flowTable_64 f g T0 t P) (at_X11_flowTable_79 f g T0 t P) (at_X11_flowTable_105 f g T0 t P) (at_X11_flowTable_115 f g T0 t P) (at_X11_flowTable_131 f g T0 t P) (at_X11_flowTable_167 f g T0 t P) (at_X11_flowTable_195 f g T0 t P) (at_X11_flowTable_205 f g T0 t P) (at_X11_flowTable_243 f g T0 t P) (at_X11_flowTable_261 f g T0 t P) (at_X11_flowTable_271 f g T0 t P) S v2 v3) : at_X11_flowTable_205 f g T0 t P S v2 v3 := by
  intro hT 
  unfold st_X11_flowTable_205 at h
  refine ww_iload_n C dX11_flowTable_205 2 rfl ?_
  refine ww_aload_n C dX11_flowTable_206 0 rfl ?_
  refine gf_Model_points C bw_927 dX11_flowTable_207 ?_
  refine ww_iload_n C dX11_flowTable_210 1 rfl ?_
  refine ia_m (a := 2) C (by decide) (by decide) h.1 dX11_flowTable_211 ?_
  replace h := h.2
  refine ww_icmp_ge (tgt := 253) C dX11_flowTable_212 (by decide) (fun q67 => ?_) (fun q67 => ?_)
  · replace h := h.1 q67
    obtain ⟨x68, e_x68⟩ : ∃ z : Int32, z = v2 + 1 := ⟨_, rfl⟩
    replace h := h x68 e_x68
    refine ww_iinc (v := x68) (lv2 := [(2, .int x68), (0, .ref (gad g 158)), (3, .int v3)]) C dX11_flowTable_253 1 rfl (by rw [e_x68]; rfl) (Nat.le_of_ble_eq_true rfl) rfl ?_
    refine ww_goto (tgt := 195) C dX11_flowTable_256 (by decide) ?_
    exact ww_sub [1, 0] rfl (h hT)
  · replace h := h.2 q67
    refine ww_aload_n C dX11_flowTable_215 0 rfl ?_
    refine ww_aload_n C dX11_flowTable_216 0 rfl ?_
    refine ww_iload_n C dX11_flowTable_217 1 rfl ?_
    refine ww_iload_n C dX11_flowTable_218 2 rfl ?_
    refine ww_cVi (As := [.int v2, .int v3]) (rest := [.ref (gad g 158)]) C ok_X11_signOf bw_1105 dX11_flowTable_219 (run_X11_signOf  (fun _ => h)) rc_Model rfl ⟨Nat.le_of_ble_eq_true rfl, Nat.le_of_ble_eq_true rfl⟩ (Nat.le_of_ble_eq_true rfl) (c2 := 0) (s2 := 0) rfl rfl ⟨Nat.le_of_ble_eq_true rfl, Nat.le_of_ble_eq_true rfl⟩ rfl (fun r70 S69 hp hTg => ?_)
    replace h := hp
    have hT_S69 : S69.2.2.1 = T0 := by rw [hTg]; exact hT
    refine ww_aload_n C dX11_flowTable_222 0 rfl ?_
    refine gf_Model_on C bw_930 dX11_flowTable_223 ?_
    refine ww_bipush (v := 16) C dX11_flowTable_226 (by decide) ?_
    refine ww_iload_n C dX11_flowTable_228 1 rfl ?_
    refine ww_imul C dX11_flowTable_229 ?_
    refine ww_iload_n C dX11_flowTable_230 2 rfl ?_
    refine ww_iadd C dX11_flowTable_231 ?_
    refine ia_on C h.1 dX11_flowTable_232 ?_
    replace h := h.2
    refine ww_if_eq (tgt := 240) C dX11_flowTable_233 (by decide) (fun q71 => ?_) (fun q71 => ?_)
    · replace h := h.1 q71
      refine ww_sipush (v := 128) C dX11_flowTable_240 (by decide) ?_
      exact ww_sub [0, 1, 2] rfl (h hT_S69)
    · replace h := h.2 q71
      refine ww_iconst (v := 0) C dX11_flowTable_236 (by decide) ?_
      refine ww_goto (tgt := 243) C dX11_flowTable_237 (by decide) ?_
      exact ww_sub [0, 1, 2] rfl (h hT_S69)
set_option maxHeartbeats 4000000 in
set_option maxRecDepth 100000 in
theorem run_X11_flowTable_243 {f : Fx} {g : Gx} {T0 : List (Nat × Nat × Nat)} {S : St} {t : Int32} {P : St → Prop} (C : Cx f g cX11_flowTable 6 RX11) (hrt : (fmeth f).sig.returnType = none)  {v2 : Int32} {v3 : Int32} {s0 : Int32} {s1 : Int32} (h : st_X11_flowTable_243 t P (at_X11_flowTable_2 f g T0 t P) (at_X11_flowTable_35 f g T0 t P) (at_X11_flowTable_64 f g T0 t P) (at_X11_flowTable_79 f g T0 t P) (at_X11_flowTable_105 f g T0 t P) (at_X11_flowTable_115 f g T0 t P) (at_X11_flowTable_131 f g T0 t P) (at_X11_flowTable_167 f g T0 t P) (at_X11_flowTable_195 f g T0 t P) (at_X11_flowTable_205 f g T0 t P) (at_X11_flowTable_243 f g T0 t P) (at_X11_flowTable_261 f g T0 t P) (at_X11_flowTable_271 f g T0 t P) S v2 v3 s0 s1) : at_X11_flowTable_243 f g T0 t P S v2 v3 s0 s1 := by
  intro hT 
  unfold st_X11_flowTable_243 at h
  refine ww_iadd C dX11_flowTable_243 ?_
  refine ww_cVv (As := [.int (s1 + s0)]) (rest := []) C ok_X11_flow bw_1097 dX11_flowTable_244 (run_X11_flow  (fun _ => h)) rc_Model rfl ⟨Nat.le_of_ble_eq_true rfl, Nat.le_of_ble_eq_true rfl⟩ (Nat.le_of_ble_eq_true rfl) (c2 := 0) (s2 := 0) rfl rfl ⟨Nat.le_of_ble_eq_true rfl, Nat.le_of_ble_eq_true rfl⟩ rfl (fun S72 hp hTg => ?_)
  replace h := hp
  have hT_S72 : S72.2.2.1 = T0 := by rw [hTg]; exact hT
  obtain ⟨x74, e_x74⟩ : ∃ z : Int32, z = v3 + 1 := ⟨_, rfl⟩
  replace h := h x74 e_x74
  refine ww_iinc (v := x74) (lv2 := [(3, .int x74), (0, .ref (gad g 158)), (2, .int v2)]) C dX11_flowTable_247 2 rfl (by rw [e_x74]; rfl) (Nat.le_of_ble_eq_true rfl) rfl ?_
  refine ww_goto (tgt := 205) C dX11_flowTable_250 (by decide) ?_
  exact ww_sub [1, 2, 0] rfl (h hT_S72)
set_option maxHeartbeats 4000000 in
set_option maxRecDepth 100000 in
theorem run_X11_flowTable_261 {f : Fx} {g : Gx} {T0 : List (Nat × Nat × Nat)} {S : St} {t : Int32} {P : St → Prop} (C : Cx f g cX11_flowTable 6 RX11) (hrt : (fmeth f).sig.returnType = none)  {v2 : Int32} (h : st_X11_flowTable_261 t P (at_X11_flowTable_2 f g T0 t P) (at_X11_flowTable_35 f g T0 t P) (at_X11_flowTable_64 f g T0 t P) (at_X11_flowTable_79 f g T0 t P) (at_X11_flowTable_105 f g T0 t P) (at_X11_flowTable_115 f g T0 t P) (at_X11_flowTable_131 f g T0 t P) (at_X11_flowTable_167 f g T0 t P) (at_X11_flowTable_195 f g T0 t P) (at_X11_flowTable_205 f g T0 t P) (at_X11_flowTable_243 f g T0 t P) (at_X11_flowTable_261 f g T0 t P) (at_X11_flowTable_271 f g T0 t P) S v2) : at_X11_flowTable_261 f g T0 t P S v2 := by
  intro hT 
  unfold st_X11_flowTable_261 at h
  refine ww_iload_n C dX11_flowTable_261 1 rfl ?_
  refine ww_aload_n C dX11_flowTable_262 0 rfl ?_
  refine gf_Model_glyphs C bw_924 dX11_flowTable_263 ?_
  refine ww_icmp_ge (tgt := 299) C dX11_flowTable_266 (by decide) (fun q75 => ?_) (fun q75 => ?_)
  · replace h := h.1 q75
    exact ww_vret C hrt dX11_flowTable_299 hT h
  · replace h := h.2 q75
    refine ww_iconst (v := 0) C dX11_flowTable_269 (by decide) ?_
    refine ww_istore_n (lv2 := [(3, .int 0), (0, .ref (gad g 158)), (2, .int v2)]) C dX11_flowTable_270 rfl (Nat.le_of_ble_eq_true rfl) rfl ?_
    exact ww_sub [1, 2, 0] rfl (h hT)
set_option maxHeartbeats 4000000 in
set_option maxRecDepth 100000 in
theorem run_X11_flowTable_271 {f : Fx} {g : Gx} {T0 : List (Nat × Nat × Nat)} {S : St} {t : Int32} {P : St → Prop} (C : Cx f g cX11_flowTable 6 RX11) (hrt : (fmeth f).sig.returnType = none)  {v2 : Int32} {v3 : Int32} (h : st_X11_flowTable_271 t P (at_X11_flowTable_2 f g T0 t P) (at_X11_flowTable_35 f g T0 t P) (at_X11_flowTable_64 f g T0 t P) (at_X11_flowTable_79 f g T0 t P) (at_X11_flowTable_105 f g T0 t P) (at_X11_flowTable_115 f g T0 t P) (at_X11_flowTable_131 f g T0 t P) (at_X11_flowTable_167 f g T0 t P) (at_X11_flowTable_195 f g T0 t P) (at_X11_flowTable_205 f g T0 t P) (at_X11_flowTable_243 f g T0 t P) (at_X11_flowTable_261 f g T0 t P) (at_X11_flowTable_271 f g T0 t P) S v2 v3) : at_X11_flowTable_271 f g T0 t P S v2 v3 := by
  intro hT 
  unfold st_X11_flowTable_271 at h
  refine ww_iload_n C dX11_flowTable_271 2 rfl ?_
  refine ww_aload_n C dX11_flowTable_272 0 rfl ?_
  refine gf_Model_points C bw_927 dX11_flowTable_273 ?_
  refine ww_iload_n C dX11_flowTable_276 1 rfl ?_
  refine ia_m (a := 2) C (by decide) (by decide) h.1 dX11_flowTable_277 ?_
  replace h := h.2
  refine ww_icmp_ge (tgt := 293) C dX11_flowTable_278 (by decide) (fun q76 => ?_) (fun q76 => ?_)
  · replace h := h.1 q76
    obtain ⟨x77, e_x77⟩ : ∃ z : Int32, z = v2 + 1 := ⟨_, rfl⟩
    replace h := h x77 e_x77
    refine ww_iinc (v := x77) (lv2 := [(2, .int x77), (0, .ref (gad g 158)), (3, .int v3)]) C dX11_flowTable_293 1 rfl (by rw [e_x77]; rfl) (Nat.le_of_ble_eq_true rfl) rfl ?_
    refine ww_goto (tgt := 261) C dX11_flowTable_296 (by decide) ?_
    exact ww_sub [1, 0] rfl (h hT)
  · replace h := h.2 q76
    refine ww_aload_n C dX11_flowTable_281 0 rfl ?_
    refine ww_iload_n C dX11_flowTable_282 1 rfl ?_
    refine ww_iload_n C dX11_flowTable_283 2 rfl ?_
    refine ww_cVv (As := [.int v2, .int v3]) (rest := []) C ok_X11_flowStep bw_1120 dX11_flowTable_284 (run_X11_flowStep  (fun _ => h)) rc_Model rfl ⟨Nat.le_of_ble_eq_true rfl, Nat.le_of_ble_eq_true rfl⟩ (Nat.le_of_ble_eq_true rfl) (c2 := 0) (s2 := 0) rfl rfl ⟨Nat.le_of_ble_eq_true rfl, Nat.le_of_ble_eq_true rfl⟩ rfl (fun S78 hp hTg => ?_)
    replace h := hp
    have hT_S78 : S78.2.2.1 = T0 := by rw [hTg]; exact hT
    obtain ⟨x80, e_x80⟩ : ∃ z : Int32, z = v3 + 1 := ⟨_, rfl⟩
    replace h := h x80 e_x80
    refine ww_iinc (v := x80) (lv2 := [(3, .int x80), (0, .ref (gad g 158)), (2, .int v2)]) C dX11_flowTable_287 2 rfl (by rw [e_x80]; rfl) (Nat.le_of_ble_eq_true rfl) rfl ?_
    refine ww_goto (tgt := 271) C dX11_flowTable_290 (by decide) ?_
    exact ww_sub [1, 2, 0] rfl (h hT_S78)
def wp_X11_flowTable (S : St) (t : Int32) (P : St → Prop) : Prop :=
  ∀ (X2 : St → Int32 → Prop) (X35 : St → Int32 → Prop) (X64 : St → Prop) (X79 : St → Int32 → Prop) (X105 : St → Int32 → Prop) (X115 : St → Int32 → Int32 → Prop) (X131 : St → Int32 → Int32 → Int32 → Int32 → Prop) (X167 : St → Int32 → Int32 → Int32 → Int32 → Prop) (X195 : St → Int32 → Prop) (X205 : St → Int32 → Int32 → Prop) (X243 : St → Int32 → Int32 → Int32 → Int32 → Prop) (X261 : St → Int32 → Prop) (X271 : St → Int32 → Int32 → Prop), (∀ S v2, st_X11_flowTable_2 t P X2 X35 X64 X79 X105 X115 X131 X167 X195 X205 X243 X261 X271 S v2 → X2 S v2) → (∀ S v2, st_X11_flowTable_35 t P X2 X35 X64 X79 X105 X115 X131 X167 X195 X205 X243 X261 X271 S v2 → X35 S v2) → (∀ S , st_X11_flowTable_64 t P X2 X35 X64 X79 X105 X115 X131 X167 X195 X205 X243 X261 X271 S  → X64 S ) → (∀ S v2, st_X11_flowTable_79 t P X2 X35 X64 X79 X105 X115 X131 X167 X195 X205 X243 X261 X271 S v2 → X79 S v2) → (∀ S v2, st_X11_flowTable_105 t P X2 X35 X64 X79 X105 X115 X131 X167 X195 X205 X243 X261 X271 S v2 → X105 S v2) → (∀ S v2 v3, st_X11_flowTable_115 t P X2 X35 X64 X79 X105 X115 X131 X167 X195 X205 X243 X261 X271 S v2 v3 → X115 S v2 v3) → (∀ S v2 v3 v4 v5, st_X11_flowTable_131 t P X2 X35 X64 X79 X105 X115 X131 X167 X195 X205 X243 X261 X271 S v2 v3 v4 v5 → X131 S v2 v3 v4 v5) → (∀ S v2 v3 v5 s0, st_X11_flowTable_167 t P X2 X35 X64 X79 X105 X115 X131 X167 X195 X205 X243 X261 X271 S v2 v3 v5 s0 → X167 S v2 v3 v5 s0) → (∀ S v2, st_X11_flowTable_195 t P X2 X35 X64 X79 X105 X115 X131 X167 X195 X205 X243 X261 X271 S v2 → X195 S v2) → (∀ S v2 v3, st_X11_flowTable_205 t P X2 X35 X64 X79 X105 X115 X131 X167 X195 X205 X243 X261 X271 S v2 v3 → X205 S v2 v3) → (∀ S v2 v3 s0 s1, st_X11_flowTable_243 t P X2 X35 X64 X79 X105 X115 X131 X167 X195 X205 X243 X261 X271 S v2 v3 s0 s1 → X243 S v2 v3 s0 s1) → (∀ S v2, st_X11_flowTable_261 t P X2 X35 X64 X79 X105 X115 X131 X167 X195 X205 X243 X261 X271 S v2 → X261 S v2) → (∀ S v2 v3, st_X11_flowTable_271 t P X2 X35 X64 X79 X105 X115 X131 X167 X195 X205 X243 X261 X271 S v2 v3 → X271 S v2 v3) → X2 S 0
set_option maxHeartbeats 4000000 in
set_option maxRecDepth 100000 in
theorem run_X11_flowTable {l : Launch} {g : Gx} {S : St} {t : Int32} {P : St → Prop}  (h : rowsLe S → wp_X11_flowTable S t P) : CMv g l yX11_flowTable cX11_flowTable 6 none rm_X11_flowTable [.ref (gad g 158), .int t] S P := cm_entry (own := RX11) (plainFor_of_name (by decide)) rfl (Nat.le_of_ble_eq_true rfl) rfl (fun hle f hf C hrt => by
  subst hf
  replace h := h hle
  obtain ⟨T0, hT⟩ : ∃ T, S.2.2.1 = T := ⟨_, rfl⟩
  rw [hT]
  replace h := h (at_X11_flowTable_2 f g T0 t P) (at_X11_flowTable_35 f g T0 t P) (at_X11_flowTable_64 f g T0 t P) (at_X11_flowTable_79 f g T0 t P) (at_X11_flowTable_105 f g T0 t P) (at_X11_flowTable_115 f g T0 t P) (at_X11_flowTable_131 f g T0 t P) (at_X11_flowTable_167 f g T0 t P) (at_X11_flowTable_195 f g T0 t P) (at_X11_flowTable_205 f g T0 t P) (at_X11_flowTable_243 f g T0 t P) (at_X11_flowTable_261 f g T0 t P) (at_X11_flowTable_271 f g T0 t P) (fun S v2 h => run_X11_flowTable_2 C hrt  h) (fun S v2 h => run_X11_flowTable_35 C hrt  h) (fun S  h => run_X11_flowTable_64 C hrt  h) (fun S v2 h => run_X11_flowTable_79 C hrt  h) (fun S v2 h => run_X11_flowTable_105 C hrt  h) (fun S v2 v3 h => run_X11_flowTable_115 C hrt  h) (fun S v2 v3 v4 v5 h => run_X11_flowTable_131 C hrt  h) (fun S v2 v3 v5 s0 h => run_X11_flowTable_167 C hrt  h) (fun S v2 h => run_X11_flowTable_195 C hrt  h) (fun S v2 v3 h => run_X11_flowTable_205 C hrt  h) (fun S v2 v3 s0 s1 h => run_X11_flowTable_243 C hrt  h) (fun S v2 h => run_X11_flowTable_261 C hrt  h) (fun S v2 v3 h => run_X11_flowTable_271 C hrt  h)
  refine ww_iconst (v := 0) C dX11_flowTable_0 (by decide) ?_
  refine ww_istore_n (lv2 := [(2, .int 0), (0, .ref (gad g 158)), (1, .int t)]) C dX11_flowTable_1 rfl (Nat.le_of_ble_eq_true rfl) rfl ?_
  exact ww_sub [1, 2, 0] rfl (h hT))
abbrev rm_X11_bit : Room := { frames := 1, cells := 0, slots := 0, locals := 21 }
theorem ok_X11_bit : MOK yX11_bit RX11 cX11_bit 2 none 1 := ⟨bw_1162, bw_37, bw_69, bw_1163, by decide +kernel⟩
def wp_X11_bit_49 (b : Int32) (S : St)  (P : St → Prop) : Prop :=
  P S
set_option maxHeartbeats 4000000 in
set_option maxRecDepth 100000 in
theorem run_X11_bit_49 {f : Fx} {g : Gx} {T0 : List (Nat × Nat × Nat)} {S : St} {b : Int32} {P : St → Prop} (C : Cx f g cX11_bit 2 RX11) (hrt : (fmeth f).sig.returnType = none)   (hT : S.2.2.1 = T0)  (h : wp_X11_bit_49 b S  P) : WW f rm_X11_bit g 2 0 0 (Qv f g 0 0 T0 P) S 49 [] [] := by
  unfold wp_X11_bit_49 at h
  exact ww_vret C hrt dX11_bit_49 hT h
def wp_X11_bit (S : St) (b : Int32) (P : St → Prop) : Prop :=
  ∀ S8 : St, S8 = stM S 9 6 ((2 * (S.2.1 9 6)) + b) → ∀ S9 : St, S9 = stM S8 9 7 ((S8.2.1 9 7) + 1) → ((¬ (S9.2.1 9 7) = 8 → wp_X11_bit_49 b S9  P) ∧ ((S9.2.1 9 7) = 8 → wp_X11_add S9 (S9.2.1 9 6) (fun S11 => ∀ S13 : St, S13 = stM S11 9 6 0 → ∀ S14 : St, S14 = stM S13 9 7 0 → wp_X11_bit_49 b S14  P)))
set_option maxHeartbeats 4000000 in
set_option maxRecDepth 100000 in
theorem run_X11_bit {l : Launch} {g : Gx} {S : St} {b : Int32} {P : St → Prop}  (h : rowsLe S → wp_X11_bit S b P) : CMv g l yX11_bit cX11_bit 2 none rm_X11_bit [.ref (gad g 158), .int b] S P := cm_entry (own := RX11) (plainFor_of_name (by decide)) rfl (Nat.le_of_ble_eq_true rfl) rfl (fun hle f hf C hrt => by
  subst hf
  replace h := h hle
  obtain ⟨T0, hT⟩ : ∃ T, S.2.2.1 = T := ⟨_, rfl⟩
  rw [hT]
  unfold wp_X11_bit at h
  refine ww_aload_n C dX11_bit_0 0 rfl ?_
  refine ww_iconst (v := 2) C dX11_bit_1 (by decide) ?_
  refine ww_aload_n C dX11_bit_2 0 rfl ?_
  refine gf_Model_held C bw_951 dX11_bit_3 ?_
  refine ww_imul C dX11_bit_6 ?_
  refine ww_iload_n C dX11_bit_7 1 rfl ?_
  refine ww_iadd C dX11_bit_8 ?_
  refine pf_Model_held C bw_951 dX11_bit_9 ?_
  refine ww_nm (fun S8 e_S8 => ?_)
  replace h := h S8 e_S8
  have hT_S8 : S8.2.2.1 = T0 := by rw [e_S8]; exact hT
  refine ww_aload_n C dX11_bit_12 0 rfl ?_
  refine ww_dup C dX11_bit_13 rfl ?_
  refine gf_Model_heldBits C bw_952 dX11_bit_14 ?_
  refine ww_iconst (v := 1) C dX11_bit_17 (by decide) ?_
  refine ww_iadd C dX11_bit_18 ?_
  refine pf_Model_heldBits C bw_952 dX11_bit_19 ?_
  refine ww_nm (fun S9 e_S9 => ?_)
  replace h := h S9 e_S9
  have hT_S9 : S9.2.2.1 = T0 := by rw [e_S9]; exact hT_S8
  refine ww_aload_n C dX11_bit_22 0 rfl ?_
  refine gf_Model_heldBits C bw_952 dX11_bit_23 ?_
  refine ww_bipush (v := 8) C dX11_bit_26 (by decide) ?_
  refine ww_icmp_ne (tgt := 49) C dX11_bit_28 (by decide) (fun q10 => ?_) (fun q10 => ?_)
  · replace h := h.1 q10
    exact ww_sub [] rfl (run_X11_bit_49 C hrt  hT_S9  h)
  · replace h := h.2 q10
    refine ww_aload_n C dX11_bit_31 0 rfl ?_
    refine ww_aload_n C dX11_bit_32 0 rfl ?_
    refine gf_Model_held C bw_951 dX11_bit_33 ?_
    refine ww_cVv (As := [.int (S9.2.1 9 6)]) (rest := []) C ok_X11_add bw_1081 dX11_bit_36 (run_X11_add  (fun _ => h)) rc_Model rfl ⟨Nat.le_of_ble_eq_true rfl, Nat.le_of_ble_eq_true rfl⟩ (Nat.le_of_ble_eq_true rfl) (c2 := 0) (s2 := 0) rfl rfl ⟨Nat.le_of_ble_eq_true rfl, Nat.le_of_ble_eq_true rfl⟩ rfl (fun S11 hp hTg => ?_)
    replace h := hp
    have hT_S11 : S11.2.2.1 = T0 := by rw [hTg]; exact hT_S9
    refine ww_aload_n C dX11_bit_39 0 rfl ?_
    refine ww_iconst (v := 0) C dX11_bit_40 (by decide) ?_
    refine pf_Model_held C bw_951 dX11_bit_41 ?_
    refine ww_nm (fun S13 e_S13 => ?_)
    replace h := h S13 e_S13
    have hT_S13 : S13.2.2.1 = T0 := by rw [e_S13]; exact hT_S11
    refine ww_aload_n C dX11_bit_44 0 rfl ?_
    refine ww_iconst (v := 0) C dX11_bit_45 (by decide) ?_
    refine pf_Model_heldBits C bw_952 dX11_bit_46 ?_
    refine ww_nm (fun S14 e_S14 => ?_)
    replace h := h S14 e_S14
    have hT_S14 : S14.2.2.1 = T0 := by rw [e_S14]; exact hT_S13
    exact ww_sub [] rfl (run_X11_bit_49 C hrt  hT_S14  h))
abbrev rm_X11_bits : Room := { frames := 2, cells := 0, slots := 0, locals := 42 }
theorem ok_X11_bits : MOK yX11_bits RX11 cX11_bits 4 none 2 := ⟨bw_1170, bw_39, bw_69, bw_1171, by decide +kernel⟩
def st_X11_bits_4 (v : Int32) (n : Int32) (P : St → Prop) (X4 : St → Int32 → Prop) (S : St) (v3 : Int32) : Prop :=
  ((v3 < 0 → P S) ∧ (¬ v3 < 0 → wp_X11_bit S ((v >>> (v3 &&& 31)) &&& 1) (fun S7 => ∀ x9 : Int32, x9 = v3 + (-1) → X4 S7 x9)))
def at_X11_bits_4 (f : Fx) (g : Gx) (T0 : List (Nat × Nat × Nat)) (v : Int32) (n : Int32) (P : St → Prop) (S : St) (v3 : Int32) : Prop := S.2.2.1 = T0 → WW f rm_X11_bits g 4 0 0 (Qv f g 0 0 T0 P) S 4 [(0, .ref (gad g 158)), (1, .int v), (3, .int v3)] []
set_option maxHeartbeats 4000000 in
set_option maxRecDepth 100000 in
theorem run_X11_bits_4 {f : Fx} {g : Gx} {T0 : List (Nat × Nat × Nat)} {S : St} {v : Int32} {n : Int32} {P : St → Prop} (C : Cx f g cX11_bits 4 RX11) (hrt : (fmeth f).sig.returnType = none)  {v3 : Int32} (h : st_X11_bits_4 v n P (at_X11_bits_4 f g T0 v n P) S v3) : at_X11_bits_4 f g T0 v n P S v3 := by
  intro hT 
  unfold st_X11_bits_4 at h
  refine ww_iload_n C dX11_bits_4 2 rfl ?_
  refine ww_if_lt (tgt := 23) C dX11_bits_5 (by decide) (fun q6 => ?_) (fun q6 => ?_)
  · replace h := h.1 q6
    exact ww_vret C hrt dX11_bits_23 hT h
  · replace h := h.2 q6
    refine ww_aload_n C dX11_bits_8 0 rfl ?_
    refine ww_iload_n C dX11_bits_9 1 rfl ?_
    refine ww_iload_n C dX11_bits_10 2 rfl ?_
    refine ww_ishr C dX11_bits_11 ?_
    refine ww_iconst (v := 1) C dX11_bits_12 (by decide) ?_
    refine ww_iand C dX11_bits_13 ?_
    refine ww_cVv (As := [.int ((v >>> (v3 &&& 31)) &&& 1)]) (rest := []) C ok_X11_bit bw_1160 dX11_bits_14 (run_X11_bit  (fun _ => h)) rc_Model rfl ⟨Nat.le_of_ble_eq_true rfl, Nat.le_of_ble_eq_true rfl⟩ (Nat.le_of_ble_eq_true rfl) (c2 := 0) (s2 := 0) rfl rfl ⟨Nat.le_of_ble_eq_true rfl, Nat.le_of_ble_eq_true rfl⟩ rfl (fun S7 hp hTg => ?_)
    replace h := hp
    have hT_S7 : S7.2.2.1 = T0 := by rw [hTg]; exact hT
    obtain ⟨x9, e_x9⟩ : ∃ z : Int32, z = v3 + (-1) := ⟨_, rfl⟩
    replace h := h x9 e_x9
    refine ww_iinc (v := x9) (lv2 := [(3, .int x9), (0, .ref (gad g 158)), (1, .int v)]) C dX11_bits_17 2 rfl (by rw [e_x9]; rfl) (Nat.le_of_ble_eq_true rfl) rfl ?_
    refine ww_goto (tgt := 4) C dX11_bits_20 (by decide) ?_
    exact ww_sub [1, 2, 0] rfl (h hT_S7)
def wp_X11_bits (S : St) (v : Int32) (n : Int32) (P : St → Prop) : Prop :=
  ∀ (X4 : St → Int32 → Prop), (∀ S v3, st_X11_bits_4 v n P X4 S v3 → X4 S v3) → ∀ x10 : Int32, x10 = n - 1 → X4 S x10
set_option maxHeartbeats 4000000 in
set_option maxRecDepth 100000 in
theorem run_X11_bits {l : Launch} {g : Gx} {S : St} {v : Int32} {n : Int32} {P : St → Prop}  (h : rowsLe S → wp_X11_bits S v n P) : CMv g l yX11_bits cX11_bits 4 none rm_X11_bits [.ref (gad g 158), .int v, .int n] S P := cm_entry (own := RX11) (plainFor_of_name (by decide)) rfl (Nat.le_of_ble_eq_true rfl) rfl (fun hle f hf C hrt => by
  subst hf
  replace h := h hle
  obtain ⟨T0, hT⟩ : ∃ T, S.2.2.1 = T := ⟨_, rfl⟩
  rw [hT]
  replace h := h (at_X11_bits_4 f g T0 v n P) (fun S v3 h => run_X11_bits_4 C hrt  h)
  refine ww_iload_n C dX11_bits_0 2 rfl ?_
  refine ww_iconst (v := 1) C dX11_bits_1 (by decide) ?_
  refine ww_isub C dX11_bits_2 ?_
  refine ww_topi (fun x10 e_x10 => ?_)
  replace h := h x10 e_x10
  refine ww_istore_n (lv2 := [(3, .int x10), (0, .ref (gad g 158)), (1, .int v), (2, .int n)]) C dX11_bits_3 rfl (Nat.le_of_ble_eq_true rfl) rfl ?_
  exact ww_sub [1, 2, 0] rfl (h hT))
abbrev rm_X11_gamma : Room := { frames := 3, cells := 0, slots := 0, locals := 65 }
theorem ok_X11_gamma : MOK yX11_gamma RX11 cX11_gamma 3 none 1 := ⟨bw_1166, bw_38, bw_69, bw_1167, by decide +kernel⟩
def st_X11_gamma_2 (v : Int32) (P : St → Prop) (X2 : St → Int32 → Prop) (S : St) (v2 : Int32) : Prop :=
  (((v >>> (v2 &&& 31)) ≤ 1 → wp_X11_bits S 0 v2 (fun S8 => wp_X11_bits S8 v (v2 + 1) (fun S10 => P S10))) ∧ (¬ (v >>> (v2 &&& 31)) ≤ 1 → ∀ x12 : Int32, x12 = v2 + 1 → X2 S x12))
def at_X11_gamma_2 (f : Fx) (g : Gx) (T0 : List (Nat × Nat × Nat)) (v : Int32) (P : St → Prop) (S : St) (v2 : Int32) : Prop := S.2.2.1 = T0 → WW f rm_X11_gamma g 3 0 0 (Qv f g 0 0 T0 P) S 2 [(0, .ref (gad g 158)), (1, .int v), (2, .int v2)] []
set_option maxHeartbeats 4000000 in
set_option maxRecDepth 100000 in
theorem run_X11_gamma_2 {f : Fx} {g : Gx} {T0 : List (Nat × Nat × Nat)} {S : St} {v : Int32} {P : St → Prop} (C : Cx f g cX11_gamma 3 RX11) (hrt : (fmeth f).sig.returnType = none)  {v2 : Int32} (h : st_X11_gamma_2 v P (at_X11_gamma_2 f g T0 v P) S v2) : at_X11_gamma_2 f g T0 v P S v2 := by
  intro hT 
  unfold st_X11_gamma_2 at h
  refine ww_iload_n C dX11_gamma_2 1 rfl ?_
  refine ww_iload_n C dX11_gamma_3 2 rfl ?_
  refine ww_ishr C dX11_gamma_4 ?_
  refine ww_iconst (v := 1) C dX11_gamma_5 (by decide) ?_
  refine ww_icmp_le (tgt := 15) C dX11_gamma_6 (by decide) (fun q7 => ?_) (fun q7 => ?_)
  · replace h := h.1 q7
    refine ww_aload_n C dX11_gamma_15 0 rfl ?_
    refine ww_iconst (v := 0) C dX11_gamma_16 (by decide) ?_
    refine ww_iload_n C dX11_gamma_17 2 rfl ?_
    refine ww_cVv (As := [.int 0, .int v2]) (rest := []) C ok_X11_bits bw_1168 dX11_gamma_18 (run_X11_bits  (fun _ => h)) rc_Model rfl ⟨Nat.le_of_ble_eq_true rfl, Nat.le_of_ble_eq_true rfl⟩ (Nat.le_of_ble_eq_true rfl) (c2 := 0) (s2 := 0) rfl rfl ⟨Nat.le_of_ble_eq_true rfl, Nat.le_of_ble_eq_true rfl⟩ rfl (fun S8 hp hTg => ?_)
    replace h := hp
    have hT_S8 : S8.2.2.1 = T0 := by rw [hTg]; exact hT
    refine ww_aload_n C dX11_gamma_21 0 rfl ?_
    refine ww_iload_n C dX11_gamma_22 1 rfl ?_
    refine ww_iload_n C dX11_gamma_23 2 rfl ?_
    refine ww_iconst (v := 1) C dX11_gamma_24 (by decide) ?_
    refine ww_iadd C dX11_gamma_25 ?_
    refine ww_cVv (As := [.int v, .int (v2 + 1)]) (rest := []) C ok_X11_bits bw_1168 dX11_gamma_26 (run_X11_bits  (fun _ => h)) rc_Model rfl ⟨Nat.le_of_ble_eq_true rfl, Nat.le_of_ble_eq_true rfl⟩ (Nat.le_of_ble_eq_true rfl) (c2 := 0) (s2 := 0) rfl rfl ⟨Nat.le_of_ble_eq_true rfl, Nat.le_of_ble_eq_true rfl⟩ rfl (fun S10 hp hTg => ?_)
    replace h := hp
    have hT_S10 : S10.2.2.1 = T0 := by rw [hTg]; exact hT_S8
    exact ww_vret C hrt dX11_gamma_29 hT_S10 h
  · replace h := h.2 q7
    obtain ⟨x12, e_x12⟩ : ∃ z : Int32, z = v2 + 1 := ⟨_, rfl⟩
    replace h := h x12 e_x12
    refine ww_iinc (v := x12) (lv2 := [(2, .int x12), (0, .ref (gad g 158)), (1, .int v)]) C dX11_gamma_9 2 rfl (by rw [e_x12]; rfl) (Nat.le_of_ble_eq_true rfl) rfl ?_
    refine ww_goto (tgt := 2) C dX11_gamma_12 (by decide) ?_
    exact ww_sub [1, 2, 0] rfl (h hT)
def wp_X11_gamma (S : St) (v : Int32) (P : St → Prop) : Prop :=
  ∀ (X2 : St → Int32 → Prop), (∀ S v2, st_X11_gamma_2 v P X2 S v2 → X2 S v2) → X2 S 0
set_option maxHeartbeats 4000000 in
set_option maxRecDepth 100000 in
theorem run_X11_gamma {l : Launch} {g : Gx} {S : St} {v : Int32} {P : St → Prop}  (h : rowsLe S → wp_X11_gamma S v P) : CMv g l yX11_gamma cX11_gamma 3 none rm_X11_gamma [.ref (gad g 158), .int v] S P := cm_entry (own := RX11) (plainFor_of_name (by decide)) rfl (Nat.le_of_ble_eq_true rfl) rfl (fun hle f hf C hrt => by
  subst hf
  replace h := h hle
  obtain ⟨T0, hT⟩ : ∃ T, S.2.2.1 = T := ⟨_, rfl⟩
  rw [hT]
  replace h := h (at_X11_gamma_2 f g T0 v P) (fun S v2 h => run_X11_gamma_2 C hrt  h)
  refine ww_iconst (v := 0) C dX11_gamma_0 (by decide) ?_
  refine ww_istore_n (lv2 := [(2, .int 0), (0, .ref (gad g 158)), (1, .int v)]) C dX11_gamma_1 rfl (Nat.le_of_ble_eq_true rfl) rfl ?_
  exact ww_sub [1, 2, 0] rfl (h hT))
abbrev rm_X11_alike : Room := { frames := 0, cells := 0, slots := 0, locals := 0 }
theorem ok_X11_alike : MOK yX11_alike RX11 cX11_alike 4 (some .int) 2 := ⟨bw_1158, bw_36, bw_69, bw_1159, by decide +kernel⟩
def st_X11_alike_2 (k : Int32) (d : Int32) (P : Int32 → St → Prop) (X2 : St → Int32 → Prop) (X39 : St → Int32 → Prop) (S : St) (v3 : Int32) : Prop :=
  (((S.2.1 9 4) ≤ (k + v3) → X39 S v3) ∧ (¬ (S.2.1 9 4) ≤ (k + v3) → (vp_in (k + v3) (gw_ml 20) ∧ (vp_in ((k + v3) - d) (gw_ml 20) ∧ ((¬ (S.2.1 30 (k + v3).toNatClampNeg) = (S.2.1 30 ((k + v3) - d).toNatClampNeg) → X39 S v3) ∧ ((S.2.1 30 (k + v3).toNatClampNeg) = (S.2.1 30 ((k + v3) - d).toNatClampNeg) → ∀ x6 : Int32, x6 = v3 + 1 → X2 S x6))))))
def st_X11_alike_39 (k : Int32) (d : Int32) (P : Int32 → St → Prop) (X2 : St → Int32 → Prop) (X39 : St → Int32 → Prop) (S : St) (v3 : Int32) : Prop :=
  P v3 S
def at_X11_alike_2 (f : Fx) (g : Gx) (T0 : List (Nat × Nat × Nat)) (k : Int32) (d : Int32) (P : Int32 → St → Prop) (S : St) (v3 : Int32) : Prop := S.2.2.1 = T0 → WW f rm_X11_alike g 4 0 0 (Qi f g 0 0 T0 P) S 2 [(0, .ref (gad g 158)), (1, .int k), (2, .int d), (3, .int v3)] []
def at_X11_alike_39 (f : Fx) (g : Gx) (T0 : List (Nat × Nat × Nat)) (k : Int32) (d : Int32) (P : Int32 → St → Prop) (S : St) (v3 : Int32) : Prop := S.2.2.1 = T0 → WW f rm_X11_alike g 4 0 0 (Qi f g 0 0 T0 P) S 39 [(3, .int v3)] []
set_option maxHeartbeats 4000000 in
set_option maxRecDepth 100000 in
theorem run_X11_alike_2 {f : Fx} {g : Gx} {T0 : List (Nat × Nat × Nat)} {S : St} {k : Int32} {d : Int32} {P : Int32 → St → Prop} (C : Cx f g cX11_alike 4 RX11) (hrt : (fmeth f).sig.returnType = (some .int))  {v3 : Int32} (h : st_X11_alike_2 k d P (at_X11_alike_2 f g T0 k d P) (at_X11_alike_39 f g T0 k d P) S v3) : at_X11_alike_2 f g T0 k d P S v3 := by
  intro hT 
  unfold st_X11_alike_2 at h
  refine ww_iload_n C dX11_alike_2 1 rfl ?_
  refine ww_iload_n C dX11_alike_3 3 rfl ?_
  refine ww_iadd C dX11_alike_4 ?_
  refine ww_aload_n C dX11_alike_5 0 rfl ?_
  refine gf_Model_streamed C bw_947 dX11_alike_6 ?_
  refine ww_icmp_ge (tgt := 39) C dX11_alike_9 (by decide) (fun q4 => ?_) (fun q4 => ?_)
  · replace h := h.1 q4
    exact ww_sub [3] rfl (h hT)
  · replace h := h.2 q4
    refine ww_aload_n C dX11_alike_12 0 rfl ?_
    refine gf_Model_stream C bw_948 dX11_alike_13 ?_
    refine ww_iload_n C dX11_alike_16 1 rfl ?_
    refine ww_iload_n C dX11_alike_17 3 rfl ?_
    refine ww_iadd C dX11_alike_18 ?_
    refine ia_m (a := 20) C (by decide) (by decide) h.1 dX11_alike_19 ?_
    replace h := h.2
    refine ww_aload_n C dX11_alike_20 0 rfl ?_
    refine gf_Model_stream C bw_948 dX11_alike_21 ?_
    refine ww_iload_n C dX11_alike_24 1 rfl ?_
    refine ww_iload_n C dX11_alike_25 3 rfl ?_
    refine ww_iadd C dX11_alike_26 ?_
    refine ww_iload_n C dX11_alike_27 2 rfl ?_
    refine ww_isub C dX11_alike_28 ?_
    refine ia_m (a := 20) C (by decide) (by decide) h.1 dX11_alike_29 ?_
    replace h := h.2
    refine ww_icmp_ne (tgt := 39) C dX11_alike_30 (by decide) (fun q5 => ?_) (fun q5 => ?_)
    · replace h := h.1 q5
      exact ww_sub [3] rfl (h hT)
    · replace h := h.2 q5
      obtain ⟨x6, e_x6⟩ : ∃ z : Int32, z = v3 + 1 := ⟨_, rfl⟩
      replace h := h x6 e_x6
      refine ww_iinc (v := x6) (lv2 := [(3, .int x6), (0, .ref (gad g 158)), (1, .int k), (2, .int d)]) C dX11_alike_33 3 rfl (by rw [e_x6]; rfl) (Nat.le_of_ble_eq_true rfl) rfl ?_
      refine ww_goto (tgt := 2) C dX11_alike_36 (by decide) ?_
      exact ww_sub [1, 2, 3, 0] rfl (h hT)
set_option maxHeartbeats 4000000 in
set_option maxRecDepth 100000 in
theorem run_X11_alike_39 {f : Fx} {g : Gx} {T0 : List (Nat × Nat × Nat)} {S : St} {k : Int32} {d : Int32} {P : Int32 → St → Prop} (C : Cx f g cX11_alike 4 RX11) (hrt : (fmeth f).sig.returnType = (some .int))  {v3 : Int32} (h : st_X11_alike_39 k d P (at_X11_alike_2 f g T0 k d P) (at_X11_alike_39 f g T0 k d P) S v3) : at_X11_alike_39 f g T0 k d P S v3 := by
  intro hT 
  unfold st_X11_alike_39 at h
  refine ww_iload_n C dX11_alike_39 0 rfl ?_
  exact ww_iret C hrt dX11_alike_40 hT h
def wp_X11_alike (S : St) (k : Int32) (d : Int32) (P : Int32 → St → Prop) : Prop :=
  ∀ (X2 : St → Int32 → Prop) (X39 : St → Int32 → Prop), (∀ S v3, st_X11_alike_2 k d P X2 X39 S v3 → X2 S v3) → (∀ S v3, st_X11_alike_39 k d P X2 X39 S v3 → X39 S v3) → X2 S 0
set_option maxHeartbeats 4000000 in
set_option maxRecDepth 100000 in
theorem run_X11_alike {l : Launch} {g : Gx} {S : St} {k : Int32} {d : Int32} {P : Int32 → St → Prop}  (h : rowsLe S → wp_X11_alike S k d P) : CMi g l yX11_alike cX11_alike 4 (some .int) rm_X11_alike [.ref (gad g 158), .int k, .int d] S P := cm_entry (own := RX11) (plainFor_of_name (by decide)) rfl (Nat.le_of_ble_eq_true rfl) rfl (fun hle f hf C hrt => by
  subst hf
  replace h := h hle
  obtain ⟨T0, hT⟩ : ∃ T, S.2.2.1 = T := ⟨_, rfl⟩
  rw [hT]
  replace h := h (at_X11_alike_2 f g T0 k d P) (at_X11_alike_39 f g T0 k d P) (fun S v3 h => run_X11_alike_2 C hrt  h) (fun S v3 h => run_X11_alike_39 C hrt  h)
  refine ww_iconst (v := 0) C dX11_alike_0 (by decide) ?_
  refine ww_istore_n (lv2 := [(3, .int 0), (0, .ref (gad g 158)), (1, .int k), (2, .int d)]) C dX11_alike_1 rfl (Nat.le_of_ble_eq_true rfl) rfl ?_
  exact ww_sub [1, 2, 3, 0] rfl (h hT))
abbrev rm_X11_compress : Room := { frames := 4, cells := 0, slots := 0, locals := 87 }
theorem ok_X11_compress : MOK yX11_compress RX11 cX11_compress 6 none 0 := ⟨bw_1154, bw_35, bw_69, bw_1155, by decide +kernel⟩
def st_X11_compress_12  (P : St → Prop) (X12 : St → Int32 → Prop) (X27 : St → Int32 → Int32 → Int32 → Int32 → Prop) (X54 : St → Int32 → Int32 → Int32 → Int32 → Int32 → Prop) (X67 : St → Int32 → Int32 → Int32 → Int32 → Prop) (X118 : St → Int32 → Prop) (X121 : St → Prop) (S : St) (v1 : Int32) : Prop :=
  (((S.2.1 9 4) ≤ v1 → X121 S) ∧ (¬ (S.2.1 9 4) ≤ v1 → X27 S v1 0 0 v1))
def st_X11_compress_27  (P : St → Prop) (X12 : St → Int32 → Prop) (X27 : St → Int32 → Int32 → Int32 → Int32 → Prop) (X54 : St → Int32 → Int32 → Int32 → Int32 → Int32 → Prop) (X67 : St → Int32 → Int32 → Int32 → Int32 → Prop) (X118 : St → Int32 → Prop) (X121 : St → Prop) (S : St) (v1 : Int32) (v2 : Int32) (v3 : Int32) (v4 : Int32) : Prop :=
  ((v4 < 1 → ((v2 ≤ 2 → (vp_in v1 (gw_ml 20) ∧ wp_X11_bits S (S.2.1 30 v1.toNatClampNeg) 9 (fun S27 => ∀ x29 : Int32, x29 = v1 + 1 → X118 S27 x29))) ∧ (¬ v2 ≤ 2 → wp_X11_bit S 1 (fun S30 => wp_X11_gamma S30 (v2 - 2) (fun S32 => wp_X11_gamma S32 v3 (fun S34 => ∀ x36 : Int32, x36 = v1 + v2 → X118 S34 x36)))))) ∧ (¬ v4 < 1 → wp_X11_alike S v1 v4 (fun r38 S37 => ((r38 < v2 → X54 S37 v1 v2 v4 r38 v3) ∧ (¬ r38 < v2 → X54 S37 v1 v2 v4 r38 v4)))))
def st_X11_compress_54  (P : St → Prop) (X12 : St → Int32 → Prop) (X27 : St → Int32 → Int32 → Int32 → Int32 → Prop) (X54 : St → Int32 → Int32 → Int32 → Int32 → Int32 → Prop) (X67 : St → Int32 → Int32 → Int32 → Int32 → Prop) (X118 : St → Int32 → Prop) (X121 : St → Prop) (S : St) (v1 : Int32) (v2 : Int32) (v4 : Int32) (v5 : Int32) (s0 : Int32) : Prop :=
  ((v5 < v2 → X67 S v1 s0 v4 v2) ∧ (¬ v5 < v2 → X67 S v1 s0 v4 v5))
def st_X11_compress_67  (P : St → Prop) (X12 : St → Int32 → Prop) (X27 : St → Int32 → Int32 → Int32 → Int32 → Prop) (X54 : St → Int32 → Int32 → Int32 → Int32 → Int32 → Prop) (X67 : St → Int32 → Int32 → Int32 → Int32 → Prop) (X118 : St → Int32 → Prop) (X121 : St → Prop) (S : St) (v1 : Int32) (v3 : Int32) (v4 : Int32) (s0 : Int32) : Prop :=
  ∀ x41 : Int32, x41 = v4 + (-1) → X27 S v1 s0 v3 x41
def st_X11_compress_118  (P : St → Prop) (X12 : St → Int32 → Prop) (X27 : St → Int32 → Int32 → Int32 → Int32 → Prop) (X54 : St → Int32 → Int32 → Int32 → Int32 → Int32 → Prop) (X67 : St → Int32 → Int32 → Int32 → Int32 → Prop) (X118 : St → Int32 → Prop) (X121 : St → Prop) (S : St) (v1 : Int32) : Prop :=
  X12 S v1
def st_X11_compress_121  (P : St → Prop) (X12 : St → Int32 → Prop) (X27 : St → Int32 → Int32 → Int32 → Int32 → Prop) (X54 : St → Int32 → Int32 → Int32 → Int32 → Int32 → Prop) (X67 : St → Int32 → Int32 → Int32 → Int32 → Prop) (X118 : St → Int32 → Prop) (X121 : St → Prop) (S : St)  : Prop :=
  (((S.2.1 9 7) ≤ 0 → P S) ∧ (¬ (S.2.1 9 7) ≤ 0 → wp_X11_bit S 0 (fun S43 => X121 S43)))
def at_X11_compress_12 (f : Fx) (g : Gx) (T0 : List (Nat × Nat × Nat))  (P : St → Prop) (S : St) (v1 : Int32) : Prop := S.2.2.1 = T0 → WW f rm_X11_compress g 6 0 0 (Qv f g 0 0 T0 P) S 12 [(0, .ref (gad g 158)), (1, .int v1)] []
def at_X11_compress_27 (f : Fx) (g : Gx) (T0 : List (Nat × Nat × Nat))  (P : St → Prop) (S : St) (v1 : Int32) (v2 : Int32) (v3 : Int32) (v4 : Int32) : Prop := S.2.2.1 = T0 → WW f rm_X11_compress g 6 0 0 (Qv f g 0 0 T0 P) S 27 [(0, .ref (gad g 158)), (1, .int v1), (2, .int v2), (3, .int v3), (4, .int v4)] []
def at_X11_compress_54 (f : Fx) (g : Gx) (T0 : List (Nat × Nat × Nat))  (P : St → Prop) (S : St) (v1 : Int32) (v2 : Int32) (v4 : Int32) (v5 : Int32) (s0 : Int32) : Prop := S.2.2.1 = T0 → WW f rm_X11_compress g 6 0 0 (Qv f g 0 0 T0 P) S 54 [(0, .ref (gad g 158)), (1, .int v1), (2, .int v2), (4, .int v4), (5, .int v5)] [.int s0]
def at_X11_compress_67 (f : Fx) (g : Gx) (T0 : List (Nat × Nat × Nat))  (P : St → Prop) (S : St) (v1 : Int32) (v3 : Int32) (v4 : Int32) (s0 : Int32) : Prop := S.2.2.1 = T0 → WW f rm_X11_compress g 6 0 0 (Qv f g 0 0 T0 P) S 67 [(0, .ref (gad g 158)), (1, .int v1), (3, .int v3), (4, .int v4)] [.int s0]
def at_X11_compress_118 (f : Fx) (g : Gx) (T0 : List (Nat × Nat × Nat))  (P : St → Prop) (S : St) (v1 : Int32) : Prop := S.2.2.1 = T0 → WW f rm_X11_compress g 6 0 0 (Qv f g 0 0 T0 P) S 118 [(0, .ref (gad g 158)), (1, .int v1)] []
def at_X11_compress_121 (f : Fx) (g : Gx) (T0 : List (Nat × Nat × Nat))  (P : St → Prop) (S : St)  : Prop := S.2.2.1 = T0 → WW f rm_X11_compress g 6 0 0 (Qv f g 0 0 T0 P) S 121 [(0, .ref (gad g 158))] []
set_option maxHeartbeats 4000000 in
set_option maxRecDepth 100000 in
theorem run_X11_compress_12 {f : Fx} {g : Gx} {T0 : List (Nat × Nat × Nat)} {S : St}  {P : St → Prop} (C : Cx f g cX11_compress 6 RX11) (hrt : (fmeth f).sig.returnType = none)  {v1 : Int32} (h : st_X11_compress_12  P (at_X11_compress_12 f g T0  P) (at_X11_compress_27 f g T0  P) (at_X11_compress_54 f g T0  P) (at_X11_compress_67 f g T0  P) (at_X11_compress_118 f g T0  P) (at_X11_compress_121 f g T0  P) S v1) : at_X11_compress_12 f g T0  P S v1 := by
  intro hT 
  unfold st_X11_compress_12 at h
  refine ww_iload_n C dX11_compress_12 1 rfl ?_
  refine ww_aload_n C dX11_compress_13 0 rfl ?_
  refine gf_Model_streamed C bw_947 dX11_compress_14 ?_
  refine ww_icmp_ge (tgt := 121) C dX11_compress_17 (by decide) (fun q24 => ?_) (fun q24 => ?_)
  · replace h := h.1 q24
    exact ww_sub [0] rfl (h hT)
  · replace h := h.2 q24
    refine ww_iconst (v := 0) C dX11_compress_20 (by decide) ?_
    refine ww_istore_n (lv2 := [(2, .int 0), (0, .ref (gad g 158)), (1, .int v1)]) C dX11_compress_21 rfl (Nat.le_of_ble_eq_true rfl) rfl ?_
    refine ww_iconst (v := 0) C dX11_compress_22 (by decide) ?_
    refine ww_istore_n (lv2 := [(3, .int 0), (2, .int 0), (0, .ref (gad g 158)), (1, .int v1)]) C dX11_compress_23 rfl (Nat.le_of_ble_eq_true rfl) rfl ?_
    refine ww_iload_n C dX11_compress_24 3 rfl ?_
    refine ww_istore (lv2 := [(4, .int v1), (3, .int 0), (2, .int 0), (0, .ref (gad g 158)), (1, .int v1)]) C dX11_compress_25 (Nat.le_of_ble_eq_true rfl) rfl ?_
    exact ww_sub [3, 4, 2, 1, 0] rfl (h hT)
set_option maxHeartbeats 4000000 in
set_option maxRecDepth 100000 in
theorem run_X11_compress_27 {f : Fx} {g : Gx} {T0 : List (Nat × Nat × Nat)} {S : St}  {P : St → Prop} (C : Cx f g cX11_compress 6 RX11) (hrt : (fmeth f).sig.returnType = none)  {v1 : Int32} {v2 : Int32} {v3 : Int32} {v4 : Int32} (h : st_X11_compress_27  P (at_X11_compress_12 f g T0  P) (at_X11_compress_27 f g T0  P) (at_X11_compress_54 f g T0  P) (at_X11_compress_67 f g T0  P) (at_X11_compress_118 f g T0  P) (at_X11_compress_121 f g T0  P) S v1 v2 v3 v4) : at_X11_compress_27 f g T0  P S v1 v2 v3 v4 := by
  intro hT 
  unfold st_X11_compress_27 at h
  refine ww_iload C dX11_compress_27 4 rfl ?_
  refine ww_iconst (v := 1) C dX11_compress_29 (by decide) ?_
  refine ww_icmp_lt (tgt := 74) C dX11_compress_30 (by decide) (fun q25 => ?_) (fun q25 => ?_)
  · replace h := h.1 q25
    refine ww_iload_n C dX11_compress_74 2 rfl ?_
    refine ww_iconst (v := 2) C dX11_compress_75 (by decide) ?_
    refine ww_icmp_le (tgt := 103) C dX11_compress_76 (by decide) (fun q26 => ?_) (fun q26 => ?_)
    · replace h := h.1 q26
      refine ww_aload_n C dX11_compress_103 0 rfl ?_
      refine ww_aload_n C dX11_compress_104 0 rfl ?_
      refine gf_Model_stream C bw_948 dX11_compress_105 ?_
      refine ww_iload_n C dX11_compress_108 1 rfl ?_
      refine ia_m (a := 20) C (by decide) (by decide) h.1 dX11_compress_109 ?_
      replace h := h.2
      refine ww_bipush (v := 9) C dX11_compress_110 (by decide) ?_
      refine ww_cVv (As := [.int (S.2.1 30 v1.toNatClampNeg), .int 9]) (rest := []) C ok_X11_bits bw_1168 dX11_compress_112 (run_X11_bits  (fun _ => h)) rc_Model rfl ⟨Nat.le_of_ble_eq_true rfl, Nat.le_of_ble_eq_true rfl⟩ (Nat.le_of_ble_eq_true rfl) (c2 := 0) (s2 := 0) rfl rfl ⟨Nat.le_of_ble_eq_true rfl, Nat.le_of_ble_eq_true rfl⟩ rfl (fun S27 hp hTg => ?_)
      replace h := hp
      have hT_S27 : S27.2.2.1 = T0 := by rw [hTg]; exact hT
      obtain ⟨x29, e_x29⟩ : ∃ z : Int32, z = v1 + 1 := ⟨_, rfl⟩
      replace h := h x29 e_x29
      refine ww_iinc (v := x29) (lv2 := [(1, .int x29), (0, .ref (gad g 158)), (2, .int v2), (3, .int v3), (4, .int v4)]) C dX11_compress_115 1 rfl (by rw [e_x29]; rfl) (Nat.le_of_ble_eq_true rfl) rfl ?_
      exact ww_sub [1, 0] rfl (h hT_S27)
    · replace h := h.2 q26
      refine ww_aload_n C dX11_compress_79 0 rfl ?_
      refine ww_iconst (v := 1) C dX11_compress_80 (by decide) ?_
      refine ww_cVv (As := [.int 1]) (rest := []) C ok_X11_bit bw_1160 dX11_compress_81 (run_X11_bit  (fun _ => h)) rc_Model rfl ⟨Nat.le_of_ble_eq_true rfl, Nat.le_of_ble_eq_true rfl⟩ (Nat.le_of_ble_eq_true rfl) (c2 := 0) (s2 := 0) rfl rfl ⟨Nat.le_of_ble_eq_true rfl, Nat.le_of_ble_eq_true rfl⟩ rfl (fun S30 hp hTg => ?_)
      replace h := hp
      have hT_S30 : S30.2.2.1 = T0 := by rw [hTg]; exact hT
      refine ww_aload_n C dX11_compress_84 0 rfl ?_
      refine ww_iload_n C dX11_compress_85 2 rfl ?_
      refine ww_iconst (v := 2) C dX11_compress_86 (by decide) ?_
      refine ww_isub C dX11_compress_87 ?_
      refine ww_cVv (As := [.int (v2 - 2)]) (rest := []) C ok_X11_gamma bw_1164 dX11_compress_88 (run_X11_gamma  (fun _ => h)) rc_Model rfl ⟨Nat.le_of_ble_eq_true rfl, Nat.le_of_ble_eq_true rfl⟩ (Nat.le_of_ble_eq_true rfl) (c2 := 0) (s2 := 0) rfl rfl ⟨Nat.le_of_ble_eq_true rfl, Nat.le_of_ble_eq_true rfl⟩ rfl (fun S32 hp hTg => ?_)
      replace h := hp
      have hT_S32 : S32.2.2.1 = T0 := by rw [hTg]; exact hT_S30
      refine ww_aload_n C dX11_compress_91 0 rfl ?_
      refine ww_iload_n C dX11_compress_92 3 rfl ?_
      refine ww_cVv (As := [.int v3]) (rest := []) C ok_X11_gamma bw_1164 dX11_compress_93 (run_X11_gamma  (fun _ => h)) rc_Model rfl ⟨Nat.le_of_ble_eq_true rfl, Nat.le_of_ble_eq_true rfl⟩ (Nat.le_of_ble_eq_true rfl) (c2 := 0) (s2 := 0) rfl rfl ⟨Nat.le_of_ble_eq_true rfl, Nat.le_of_ble_eq_true rfl⟩ rfl (fun S34 hp hTg => ?_)
      replace h := hp
      have hT_S34 : S34.2.2.1 = T0 := by rw [hTg]; exact hT_S32
      refine ww_iload_n C dX11_compress_96 1 rfl ?_
      refine ww_iload_n C dX11_compress_97 2 rfl ?_
      refine ww_iadd C dX11_compress_98 ?_
      refine ww_topi (fun x36 e_x36 => ?_)
      replace h := h x36 e_x36
      refine ww_istore_n (lv2 := [(1, .int x36), (0, .ref (gad g 158)), (2, .int v2), (3, .int v3), (4, .int v4)]) C dX11_compress_99 rfl (Nat.le_of_ble_eq_true rfl) rfl ?_
      refine ww_goto (tgt := 118) C dX11_compress_100 (by decide) ?_
      exact ww_sub [1, 0] rfl (h hT_S34)
  · replace h := h.2 q25
    refine ww_aload_n C dX11_compress_33 0 rfl ?_
    refine ww_iload_n C dX11_compress_34 1 rfl ?_
    refine ww_iload C dX11_compress_35 4 rfl ?_
    refine ww_cVi (As := [.int v1, .int v4]) (rest := []) C ok_X11_alike bw_1156 dX11_compress_37 (run_X11_alike  (fun _ => h)) rc_Model rfl ⟨Nat.le_of_ble_eq_true rfl, Nat.le_of_ble_eq_true rfl⟩ (Nat.le_of_ble_eq_true rfl) (c2 := 0) (s2 := 0) rfl rfl ⟨Nat.le_of_ble_eq_true rfl, Nat.le_of_ble_eq_true rfl⟩ rfl (fun r38 S37 hp hTg => ?_)
    replace h := hp
    have hT_S37 : S37.2.2.1 = T0 := by rw [hTg]; exact hT
    refine ww_istore (lv2 := [(5, .int r38), (0, .ref (gad g 158)), (1, .int v1), (2, .int v2), (3, .int v3), (4, .int v4)]) C dX11_compress_40 (Nat.le_of_ble_eq_true rfl) rfl ?_
    refine ww_iload C dX11_compress_42 0 rfl ?_
    refine ww_iload_n C dX11_compress_44 3 rfl ?_
    refine ww_icmp_lt (tgt := 53) C dX11_compress_45 (by decide) (fun q39 => ?_) (fun q39 => ?_)
    · replace h := h.1 q39
      refine ww_iload_n C dX11_compress_53 4 rfl ?_
      exact ww_sub [1, 2, 3, 5, 0] rfl (h hT_S37)
    · replace h := h.2 q39
      refine ww_iload C dX11_compress_48 5 rfl ?_
      refine ww_goto (tgt := 54) C dX11_compress_50 (by decide) ?_
      exact ww_sub [1, 2, 3, 5, 0] rfl (h hT_S37)
set_option maxHeartbeats 4000000 in
set_option maxRecDepth 100000 in
theorem run_X11_compress_54 {f : Fx} {g : Gx} {T0 : List (Nat × Nat × Nat)} {S : St}  {P : St → Prop} (C : Cx f g cX11_compress 6 RX11) (hrt : (fmeth f).sig.returnType = none)  {v1 : Int32} {v2 : Int32} {v4 : Int32} {v5 : Int32} {s0 : Int32} (h : st_X11_compress_54  P (at_X11_compress_12 f g T0  P) (at_X11_compress_27 f g T0  P) (at_X11_compress_54 f g T0  P) (at_X11_compress_67 f g T0  P) (at_X11_compress_118 f g T0  P) (at_X11_compress_121 f g T0  P) S v1 v2 v4 v5 s0) : at_X11_compress_54 f g T0  P S v1 v2 v4 v5 s0 := by
  intro hT 
  unfold st_X11_compress_54 at h
  refine ww_istore_n (lv2 := [(3, .int s0), (0, .ref (gad g 158)), (1, .int v1), (2, .int v2), (4, .int v4), (5, .int v5)]) C dX11_compress_54 rfl (Nat.le_of_ble_eq_true rfl) rfl ?_
  refine ww_iload C dX11_compress_55 5 rfl ?_
  refine ww_iload_n C dX11_compress_57 3 rfl ?_
  refine ww_icmp_lt (tgt := 66) C dX11_compress_58 (by decide) (fun q40 => ?_) (fun q40 => ?_)
  · replace h := h.1 q40
    refine ww_iload_n C dX11_compress_66 3 rfl ?_
    exact ww_sub [1, 2, 0, 4] rfl (h hT)
  · replace h := h.2 q40
    refine ww_iload C dX11_compress_61 5 rfl ?_
    refine ww_goto (tgt := 67) C dX11_compress_63 (by decide) ?_
    exact ww_sub [1, 2, 0, 4] rfl (h hT)
set_option maxHeartbeats 4000000 in
set_option maxRecDepth 100000 in
theorem run_X11_compress_67 {f : Fx} {g : Gx} {T0 : List (Nat × Nat × Nat)} {S : St}  {P : St → Prop} (C : Cx f g cX11_compress 6 RX11) (hrt : (fmeth f).sig.returnType = none)  {v1 : Int32} {v3 : Int32} {v4 : Int32} {s0 : Int32} (h : st_X11_compress_67  P (at_X11_compress_12 f g T0  P) (at_X11_compress_27 f g T0  P) (at_X11_compress_54 f g T0  P) (at_X11_compress_67 f g T0  P) (at_X11_compress_118 f g T0  P) (at_X11_compress_121 f g T0  P) S v1 v3 v4 s0) : at_X11_compress_67 f g T0  P S v1 v3 v4 s0 := by
  intro hT 
  unfold st_X11_compress_67 at h
  refine ww_istore_n (lv2 := [(2, .int s0), (0, .ref (gad g 158)), (1, .int v1), (3, .int v3), (4, .int v4)]) C dX11_compress_67 rfl (Nat.le_of_ble_eq_true rfl) rfl ?_
  obtain ⟨x41, e_x41⟩ : ∃ z : Int32, z = v4 + (-1) := ⟨_, rfl⟩
  replace h := h x41 e_x41
  refine ww_iinc (v := x41) (lv2 := [(4, .int x41), (2, .int s0), (0, .ref (gad g 158)), (1, .int v1), (3, .int v3)]) C dX11_compress_68 4 rfl (by rw [e_x41]; rfl) (Nat.le_of_ble_eq_true rfl) rfl ?_
  refine ww_goto (tgt := 27) C dX11_compress_71 (by decide) ?_
  exact ww_sub [2, 3, 1, 4, 0] rfl (h hT)
set_option maxHeartbeats 4000000 in
set_option maxRecDepth 100000 in
theorem run_X11_compress_118 {f : Fx} {g : Gx} {T0 : List (Nat × Nat × Nat)} {S : St}  {P : St → Prop} (C : Cx f g cX11_compress 6 RX11) (hrt : (fmeth f).sig.returnType = none)  {v1 : Int32} (h : st_X11_compress_118  P (at_X11_compress_12 f g T0  P) (at_X11_compress_27 f g T0  P) (at_X11_compress_54 f g T0  P) (at_X11_compress_67 f g T0  P) (at_X11_compress_118 f g T0  P) (at_X11_compress_121 f g T0  P) S v1) : at_X11_compress_118 f g T0  P S v1 := by
  intro hT 
  unfold st_X11_compress_118 at h
  refine ww_goto (tgt := 12) C dX11_compress_118 (by decide) ?_
  exact ww_sub [0, 1] rfl (h hT)
set_option maxHeartbeats 4000000 in
set_option maxRecDepth 100000 in
theorem run_X11_compress_121 {f : Fx} {g : Gx} {T0 : List (Nat × Nat × Nat)} {S : St}  {P : St → Prop} (C : Cx f g cX11_compress 6 RX11) (hrt : (fmeth f).sig.returnType = none)   (h : st_X11_compress_121  P (at_X11_compress_12 f g T0  P) (at_X11_compress_27 f g T0  P) (at_X11_compress_54 f g T0  P) (at_X11_compress_67 f g T0  P) (at_X11_compress_118 f g T0  P) (at_X11_compress_121 f g T0  P) S ) : at_X11_compress_121 f g T0  P S  := by
  intro hT 
  unfold st_X11_compress_121 at h
  refine ww_aload_n C dX11_compress_121 0 rfl ?_
  refine gf_Model_heldBits C bw_952 dX11_compress_122 ?_
  refine ww_if_le (tgt := 136) C dX11_compress_125 (by decide) (fun q42 => ?_) (fun q42 => ?_)
  · replace h := h.1 q42
    exact ww_vret C hrt dX11_compress_136 hT h
  · replace h := h.2 q42
    refine ww_aload_n C dX11_compress_128 0 rfl ?_
    refine ww_iconst (v := 0) C dX11_compress_129 (by decide) ?_
    refine ww_cVv (As := [.int 0]) (rest := []) C ok_X11_bit bw_1160 dX11_compress_130 (run_X11_bit  (fun _ => h)) rc_Model rfl ⟨Nat.le_of_ble_eq_true rfl, Nat.le_of_ble_eq_true rfl⟩ (Nat.le_of_ble_eq_true rfl) (c2 := 0) (s2 := 0) rfl rfl ⟨Nat.le_of_ble_eq_true rfl, Nat.le_of_ble_eq_true rfl⟩ rfl (fun S43 hp hTg => ?_)
    replace h := hp
    have hT_S43 : S43.2.2.1 = T0 := by rw [hTg]; exact hT
    refine ww_goto (tgt := 121) C dX11_compress_133 (by decide) ?_
    exact ww_sub [0] rfl (h hT_S43)
def wp_X11_compress (S : St)  (P : St → Prop) : Prop :=
  ∀ (X12 : St → Int32 → Prop) (X27 : St → Int32 → Int32 → Int32 → Int32 → Prop) (X54 : St → Int32 → Int32 → Int32 → Int32 → Int32 → Prop) (X67 : St → Int32 → Int32 → Int32 → Int32 → Prop) (X118 : St → Int32 → Prop) (X121 : St → Prop), (∀ S v1, st_X11_compress_12  P X12 X27 X54 X67 X118 X121 S v1 → X12 S v1) → (∀ S v1 v2 v3 v4, st_X11_compress_27  P X12 X27 X54 X67 X118 X121 S v1 v2 v3 v4 → X27 S v1 v2 v3 v4) → (∀ S v1 v2 v4 v5 s0, st_X11_compress_54  P X12 X27 X54 X67 X118 X121 S v1 v2 v4 v5 s0 → X54 S v1 v2 v4 v5 s0) → (∀ S v1 v3 v4 s0, st_X11_compress_67  P X12 X27 X54 X67 X118 X121 S v1 v3 v4 s0 → X67 S v1 v3 v4 s0) → (∀ S v1, st_X11_compress_118  P X12 X27 X54 X67 X118 X121 S v1 → X118 S v1) → (∀ S , st_X11_compress_121  P X12 X27 X54 X67 X118 X121 S  → X121 S ) → ∀ S45 : St, S45 = stM S 9 6 0 → ∀ S46 : St, S46 = stM S45 9 7 0 → X12 S46 0
set_option maxHeartbeats 4000000 in
set_option maxRecDepth 100000 in
theorem run_X11_compress {l : Launch} {g : Gx} {S : St}  {P : St → Prop}  (h : rowsLe S → wp_X11_compress S  P) : CMv g l yX11_compress cX11_compress 6 none rm_X11_compress [.ref (gad g 158)] S P := cm_entry (own := RX11) (plainFor_of_name (by decide)) rfl (Nat.le_of_ble_eq_true rfl) rfl (fun hle f hf C hrt => by
  subst hf
  replace h := h hle
  obtain ⟨T0, hT⟩ : ∃ T, S.2.2.1 = T := ⟨_, rfl⟩
  rw [hT]
  replace h := h (at_X11_compress_12 f g T0  P) (at_X11_compress_27 f g T0  P) (at_X11_compress_54 f g T0  P) (at_X11_compress_67 f g T0  P) (at_X11_compress_118 f g T0  P) (at_X11_compress_121 f g T0  P) (fun S v1 h => run_X11_compress_12 C hrt  h) (fun S v1 v2 v3 v4 h => run_X11_compress_27 C hrt  h) (fun S v1 v2 v4 v5 s0 h => run_X11_compress_54 C hrt  h) (fun S v1 v3 v4 s0 h => run_X11_compress_67 C hrt  h) (fun S v1 h => run_X11_compress_118 C hrt  h) (fun S  h => run_X11_compress_121 C hrt  h)
  refine ww_aload_n C dX11_compress_0 0 rfl ?_
  refine ww_iconst (v := 0) C dX11_compress_1 (by decide) ?_
  refine pf_Model_held C bw_951 dX11_compress_2 ?_
  refine ww_nm (fun S45 e_S45 => ?_)
  replace h := h S45 e_S45
  have hT_S45 : S45.2.2.1 = T0 := by rw [e_S45]; exact hT
  refine ww_aload_n C dX11_compress_5 0 rfl ?_
  refine ww_iconst (v := 0) C dX11_compress_6 (by decide) ?_
  refine pf_Model_heldBits C bw_952 dX11_compress_7 ?_
  refine ww_nm (fun S46 e_S46 => ?_)
  replace h := h S46 e_S46
  have hT_S46 : S46.2.2.1 = T0 := by rw [e_S46]; exact hT_S45
  refine ww_iconst (v := 0) C dX11_compress_10 (by decide) ?_
  refine ww_istore_n (lv2 := [(1, .int 0), (0, .ref (gad g 158))]) C dX11_compress_11 rfl (Nat.le_of_ble_eq_true rfl) rfl ?_
  exact ww_sub [1, 0] rfl (h hT_S46))
