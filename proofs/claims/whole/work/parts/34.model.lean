abbrev rm_X11_next : Room := { frames := 0, cells := 0, slots := 0, locals := 0 }
theorem ok_X11_next : MOK yX11_next RX11 cX11_next 1 (some .int) 0 := ⟨bw_1197, bw_43, bw_69, bw_1198, by decide +kernel⟩
def wp_X11_next_67  (S : St) (s0 : Int32) (P : Int32 → St → Prop) : Prop :=
  P s0 S
set_option maxHeartbeats 4000000 in
set_option maxRecDepth 100000 in
theorem run_X11_next_67 {f : Fx} {g : Gx} {T0 : List (Nat × Nat × Nat)} {S : St}  {P : Int32 → St → Prop} (C : Cx f g cX11_next 1 RX11) (hrt : (fmeth f).sig.returnType = (some .int))  {s0 : Int32} (hT : S.2.2.1 = T0)  (h : wp_X11_next_67  S s0 P) : WW f rm_X11_next g 1 0 0 (Qi f g 0 0 T0 P) S 67 [] [.int s0] := by
  unfold wp_X11_next_67 at h
  exact ww_iret C hrt dX11_next_67 hT h
def wp_X11_next_18  (S : St)  (P : Int32 → St → Prop) : Prop :=
  ∀ S6 : St, S6 = stM S 9 11 1 → P 0 S6
set_option maxHeartbeats 4000000 in
set_option maxRecDepth 100000 in
theorem run_X11_next_18 {f : Fx} {g : Gx} {T0 : List (Nat × Nat × Nat)} {S : St}  {P : Int32 → St → Prop} (C : Cx f g cX11_next 1 RX11) (hrt : (fmeth f).sig.returnType = (some .int))   (hT : S.2.2.1 = T0)  (h : wp_X11_next_18  S  P) : WW f rm_X11_next g 1 0 0 (Qi f g 0 0 T0 P) S 18 [(0, .ref (gad g 158))] [] := by
  unfold wp_X11_next_18 at h
  refine ww_aload_n C dX11_next_18 0 rfl ?_
  refine ww_iconst (v := 1) C dX11_next_19 (by decide) ?_
  refine pf_Model_bad C (by decide) bw_956 dX11_next_20 ?_
  refine ww_nm (fun S6 e_S6 => ?_)
  replace h := h S6 e_S6
  have hT_S6 : S6.2.2.1 = T0 := by rw [e_S6]; exact hT
  refine ww_iconst (v := 0) C dX11_next_23 (by decide) ?_
  exact ww_iret C hrt dX11_next_24 hT_S6 h
def wp_X11_next (S : St)  (P : Int32 → St → Prop) : Prop :=
  (((S.2.1 9 9) ≤ (S.2.1 9 8) → wp_X11_next_18  S  P) ∧ (¬ (S.2.1 9 9) ≤ (S.2.1 9 8) → (((S.2.1 9 11) = 0 → ∀ S9 : St, S9 = stM S 9 8 ((S.2.1 9 8) + 1) → (((S9.2.1 9 10) = 0 → (vp_in ((S9.2.1 9 8) - 1) (gw_ml 19) ∧ wp_X11_next_67  S9 (S9.2.1 29 ((S9.2.1 9 8) - 1).toNatClampNeg) P)) ∧ (¬ (S9.2.1 9 10) = 0 → (vp_in ((S9.2.1 9 8) - 1) (gw_ml 20) ∧ wp_X11_next_67  S9 (S9.2.1 30 ((S9.2.1 9 8) - 1).toNatClampNeg) P)))) ∧ (¬ (S.2.1 9 11) = 0 → wp_X11_next_18  S  P))))
set_option maxHeartbeats 4000000 in
set_option maxRecDepth 100000 in
theorem run_X11_next {l : Launch} {g : Gx} {S : St}  {P : Int32 → St → Prop}  (h : rowsLe S → wp_X11_next S  P) : CMi g l yX11_next cX11_next 1 (some .int) rm_X11_next [.ref (gad g 158)] S P := cm_entry (own := RX11) (plainFor_of_name (by decide)) rfl (Nat.le_of_ble_eq_true rfl) rfl (fun hle f hf C hrt => by
  subst hf
  replace h := h hle
  obtain ⟨T0, hT⟩ : ∃ T, S.2.2.1 = T := ⟨_, rfl⟩
  rw [hT]
  unfold wp_X11_next at h
  refine ww_aload_n C dX11_next_0 0 rfl ?_
  refine gf_Model_at C bw_953 dX11_next_1 ?_
  refine ww_aload_n C dX11_next_4 0 rfl ?_
  refine gf_Model_end C bw_954 dX11_next_5 ?_
  refine ww_icmp_ge (tgt := 18) C dX11_next_8 (by decide) (fun q7 => ?_) (fun q7 => ?_)
  · replace h := h.1 q7
    exact ww_sub [0] rfl (run_X11_next_18 C hrt  hT  h)
  · replace h := h.2 q7
    refine ww_aload_n C dX11_next_11 0 rfl ?_
    refine gf_Model_bad C bw_956 dX11_next_12 ?_
    refine ww_if_eq (tgt := 25) C dX11_next_15 (by decide) (fun q8 => ?_) (fun q8 => ?_)
    · replace h := h.1 q8
      refine ww_aload_n C dX11_next_25 0 rfl ?_
      refine ww_dup C dX11_next_26 rfl ?_
      refine gf_Model_at C bw_953 dX11_next_27 ?_
      refine ww_iconst (v := 1) C dX11_next_30 (by decide) ?_
      refine ww_iadd C dX11_next_31 ?_
      refine pf_Model_at C bw_953 dX11_next_32 ?_
      refine ww_nm (fun S9 e_S9 => ?_)
      replace h := h S9 e_S9
      have hT_S9 : S9.2.2.1 = T0 := by rw [e_S9]; exact hT
      refine ww_aload_n C dX11_next_35 0 rfl ?_
      refine gf_Model_inStream C bw_955 dX11_next_36 ?_
      refine ww_if_eq (tgt := 56) C dX11_next_39 (by decide) (fun q10 => ?_) (fun q10 => ?_)
      · replace h := h.1 q10
        refine ww_aload_n C dX11_next_56 0 rfl ?_
        refine gf_Model_buffer C bw_946 dX11_next_57 ?_
        refine ww_aload_n C dX11_next_60 0 rfl ?_
        refine gf_Model_at C bw_953 dX11_next_61 ?_
        refine ww_iconst (v := 1) C dX11_next_64 (by decide) ?_
        refine ww_isub C dX11_next_65 ?_
        refine ia_m (a := 19) C (by decide) (by decide) h.1 dX11_next_66 ?_
        replace h := h.2
        exact ww_sub [] rfl (run_X11_next_67 C hrt  hT_S9  h)
      · replace h := h.2 q10
        refine ww_aload_n C dX11_next_42 0 rfl ?_
        refine gf_Model_stream C bw_948 dX11_next_43 ?_
        refine ww_aload_n C dX11_next_46 0 rfl ?_
        refine gf_Model_at C bw_953 dX11_next_47 ?_
        refine ww_iconst (v := 1) C dX11_next_50 (by decide) ?_
        refine ww_isub C dX11_next_51 ?_
        refine ia_m (a := 20) C (by decide) (by decide) h.1 dX11_next_52 ?_
        replace h := h.2
        refine ww_goto (tgt := 67) C dX11_next_53 (by decide) ?_
        exact ww_sub [] rfl (run_X11_next_67 C hrt  hT_S9  h)
    · replace h := h.2 q8
      exact ww_sub [0] rfl (run_X11_next_18 C hrt  hT  h))
abbrev rm_X11_check : Room := { frames := 0, cells := 0, slots := 0, locals := 0 }
theorem ok_X11_check : MOK yX11_check RX11 cX11_check 2 none 1 := ⟨bw_1201, bw_44, bw_69, bw_1202, by decide +kernel⟩
def wp_X11_check_17 (b : Int32) (S : St) (s0 : Int32) (P : St → Prop) : Prop :=
  ((s0 = 0 ∨ s0 = 1) ∧ ∀ S4 : St, S4 = stM S 9 11 s0 → P S4)
set_option maxHeartbeats 4000000 in
set_option maxRecDepth 100000 in
theorem run_X11_check_17 {f : Fx} {g : Gx} {T0 : List (Nat × Nat × Nat)} {S : St} {b : Int32} {P : St → Prop} (C : Cx f g cX11_check 2 RX11) (hrt : (fmeth f).sig.returnType = none)  {s0 : Int32} (hT : S.2.2.1 = T0)  (h : wp_X11_check_17 b S s0 P) : WW f rm_X11_check g 2 0 0 (Qv f g 0 0 T0 P) S 17 [] [.int s0, .ref (gad g 158)] := by
  unfold wp_X11_check_17 at h
  refine pf_Model_bad C h.1 bw_956 dX11_check_17 ?_
  replace h := h.2
  refine ww_nm (fun S4 e_S4 => ?_)
  replace h := h S4 e_S4
  have hT_S4 : S4.2.2.1 = T0 := by rw [e_S4]; exact hT
  exact ww_vret C hrt dX11_check_20 hT_S4 h
def wp_X11_check_12 (b : Int32) (S : St)  (P : St → Prop) : Prop :=
  wp_X11_check_17 b S 1 P
set_option maxHeartbeats 4000000 in
set_option maxRecDepth 100000 in
theorem run_X11_check_12 {f : Fx} {g : Gx} {T0 : List (Nat × Nat × Nat)} {S : St} {b : Int32} {P : St → Prop} (C : Cx f g cX11_check 2 RX11) (hrt : (fmeth f).sig.returnType = none)   (hT : S.2.2.1 = T0)  (h : wp_X11_check_12 b S  P) : WW f rm_X11_check g 2 0 0 (Qv f g 0 0 T0 P) S 12 [] [.ref (gad g 158)] := by
  unfold wp_X11_check_12 at h
  refine ww_iconst (v := 1) C dX11_check_12 (by decide) ?_
  refine ww_goto (tgt := 17) C dX11_check_13 (by decide) ?_
  exact ww_sub [] rfl (run_X11_check_17 C hrt  hT  h)
def wp_X11_check (S : St) (b : Int32) (P : St → Prop) : Prop :=
  ((¬ (S.2.1 9 11) = 0 → wp_X11_check_12 b S  P) ∧ ((S.2.1 9 11) = 0 → ((¬ b = 0 → wp_X11_check_17 b S 0 P) ∧ (b = 0 → wp_X11_check_12 b S  P))))
set_option maxHeartbeats 4000000 in
set_option maxRecDepth 100000 in
theorem run_X11_check {l : Launch} {g : Gx} {S : St} {b : Int32} {P : St → Prop}  (h : rowsLe S → wp_X11_check S b P) : CMv g l yX11_check cX11_check 2 none rm_X11_check [.ref (gad g 158), .int b] S P := cm_entry (own := RX11) (plainFor_of_name (by decide)) rfl (Nat.le_of_ble_eq_true rfl) rfl (fun hle f hf C hrt => by
  subst hf
  replace h := h hle
  obtain ⟨T0, hT⟩ : ∃ T, S.2.2.1 = T := ⟨_, rfl⟩
  rw [hT]
  unfold wp_X11_check at h
  refine ww_aload_n C dX11_check_0 0 rfl ?_
  refine ww_aload_n C dX11_check_1 0 rfl ?_
  refine gf_Model_bad C bw_956 dX11_check_2 ?_
  refine ww_if_ne (tgt := 12) C dX11_check_5 (by decide) (fun q5 => ?_) (fun q5 => ?_)
  · replace h := h.1 q5
    exact ww_sub [] rfl (run_X11_check_12 C hrt  hT  h)
  · replace h := h.2 q5
    refine ww_iload_n C dX11_check_8 1 rfl ?_
    refine ww_if_ne (tgt := 16) C dX11_check_9 (by decide) (fun q6 => ?_) (fun q6 => ?_)
    · replace h := h.1 q6
      refine ww_iconst (v := 0) C dX11_check_16 (by decide) ?_
      exact ww_sub [] rfl (run_X11_check_17 C hrt  hT  h)
    · replace h := h.2 q6
      exact ww_sub [] rfl (run_X11_check_12 C hrt  hT  h))
abbrev rm_X11_nextShort : Room := { frames := 1, cells := 0, slots := 0, locals := 20 }
theorem ok_X11_nextShort : MOK yX11_nextShort RX11 cX11_nextShort 3 (some .int) 0 := ⟨bw_1237, bw_53, bw_69, bw_1238, by decide +kernel⟩
def wp_X11_nextShort_59  (S : St) (s0 : Int32) (P : Int32 → St → Prop) : Prop :=
  P s0 S
set_option maxHeartbeats 4000000 in
set_option maxRecDepth 100000 in
theorem run_X11_nextShort_59 {f : Fx} {g : Gx} {T0 : List (Nat × Nat × Nat)} {S : St}  {P : Int32 → St → Prop} (C : Cx f g cX11_nextShort 3 RX11) (hrt : (fmeth f).sig.returnType = (some .int))  {s0 : Int32} (hT : S.2.2.1 = T0)  (h : wp_X11_nextShort_59  S s0 P) : WW f rm_X11_nextShort g 3 0 0 (Qi f g 0 0 T0 P) S 59 [] [.int s0] := by
  unfold wp_X11_nextShort_59 at h
  exact ww_iret C hrt dX11_nextShort_59 hT h
def wp_X11_nextShort (S : St)  (P : Int32 → St → Prop) : Prop :=
  wp_X11_next S (fun r11 S10 => ((253 ≤ r11 → wp_X11_next S10 (fun r14 S13 => ((¬ r11 = 253 → ((¬ r11 = 254 → wp_X11_nextShort_59  S13 (253 + r14) P) ∧ (r11 = 254 → wp_X11_nextShort_59  S13 (506 + r14) P))) ∧ (r11 = 253 → wp_X11_next S13 (fun r18 S17 => wp_X11_nextShort_59  S17 ((256 * r14) + r18) P))))) ∧ (¬ 253 ≤ r11 → P r11 S10)))
set_option maxHeartbeats 4000000 in
set_option maxRecDepth 100000 in
theorem run_X11_nextShort {l : Launch} {g : Gx} {S : St}  {P : Int32 → St → Prop}  (h : rowsLe S → wp_X11_nextShort S  P) : CMi g l yX11_nextShort cX11_nextShort 3 (some .int) rm_X11_nextShort [.ref (gad g 158)] S P := cm_entry (own := RX11) (plainFor_of_name (by decide)) rfl (Nat.le_of_ble_eq_true rfl) rfl (fun hle f hf C hrt => by
  subst hf
  replace h := h hle
  obtain ⟨T0, hT⟩ : ∃ T, S.2.2.1 = T := ⟨_, rfl⟩
  rw [hT]
  unfold wp_X11_nextShort at h
  refine ww_aload_n C dX11_nextShort_0 0 rfl ?_
  refine ww_cVi (As := []) (rest := []) C ok_X11_next bw_1195 dX11_nextShort_1 (run_X11_next  (fun _ => h)) rc_Model rfl ⟨Nat.le_of_ble_eq_true rfl, Nat.le_of_ble_eq_true rfl⟩ (Nat.le_of_ble_eq_true rfl) (c2 := 0) (s2 := 0) rfl rfl ⟨Nat.le_of_ble_eq_true rfl, Nat.le_of_ble_eq_true rfl⟩ rfl (fun r11 S10 hp hTg => ?_)
  replace h := hp
  have hT_S10 : S10.2.2.1 = T0 := by rw [hTg]; exact hT
  refine ww_istore_n (lv2 := [(1, .int r11), (0, .ref (gad g 158))]) C dX11_nextShort_4 rfl (Nat.le_of_ble_eq_true rfl) rfl ?_
  refine ww_iload_n C dX11_nextShort_5 0 rfl ?_
  refine ww_sipush (v := 253) C dX11_nextShort_6 (by decide) ?_
  refine ww_icmp_ge (tgt := 14) C dX11_nextShort_9 (by decide) (fun q12 => ?_) (fun q12 => ?_)
  · replace h := h.1 q12
    refine ww_aload_n C dX11_nextShort_14 1 rfl ?_
    refine ww_cVi (As := []) (rest := []) C ok_X11_next bw_1195 dX11_nextShort_15 (run_X11_next  (fun _ => h)) rc_Model rfl ⟨Nat.le_of_ble_eq_true rfl, Nat.le_of_ble_eq_true rfl⟩ (Nat.le_of_ble_eq_true rfl) (c2 := 0) (s2 := 0) rfl rfl ⟨Nat.le_of_ble_eq_true rfl, Nat.le_of_ble_eq_true rfl⟩ rfl (fun r14 S13 hp hTg => ?_)
    replace h := hp
    have hT_S13 : S13.2.2.1 = T0 := by rw [hTg]; exact hT_S10
    refine ww_istore_n (lv2 := [(2, .int r14), (1, .int r11), (0, .ref (gad g 158))]) C dX11_nextShort_18 rfl (Nat.le_of_ble_eq_true rfl) rfl ?_
    refine ww_iload_n C dX11_nextShort_19 1 rfl ?_
    refine ww_sipush (v := 253) C dX11_nextShort_20 (by decide) ?_
    refine ww_icmp_ne (tgt := 39) C dX11_nextShort_23 (by decide) (fun q15 => ?_) (fun q15 => ?_)
    · replace h := h.1 q15
      refine ww_iload_n C dX11_nextShort_39 1 rfl ?_
      refine ww_sipush (v := 254) C dX11_nextShort_40 (by decide) ?_
      refine ww_icmp_ne (tgt := 54) C dX11_nextShort_43 (by decide) (fun q16 => ?_) (fun q16 => ?_)
      · replace h := h.1 q16
        refine ww_sipush (v := 253) C dX11_nextShort_54 (by decide) ?_
        refine ww_iload_n C dX11_nextShort_57 0 rfl ?_
        refine ww_iadd C dX11_nextShort_58 ?_
        exact ww_sub [] rfl (run_X11_nextShort_59 C hrt  hT_S13  h)
      · replace h := h.2 q16
        refine ww_sipush (v := 506) C dX11_nextShort_46 (by decide) ?_
        refine ww_iload_n C dX11_nextShort_49 0 rfl ?_
        refine ww_iadd C dX11_nextShort_50 ?_
        refine ww_goto (tgt := 59) C dX11_nextShort_51 (by decide) ?_
        exact ww_sub [] rfl (run_X11_nextShort_59 C hrt  hT_S13  h)
    · replace h := h.2 q15
      refine ww_sipush (v := 256) C dX11_nextShort_26 (by decide) ?_
      refine ww_iload_n C dX11_nextShort_29 0 rfl ?_
      refine ww_imul C dX11_nextShort_30 ?_
      refine ww_aload_n C dX11_nextShort_31 2 rfl ?_
      refine ww_cVi (As := []) (rest := [.int (256 * r14)]) C ok_X11_next bw_1195 dX11_nextShort_32 (run_X11_next  (fun _ => h)) rc_Model rfl ⟨Nat.le_of_ble_eq_true rfl, Nat.le_of_ble_eq_true rfl⟩ (Nat.le_of_ble_eq_true rfl) (c2 := 0) (s2 := 0) rfl rfl ⟨Nat.le_of_ble_eq_true rfl, Nat.le_of_ble_eq_true rfl⟩ rfl (fun r18 S17 hp hTg => ?_)
      replace h := hp
      have hT_S17 : S17.2.2.1 = T0 := by rw [hTg]; exact hT_S13
      refine ww_iadd C dX11_nextShort_35 ?_
      refine ww_goto (tgt := 59) C dX11_nextShort_36 (by decide) ?_
      exact ww_sub [] rfl (run_X11_nextShort_59 C hrt  hT_S17  h)
  · replace h := h.2 q12
    refine ww_iload_n C dX11_nextShort_12 0 rfl ?_
    exact ww_iret C hrt dX11_nextShort_13 hT_S10 h)
abbrev rm_X11_nextLong : Room := { frames := 1, cells := 0, slots := 0, locals := 21 }
theorem ok_X11_nextLong : MOK yX11_nextLong RX11 cX11_nextLong 4 (some .int) 0 := ⟨bw_1205, bw_45, bw_69, bw_1206, by decide +kernel⟩
def st_X11_nextLong_18  (P : Int32 → St → Prop) (X18 : St → Int32 → Int32 → Prop) (X29 : St → Int32 → Int32 → Int32 → Prop) (X63 : St → Int32 → Int32 → Prop) (X76 : St → Int32 → Int32 → Prop) (S : St) (v1 : Int32) (s0 : Int32) : Prop :=
  wp_X11_check S s0 (fun S16 => ∀ x18 : Int32, x18 = v1 - v1 / 128 * 128 → X29 S16 v1 x18 1)
def st_X11_nextLong_29  (P : Int32 → St → Prop) (X18 : St → Int32 → Int32 → Prop) (X29 : St → Int32 → Int32 → Int32 → Prop) (X63 : St → Int32 → Int32 → Prop) (X76 : St → Int32 → Int32 → Prop) (S : St) (v1 : Int32) (v2 : Int32) (v3 : Int32) : Prop :=
  ((3 ≤ v3 → X63 S v1 v2) ∧ (¬ 3 ≤ v3 → ((v1 ≤ 127 → X63 S v1 v2) ∧ (¬ v1 ≤ 127 → wp_X11_next S (fun r22 S21 => ∀ x23 : Int32, x23 = (128 * v2) + (r22 - r22 / 128 * 128) → ∀ x24 : Int32, x24 = v3 + 1 → X29 S21 r22 x23 x24)))))
def st_X11_nextLong_63  (P : Int32 → St → Prop) (X18 : St → Int32 → Int32 → Prop) (X29 : St → Int32 → Int32 → Int32 → Prop) (X63 : St → Int32 → Int32 → Prop) (X76 : St → Int32 → Int32 → Prop) (S : St) (v1 : Int32) (v2 : Int32) : Prop :=
  ((128 ≤ v1 → X76 S v2 0) ∧ (¬ 128 ≤ v1 → X76 S v2 1))
def st_X11_nextLong_76  (P : Int32 → St → Prop) (X18 : St → Int32 → Int32 → Prop) (X29 : St → Int32 → Int32 → Int32 → Prop) (X63 : St → Int32 → Int32 → Prop) (X76 : St → Int32 → Int32 → Prop) (S : St) (v2 : Int32) (s0 : Int32) : Prop :=
  wp_X11_check S s0 (fun S26 => P v2 S26)
def at_X11_nextLong_18 (f : Fx) (g : Gx) (T0 : List (Nat × Nat × Nat))  (P : Int32 → St → Prop) (S : St) (v1 : Int32) (s0 : Int32) : Prop := S.2.2.1 = T0 → WW f rm_X11_nextLong g 4 0 0 (Qi f g 0 0 T0 P) S 18 [(0, .ref (gad g 158)), (1, .int v1)] [.int s0, .ref (gad g 158)]
def at_X11_nextLong_29 (f : Fx) (g : Gx) (T0 : List (Nat × Nat × Nat))  (P : Int32 → St → Prop) (S : St) (v1 : Int32) (v2 : Int32) (v3 : Int32) : Prop := S.2.2.1 = T0 → WW f rm_X11_nextLong g 4 0 0 (Qi f g 0 0 T0 P) S 29 [(0, .ref (gad g 158)), (1, .int v1), (2, .int v2), (3, .int v3)] []
def at_X11_nextLong_63 (f : Fx) (g : Gx) (T0 : List (Nat × Nat × Nat))  (P : Int32 → St → Prop) (S : St) (v1 : Int32) (v2 : Int32) : Prop := S.2.2.1 = T0 → WW f rm_X11_nextLong g 4 0 0 (Qi f g 0 0 T0 P) S 63 [(0, .ref (gad g 158)), (1, .int v1), (2, .int v2)] []
def at_X11_nextLong_76 (f : Fx) (g : Gx) (T0 : List (Nat × Nat × Nat))  (P : Int32 → St → Prop) (S : St) (v2 : Int32) (s0 : Int32) : Prop := S.2.2.1 = T0 → WW f rm_X11_nextLong g 4 0 0 (Qi f g 0 0 T0 P) S 76 [(2, .int v2)] [.int s0, .ref (gad g 158)]
set_option maxHeartbeats 4000000 in
set_option maxRecDepth 100000 in
theorem run_X11_nextLong_18 {f : Fx} {g : Gx} {T0 : List (Nat × Nat × Nat)} {S : St}  {P : Int32 → St → Prop} (C : Cx f g cX11_nextLong 4 RX11) (hrt : (fmeth f).sig.returnType = (some .int))  {v1 : Int32} {s0 : Int32} (h : st_X11_nextLong_18  P (at_X11_nextLong_18 f g T0  P) (at_X11_nextLong_29 f g T0  P) (at_X11_nextLong_63 f g T0  P) (at_X11_nextLong_76 f g T0  P) S v1 s0) : at_X11_nextLong_18 f g T0  P S v1 s0 := by
  intro hT 
  unfold st_X11_nextLong_18 at h
  refine ww_cVv (As := [.int s0]) (rest := []) C ok_X11_check bw_1199 dX11_nextLong_18 (run_X11_check  (fun _ => h)) rc_Model rfl ⟨Nat.le_of_ble_eq_true rfl, Nat.le_of_ble_eq_true rfl⟩ (Nat.le_of_ble_eq_true rfl) (c2 := 0) (s2 := 0) rfl rfl ⟨Nat.le_of_ble_eq_true rfl, Nat.le_of_ble_eq_true rfl⟩ rfl (fun S16 hp hTg => ?_)
  replace h := hp
  have hT_S16 : S16.2.2.1 = T0 := by rw [hTg]; exact hT
  refine ww_iload_n C dX11_nextLong_21 1 rfl ?_
  refine ww_sipush (v := 128) C dX11_nextLong_22 (by decide) ?_
  refine ww_irem C dX11_nextLong_25 (by decide) ?_
  refine ww_topi (fun x18 e_x18 => ?_)
  replace h := h x18 e_x18
  refine ww_istore_n (lv2 := [(2, .int x18), (0, .ref (gad g 158)), (1, .int v1)]) C dX11_nextLong_26 rfl (Nat.le_of_ble_eq_true rfl) rfl ?_
  refine ww_iconst (v := 1) C dX11_nextLong_27 (by decide) ?_
  refine ww_istore_n (lv2 := [(3, .int 1), (2, .int x18), (0, .ref (gad g 158)), (1, .int v1)]) C dX11_nextLong_28 rfl (Nat.le_of_ble_eq_true rfl) rfl ?_
  exact ww_sub [2, 3, 1, 0] rfl (h hT_S16)
set_option maxHeartbeats 4000000 in
set_option maxRecDepth 100000 in
theorem run_X11_nextLong_29 {f : Fx} {g : Gx} {T0 : List (Nat × Nat × Nat)} {S : St}  {P : Int32 → St → Prop} (C : Cx f g cX11_nextLong 4 RX11) (hrt : (fmeth f).sig.returnType = (some .int))  {v1 : Int32} {v2 : Int32} {v3 : Int32} (h : st_X11_nextLong_29  P (at_X11_nextLong_18 f g T0  P) (at_X11_nextLong_29 f g T0  P) (at_X11_nextLong_63 f g T0  P) (at_X11_nextLong_76 f g T0  P) S v1 v2 v3) : at_X11_nextLong_29 f g T0  P S v1 v2 v3 := by
  intro hT 
  unfold st_X11_nextLong_29 at h
  refine ww_iload_n C dX11_nextLong_29 3 rfl ?_
  refine ww_iconst (v := 3) C dX11_nextLong_30 (by decide) ?_
  refine ww_icmp_ge (tgt := 63) C dX11_nextLong_31 (by decide) (fun q19 => ?_) (fun q19 => ?_)
  · replace h := h.1 q19
    exact ww_sub [0, 1, 2] rfl (h hT)
  · replace h := h.2 q19
    refine ww_iload_n C dX11_nextLong_34 1 rfl ?_
    refine ww_bipush (v := 127) C dX11_nextLong_35 (by decide) ?_
    refine ww_icmp_le (tgt := 63) C dX11_nextLong_37 (by decide) (fun q20 => ?_) (fun q20 => ?_)
    · replace h := h.1 q20
      exact ww_sub [0, 1, 2] rfl (h hT)
    · replace h := h.2 q20
      refine ww_aload_n C dX11_nextLong_40 0 rfl ?_
      refine ww_cVi (As := []) (rest := []) C ok_X11_next bw_1195 dX11_nextLong_41 (run_X11_next  (fun _ => h)) rc_Model rfl ⟨Nat.le_of_ble_eq_true rfl, Nat.le_of_ble_eq_true rfl⟩ (Nat.le_of_ble_eq_true rfl) (c2 := 0) (s2 := 0) rfl rfl ⟨Nat.le_of_ble_eq_true rfl, Nat.le_of_ble_eq_true rfl⟩ rfl (fun r22 S21 hp hTg => ?_)
      replace h := hp
      have hT_S21 : S21.2.2.1 = T0 := by rw [hTg]; exact hT
      refine ww_istore_n (lv2 := [(1, .int r22), (0, .ref (gad g 158)), (2, .int v2), (3, .int v3)]) C dX11_nextLong_44 rfl (Nat.le_of_ble_eq_true rfl) rfl ?_
      refine ww_sipush (v := 128) C dX11_nextLong_45 (by decide) ?_
      refine ww_iload_n C dX11_nextLong_48 2 rfl ?_
      refine ww_imul C dX11_nextLong_49 ?_
      refine ww_iload_n C dX11_nextLong_50 0 rfl ?_
      refine ww_sipush (v := 128) C dX11_nextLong_51 (by decide) ?_
      refine ww_irem C dX11_nextLong_54 (by decide) ?_
      refine ww_iadd C dX11_nextLong_55 ?_
      refine ww_topi (fun x23 e_x23 => ?_)
      replace h := h x23 e_x23
      refine ww_istore_n (lv2 := [(2, .int x23), (1, .int r22), (0, .ref (gad g 158)), (3, .int v3)]) C dX11_nextLong_56 rfl (Nat.le_of_ble_eq_true rfl) rfl ?_
      obtain ⟨x24, e_x24⟩ : ∃ z : Int32, z = v3 + 1 := ⟨_, rfl⟩
      replace h := h x24 e_x24
      refine ww_iinc (v := x24) (lv2 := [(3, .int x24), (2, .int x23), (1, .int r22), (0, .ref (gad g 158))]) C dX11_nextLong_57 3 rfl (by rw [e_x24]; rfl) (Nat.le_of_ble_eq_true rfl) rfl ?_
      refine ww_goto (tgt := 29) C dX11_nextLong_60 (by decide) ?_
      exact ww_sub [3, 2, 1, 0] rfl (h hT_S21)
set_option maxHeartbeats 4000000 in
set_option maxRecDepth 100000 in
theorem run_X11_nextLong_63 {f : Fx} {g : Gx} {T0 : List (Nat × Nat × Nat)} {S : St}  {P : Int32 → St → Prop} (C : Cx f g cX11_nextLong 4 RX11) (hrt : (fmeth f).sig.returnType = (some .int))  {v1 : Int32} {v2 : Int32} (h : st_X11_nextLong_63  P (at_X11_nextLong_18 f g T0  P) (at_X11_nextLong_29 f g T0  P) (at_X11_nextLong_63 f g T0  P) (at_X11_nextLong_76 f g T0  P) S v1 v2) : at_X11_nextLong_63 f g T0  P S v1 v2 := by
  intro hT 
  unfold st_X11_nextLong_63 at h
  refine ww_aload_n C dX11_nextLong_63 0 rfl ?_
  refine ww_iload_n C dX11_nextLong_64 1 rfl ?_
  refine ww_sipush (v := 128) C dX11_nextLong_65 (by decide) ?_
  refine ww_icmp_ge (tgt := 75) C dX11_nextLong_68 (by decide) (fun q25 => ?_) (fun q25 => ?_)
  · replace h := h.1 q25
    refine ww_iconst (v := 0) C dX11_nextLong_75 (by decide) ?_
    exact ww_sub [2] rfl (h hT)
  · replace h := h.2 q25
    refine ww_iconst (v := 1) C dX11_nextLong_71 (by decide) ?_
    refine ww_goto (tgt := 76) C dX11_nextLong_72 (by decide) ?_
    exact ww_sub [2] rfl (h hT)
set_option maxHeartbeats 4000000 in
set_option maxRecDepth 100000 in
theorem run_X11_nextLong_76 {f : Fx} {g : Gx} {T0 : List (Nat × Nat × Nat)} {S : St}  {P : Int32 → St → Prop} (C : Cx f g cX11_nextLong 4 RX11) (hrt : (fmeth f).sig.returnType = (some .int))  {v2 : Int32} {s0 : Int32} (h : st_X11_nextLong_76  P (at_X11_nextLong_18 f g T0  P) (at_X11_nextLong_29 f g T0  P) (at_X11_nextLong_63 f g T0  P) (at_X11_nextLong_76 f g T0  P) S v2 s0) : at_X11_nextLong_76 f g T0  P S v2 s0 := by
  intro hT 
  unfold st_X11_nextLong_76 at h
  refine ww_cVv (As := [.int s0]) (rest := []) C ok_X11_check bw_1199 dX11_nextLong_76 (run_X11_check  (fun _ => h)) rc_Model rfl ⟨Nat.le_of_ble_eq_true rfl, Nat.le_of_ble_eq_true rfl⟩ (Nat.le_of_ble_eq_true rfl) (c2 := 0) (s2 := 0) rfl rfl ⟨Nat.le_of_ble_eq_true rfl, Nat.le_of_ble_eq_true rfl⟩ rfl (fun S26 hp hTg => ?_)
  replace h := hp
  have hT_S26 : S26.2.2.1 = T0 := by rw [hTg]; exact hT
  refine ww_iload_n C dX11_nextLong_79 0 rfl ?_
  exact ww_iret C hrt dX11_nextLong_80 hT_S26 h
def wp_X11_nextLong (S : St)  (P : Int32 → St → Prop) : Prop :=
  ∀ (X18 : St → Int32 → Int32 → Prop) (X29 : St → Int32 → Int32 → Int32 → Prop) (X63 : St → Int32 → Int32 → Prop) (X76 : St → Int32 → Int32 → Prop), (∀ S v1 s0, st_X11_nextLong_18  P X18 X29 X63 X76 S v1 s0 → X18 S v1 s0) → (∀ S v1 v2 v3, st_X11_nextLong_29  P X18 X29 X63 X76 S v1 v2 v3 → X29 S v1 v2 v3) → (∀ S v1 v2, st_X11_nextLong_63  P X18 X29 X63 X76 S v1 v2 → X63 S v1 v2) → (∀ S v2 s0, st_X11_nextLong_76  P X18 X29 X63 X76 S v2 s0 → X76 S v2 s0) → wp_X11_next S (fun r29 S28 => ((r29 = 128 → X18 S28 r29 0) ∧ (¬ r29 = 128 → X18 S28 r29 1)))
set_option maxHeartbeats 4000000 in
set_option maxRecDepth 100000 in
theorem run_X11_nextLong {l : Launch} {g : Gx} {S : St}  {P : Int32 → St → Prop}  (h : rowsLe S → wp_X11_nextLong S  P) : CMi g l yX11_nextLong cX11_nextLong 4 (some .int) rm_X11_nextLong [.ref (gad g 158)] S P := cm_entry (own := RX11) (plainFor_of_name (by decide)) rfl (Nat.le_of_ble_eq_true rfl) rfl (fun hle f hf C hrt => by
  subst hf
  replace h := h hle
  obtain ⟨T0, hT⟩ : ∃ T, S.2.2.1 = T := ⟨_, rfl⟩
  rw [hT]
  replace h := h (at_X11_nextLong_18 f g T0  P) (at_X11_nextLong_29 f g T0  P) (at_X11_nextLong_63 f g T0  P) (at_X11_nextLong_76 f g T0  P) (fun S v1 s0 h => run_X11_nextLong_18 C hrt  h) (fun S v1 v2 v3 h => run_X11_nextLong_29 C hrt  h) (fun S v1 v2 h => run_X11_nextLong_63 C hrt  h) (fun S v2 s0 h => run_X11_nextLong_76 C hrt  h)
  refine ww_aload_n C dX11_nextLong_0 0 rfl ?_
  refine ww_cVi (As := []) (rest := []) C ok_X11_next bw_1195 dX11_nextLong_1 (run_X11_next  (fun _ => h)) rc_Model rfl ⟨Nat.le_of_ble_eq_true rfl, Nat.le_of_ble_eq_true rfl⟩ (Nat.le_of_ble_eq_true rfl) (c2 := 0) (s2 := 0) rfl rfl ⟨Nat.le_of_ble_eq_true rfl, Nat.le_of_ble_eq_true rfl⟩ rfl (fun r29 S28 hp hTg => ?_)
  replace h := hp
  have hT_S28 : S28.2.2.1 = T0 := by rw [hTg]; exact hT
  refine ww_istore_n (lv2 := [(1, .int r29), (0, .ref (gad g 158))]) C dX11_nextLong_4 rfl (Nat.le_of_ble_eq_true rfl) rfl ?_
  refine ww_aload_n C dX11_nextLong_5 1 rfl ?_
  refine ww_iload_n C dX11_nextLong_6 0 rfl ?_
  refine ww_sipush (v := 128) C dX11_nextLong_7 (by decide) ?_
  refine ww_icmp_eq (tgt := 17) C dX11_nextLong_10 (by decide) (fun q30 => ?_) (fun q30 => ?_)
  · replace h := h.1 q30
    refine ww_iconst (v := 0) C dX11_nextLong_17 (by decide) ?_
    exact ww_sub [1, 0] rfl (h hT_S28)
  · replace h := h.2 q30
    refine ww_iconst (v := 1) C dX11_nextLong_13 (by decide) ?_
    refine ww_goto (tgt := 18) C dX11_nextLong_14 (by decide) ?_
    exact ww_sub [1, 0] rfl (h hT_S28))
abbrev rm_X11_head : Room := { frames := 2, cells := 0, slots := 0, locals := 44 }
theorem ok_X11_head : MOK yX11_head RX11 cX11_head 7 (some .int) 0 := ⟨bw_1193, bw_42, bw_69, bw_1194, by decide +kernel⟩
def st_X11_head_33  (P : Int32 → St → Prop) (X33 : St → Int32 → Prop) (X51 : St → Int32 → Prop) (X71 : St → Int32 → Int32 → Prop) (X76 : St → Int32 → Int32 → Prop) (X109 : St → Int32 → Int32 → Int32 → Int32 → Prop) (X145 : St → Int32 → Int32 → Int32 → Int32 → Int32 → Int32 → Prop) (X173 : St → Int32 → Int32 → Int32 → Int32 → Int32 → Prop) (X184 : St → Int32 → Int32 → Int32 → Int32 → Int32 → Int32 → Prop) (X191 : St → Int32 → Int32 → Int32 → Int32 → Prop) (X192 : St → Int32 → Int32 → Int32 → Int32 → Int32 → Prop) (X241 : St → Int32 → Int32 → Int32 → Int32 → Int32 → Int32 → Prop) (X272 : St → Int32 → Int32 → Int32 → Int32 → Prop) (X276 : St → Int32 → Int32 → Int32 → Int32 → Prop) (X277 : St → Int32 → Int32 → Int32 → Int32 → Int32 → Prop) (X299 : St → Int32 → Prop) (X314 : St → Int32 → Int32 → Prop) (X328 : St → Int32 → Int32 → Int32 → Prop) (X336 : St → Int32 → Int32 → Prop) (X354 : St → Int32 → Int32 → Prop) (X375 : St → Int32 → Prop) (X376 : St → Int32 → Int32 → Prop) (S : St) (s0 : Int32) : Prop :=
  wp_X11_check S s0 (fun S63 => wp_X11_next S63 (fun r66 S65 => ((¬ r66 = 50 → X51 S65 0) ∧ (r66 = 50 → X51 S65 1))))
def st_X11_head_51  (P : Int32 → St → Prop) (X33 : St → Int32 → Prop) (X51 : St → Int32 → Prop) (X71 : St → Int32 → Int32 → Prop) (X76 : St → Int32 → Int32 → Prop) (X109 : St → Int32 → Int32 → Int32 → Int32 → Prop) (X145 : St → Int32 → Int32 → Int32 → Int32 → Int32 → Int32 → Prop) (X173 : St → Int32 → Int32 → Int32 → Int32 → Int32 → Prop) (X184 : St → Int32 → Int32 → Int32 → Int32 → Int32 → Int32 → Prop) (X191 : St → Int32 → Int32 → Int32 → Int32 → Prop) (X192 : St → Int32 → Int32 → Int32 → Int32 → Int32 → Prop) (X241 : St → Int32 → Int32 → Int32 → Int32 → Int32 → Int32 → Prop) (X272 : St → Int32 → Int32 → Int32 → Int32 → Prop) (X276 : St → Int32 → Int32 → Int32 → Int32 → Prop) (X277 : St → Int32 → Int32 → Int32 → Int32 → Int32 → Prop) (X299 : St → Int32 → Prop) (X314 : St → Int32 → Int32 → Prop) (X328 : St → Int32 → Int32 → Int32 → Prop) (X336 : St → Int32 → Int32 → Prop) (X354 : St → Int32 → Int32 → Prop) (X375 : St → Int32 → Prop) (X376 : St → Int32 → Int32 → Prop) (S : St) (s0 : Int32) : Prop :=
  wp_X11_check S s0 (fun S68 => wp_X11_next S68 (fun r71 S70 => ((7 < r71 → X71 S70 r71 0) ∧ (¬ 7 < r71 → X71 S70 r71 1))))
def st_X11_head_71  (P : Int32 → St → Prop) (X33 : St → Int32 → Prop) (X51 : St → Int32 → Prop) (X71 : St → Int32 → Int32 → Prop) (X76 : St → Int32 → Int32 → Prop) (X109 : St → Int32 → Int32 → Int32 → Int32 → Prop) (X145 : St → Int32 → Int32 → Int32 → Int32 → Int32 → Int32 → Prop) (X173 : St → Int32 → Int32 → Int32 → Int32 → Int32 → Prop) (X184 : St → Int32 → Int32 → Int32 → Int32 → Int32 → Int32 → Prop) (X191 : St → Int32 → Int32 → Int32 → Int32 → Prop) (X192 : St → Int32 → Int32 → Int32 → Int32 → Int32 → Prop) (X241 : St → Int32 → Int32 → Int32 → Int32 → Int32 → Int32 → Prop) (X272 : St → Int32 → Int32 → Int32 → Int32 → Prop) (X276 : St → Int32 → Int32 → Int32 → Int32 → Prop) (X277 : St → Int32 → Int32 → Int32 → Int32 → Int32 → Prop) (X299 : St → Int32 → Prop) (X314 : St → Int32 → Int32 → Prop) (X328 : St → Int32 → Int32 → Int32 → Prop) (X336 : St → Int32 → Int32 → Prop) (X354 : St → Int32 → Int32 → Prop) (X375 : St → Int32 → Prop) (X376 : St → Int32 → Int32 → Prop) (S : St) (v1 : Int32) (s0 : Int32) : Prop :=
  wp_X11_check S s0 (fun S73 => X76 S73 v1 0)
def st_X11_head_76  (P : Int32 → St → Prop) (X33 : St → Int32 → Prop) (X51 : St → Int32 → Prop) (X71 : St → Int32 → Int32 → Prop) (X76 : St → Int32 → Int32 → Prop) (X109 : St → Int32 → Int32 → Int32 → Int32 → Prop) (X145 : St → Int32 → Int32 → Int32 → Int32 → Int32 → Int32 → Prop) (X173 : St → Int32 → Int32 → Int32 → Int32 → Int32 → Prop) (X184 : St → Int32 → Int32 → Int32 → Int32 → Int32 → Int32 → Prop) (X191 : St → Int32 → Int32 → Int32 → Int32 → Prop) (X192 : St → Int32 → Int32 → Int32 → Int32 → Int32 → Prop) (X241 : St → Int32 → Int32 → Int32 → Int32 → Int32 → Int32 → Prop) (X272 : St → Int32 → Int32 → Int32 → Int32 → Prop) (X276 : St → Int32 → Int32 → Int32 → Int32 → Prop) (X277 : St → Int32 → Int32 → Int32 → Int32 → Int32 → Prop) (X299 : St → Int32 → Prop) (X314 : St → Int32 → Int32 → Prop) (X328 : St → Int32 → Int32 → Int32 → Prop) (X336 : St → Int32 → Int32 → Prop) (X354 : St → Int32 → Int32 → Prop) (X375 : St → Int32 → Prop) (X376 : St → Int32 → Int32 → Prop) (S : St) (v1 : Int32) (v2 : Int32) : Prop :=
  ((7 ≤ v2 → ∀ x76 : Int32, x76 = (-1) → X109 S v1 x76 0 0) ∧ (¬ 7 ≤ v2 → (vp_in v2 (gw_ml 22) ∧ ∀ S77 : St, S77 = stM S 32 v2.toNatClampNeg ((-1)) → (vp_in v2 (gw_ml 23) ∧ ∀ S78 : St, S78 = stM S77 33 v2.toNatClampNeg 0 → ∀ x79 : Int32, x79 = v2 + 1 → X76 S78 v1 x79))))
def st_X11_head_109  (P : Int32 → St → Prop) (X33 : St → Int32 → Prop) (X51 : St → Int32 → Prop) (X71 : St → Int32 → Int32 → Prop) (X76 : St → Int32 → Int32 → Prop) (X109 : St → Int32 → Int32 → Int32 → Int32 → Prop) (X145 : St → Int32 → Int32 → Int32 → Int32 → Int32 → Int32 → Prop) (X173 : St → Int32 → Int32 → Int32 → Int32 → Int32 → Prop) (X184 : St → Int32 → Int32 → Int32 → Int32 → Int32 → Int32 → Prop) (X191 : St → Int32 → Int32 → Int32 → Int32 → Prop) (X192 : St → Int32 → Int32 → Int32 → Int32 → Int32 → Prop) (X241 : St → Int32 → Int32 → Int32 → Int32 → Int32 → Int32 → Prop) (X272 : St → Int32 → Int32 → Int32 → Int32 → Prop) (X276 : St → Int32 → Int32 → Int32 → Int32 → Prop) (X277 : St → Int32 → Int32 → Int32 → Int32 → Int32 → Prop) (X299 : St → Int32 → Prop) (X314 : St → Int32 → Int32 → Prop) (X328 : St → Int32 → Int32 → Int32 → Prop) (X336 : St → Int32 → Int32 → Prop) (X354 : St → Int32 → Int32 → Prop) (X375 : St → Int32 → Prop) (X376 : St → Int32 → Int32 → Prop) (S : St) (v1 : Int32) (v2 : Int32) (v3 : Int32) (v4 : Int32) : Prop :=
  ((v1 ≤ v4 → X299 S v3) ∧ (¬ v1 ≤ v4 → ((¬ (S.2.1 9 11) = 0 → X299 S v3) ∧ ((S.2.1 9 11) = 0 → wp_X11_next S (fun r83 S82 => ((r83 < 64 → X145 S82 v1 v2 v3 v4 r83 r83) ∧ (¬ r83 < 64 → X145 S82 v1 v2 v3 v4 r83 (r83 - 64))))))))
def st_X11_head_145  (P : Int32 → St → Prop) (X33 : St → Int32 → Prop) (X51 : St → Int32 → Prop) (X71 : St → Int32 → Int32 → Prop) (X76 : St → Int32 → Int32 → Prop) (X109 : St → Int32 → Int32 → Int32 → Int32 → Prop) (X145 : St → Int32 → Int32 → Int32 → Int32 → Int32 → Int32 → Prop) (X173 : St → Int32 → Int32 → Int32 → Int32 → Int32 → Prop) (X184 : St → Int32 → Int32 → Int32 → Int32 → Int32 → Int32 → Prop) (X191 : St → Int32 → Int32 → Int32 → Int32 → Prop) (X192 : St → Int32 → Int32 → Int32 → Int32 → Int32 → Prop) (X241 : St → Int32 → Int32 → Int32 → Int32 → Int32 → Int32 → Prop) (X272 : St → Int32 → Int32 → Int32 → Int32 → Prop) (X276 : St → Int32 → Int32 → Int32 → Int32 → Prop) (X277 : St → Int32 → Int32 → Int32 → Int32 → Int32 → Prop) (X299 : St → Int32 → Prop) (X314 : St → Int32 → Int32 → Prop) (X328 : St → Int32 → Int32 → Int32 → Prop) (X336 : St → Int32 → Int32 → Prop) (X354 : St → Int32 → Int32 → Prop) (X375 : St → Int32 → Prop) (X376 : St → Int32 → Int32 → Prop) (S : St) (v1 : Int32) (v2 : Int32) (v3 : Int32) (v4 : Int32) (v5 : Int32) (s0 : Int32) : Prop :=
  ((s0 ≤ v2 → X191 S v1 v3 v4 s0) ∧ (¬ s0 ≤ v2 → ((6 < s0 → X191 S v1 v3 v4 s0) ∧ (¬ 6 < s0 → ((v5 < 64 → X173 S v1 v3 v4 s0 0) ∧ (¬ v5 < 64 → X173 S v1 v3 v4 s0 1))))))
def st_X11_head_173  (P : Int32 → St → Prop) (X33 : St → Int32 → Prop) (X51 : St → Int32 → Prop) (X71 : St → Int32 → Int32 → Prop) (X76 : St → Int32 → Int32 → Prop) (X109 : St → Int32 → Int32 → Int32 → Int32 → Prop) (X145 : St → Int32 → Int32 → Int32 → Int32 → Int32 → Int32 → Prop) (X173 : St → Int32 → Int32 → Int32 → Int32 → Int32 → Prop) (X184 : St → Int32 → Int32 → Int32 → Int32 → Int32 → Int32 → Prop) (X191 : St → Int32 → Int32 → Int32 → Int32 → Prop) (X192 : St → Int32 → Int32 → Int32 → Int32 → Int32 → Prop) (X241 : St → Int32 → Int32 → Int32 → Int32 → Int32 → Int32 → Prop) (X272 : St → Int32 → Int32 → Int32 → Int32 → Prop) (X276 : St → Int32 → Int32 → Int32 → Int32 → Prop) (X277 : St → Int32 → Int32 → Int32 → Int32 → Int32 → Prop) (X299 : St → Int32 → Prop) (X314 : St → Int32 → Int32 → Prop) (X328 : St → Int32 → Int32 → Int32 → Prop) (X336 : St → Int32 → Int32 → Prop) (X354 : St → Int32 → Int32 → Prop) (X375 : St → Int32 → Prop) (X376 : St → Int32 → Int32 → Prop) (S : St) (v1 : Int32) (v3 : Int32) (v4 : Int32) (v6 : Int32) (s0 : Int32) : Prop :=
  ((2 ≤ v6 → X184 S v1 v3 v4 v6 0 s0) ∧ (¬ 2 ≤ v6 → X184 S v1 v3 v4 v6 1 s0))
def st_X11_head_184  (P : Int32 → St → Prop) (X33 : St → Int32 → Prop) (X51 : St → Int32 → Prop) (X71 : St → Int32 → Int32 → Prop) (X76 : St → Int32 → Int32 → Prop) (X109 : St → Int32 → Int32 → Int32 → Int32 → Prop) (X145 : St → Int32 → Int32 → Int32 → Int32 → Int32 → Int32 → Prop) (X173 : St → Int32 → Int32 → Int32 → Int32 → Int32 → Prop) (X184 : St → Int32 → Int32 → Int32 → Int32 → Int32 → Int32 → Prop) (X191 : St → Int32 → Int32 → Int32 → Int32 → Prop) (X192 : St → Int32 → Int32 → Int32 → Int32 → Int32 → Prop) (X241 : St → Int32 → Int32 → Int32 → Int32 → Int32 → Int32 → Prop) (X272 : St → Int32 → Int32 → Int32 → Int32 → Prop) (X276 : St → Int32 → Int32 → Int32 → Int32 → Prop) (X277 : St → Int32 → Int32 → Int32 → Int32 → Int32 → Prop) (X299 : St → Int32 → Prop) (X314 : St → Int32 → Int32 → Prop) (X328 : St → Int32 → Int32 → Int32 → Prop) (X336 : St → Int32 → Int32 → Prop) (X354 : St → Int32 → Int32 → Prop) (X375 : St → Int32 → Prop) (X376 : St → Int32 → Int32 → Prop) (S : St) (v1 : Int32) (v3 : Int32) (v4 : Int32) (v6 : Int32) (s0 : Int32) (s1 : Int32) : Prop :=
  ((¬ s1 = s0 → X191 S v1 v3 v4 v6) ∧ (s1 = s0 → X192 S v1 v3 v4 v6 1))
def st_X11_head_191  (P : Int32 → St → Prop) (X33 : St → Int32 → Prop) (X51 : St → Int32 → Prop) (X71 : St → Int32 → Int32 → Prop) (X76 : St → Int32 → Int32 → Prop) (X109 : St → Int32 → Int32 → Int32 → Int32 → Prop) (X145 : St → Int32 → Int32 → Int32 → Int32 → Int32 → Int32 → Prop) (X173 : St → Int32 → Int32 → Int32 → Int32 → Int32 → Prop) (X184 : St → Int32 → Int32 → Int32 → Int32 → Int32 → Int32 → Prop) (X191 : St → Int32 → Int32 → Int32 → Int32 → Prop) (X192 : St → Int32 → Int32 → Int32 → Int32 → Int32 → Prop) (X241 : St → Int32 → Int32 → Int32 → Int32 → Int32 → Int32 → Prop) (X272 : St → Int32 → Int32 → Int32 → Int32 → Prop) (X276 : St → Int32 → Int32 → Int32 → Int32 → Prop) (X277 : St → Int32 → Int32 → Int32 → Int32 → Int32 → Prop) (X299 : St → Int32 → Prop) (X314 : St → Int32 → Int32 → Prop) (X328 : St → Int32 → Int32 → Int32 → Prop) (X336 : St → Int32 → Int32 → Prop) (X354 : St → Int32 → Int32 → Prop) (X375 : St → Int32 → Prop) (X376 : St → Int32 → Int32 → Prop) (S : St) (v1 : Int32) (v3 : Int32) (v4 : Int32) (v6 : Int32) : Prop :=
  X192 S v1 v3 v4 v6 0
def st_X11_head_192  (P : Int32 → St → Prop) (X33 : St → Int32 → Prop) (X51 : St → Int32 → Prop) (X71 : St → Int32 → Int32 → Prop) (X76 : St → Int32 → Int32 → Prop) (X109 : St → Int32 → Int32 → Int32 → Int32 → Prop) (X145 : St → Int32 → Int32 → Int32 → Int32 → Int32 → Int32 → Prop) (X173 : St → Int32 → Int32 → Int32 → Int32 → Int32 → Prop) (X184 : St → Int32 → Int32 → Int32 → Int32 → Int32 → Int32 → Prop) (X191 : St → Int32 → Int32 → Int32 → Int32 → Prop) (X192 : St → Int32 → Int32 → Int32 → Int32 → Int32 → Prop) (X241 : St → Int32 → Int32 → Int32 → Int32 → Int32 → Int32 → Prop) (X272 : St → Int32 → Int32 → Int32 → Int32 → Prop) (X276 : St → Int32 → Int32 → Int32 → Int32 → Prop) (X277 : St → Int32 → Int32 → Int32 → Int32 → Int32 → Prop) (X299 : St → Int32 → Prop) (X314 : St → Int32 → Int32 → Prop) (X328 : St → Int32 → Int32 → Int32 → Prop) (X336 : St → Int32 → Int32 → Prop) (X354 : St → Int32 → Int32 → Prop) (X375 : St → Int32 → Prop) (X376 : St → Int32 → Int32 → Prop) (S : St) (v1 : Int32) (v3 : Int32) (v4 : Int32) (v6 : Int32) (s0 : Int32) : Prop :=
  wp_X11_check S s0 (fun S90 => (((S90.2.1 9 11) = 0 → wp_X11_nextLong S90 (fun r94 S93 => (vp_in v6 (gw_ml 22) ∧ ∀ S95 : St, S95 = stM S93 32 v6.toNatClampNeg r94 → ((2 ≤ v6 → (vp_in v6 (gw_ml 22) ∧ X241 S95 v1 v3 v4 v6 (S95.2.1 32 v6.toNatClampNeg) v6)) ∧ (¬ 2 ≤ v6 → wp_X11_nextLong S95 (fun r98 S97 => X241 S97 v1 v3 v4 v6 r98 v6)))))) ∧ (¬ (S90.2.1 9 11) = 0 → P 0 S90)))
def st_X11_head_241  (P : Int32 → St → Prop) (X33 : St → Int32 → Prop) (X51 : St → Int32 → Prop) (X71 : St → Int32 → Int32 → Prop) (X76 : St → Int32 → Int32 → Prop) (X109 : St → Int32 → Int32 → Int32 → Int32 → Prop) (X145 : St → Int32 → Int32 → Int32 → Int32 → Int32 → Int32 → Prop) (X173 : St → Int32 → Int32 → Int32 → Int32 → Int32 → Prop) (X184 : St → Int32 → Int32 → Int32 → Int32 → Int32 → Int32 → Prop) (X191 : St → Int32 → Int32 → Int32 → Int32 → Prop) (X192 : St → Int32 → Int32 → Int32 → Int32 → Int32 → Prop) (X241 : St → Int32 → Int32 → Int32 → Int32 → Int32 → Int32 → Prop) (X272 : St → Int32 → Int32 → Int32 → Int32 → Prop) (X276 : St → Int32 → Int32 → Int32 → Int32 → Prop) (X277 : St → Int32 → Int32 → Int32 → Int32 → Int32 → Prop) (X299 : St → Int32 → Prop) (X314 : St → Int32 → Int32 → Prop) (X328 : St → Int32 → Int32 → Int32 → Prop) (X336 : St → Int32 → Int32 → Prop) (X354 : St → Int32 → Int32 → Prop) (X375 : St → Int32 → Prop) (X376 : St → Int32 → Int32 → Prop) (S : St) (v1 : Int32) (v3 : Int32) (v4 : Int32) (v6 : Int32) (s0 : Int32) (s1 : Int32) : Prop :=
  (vp_in s1 (gw_ml 23) ∧ ∀ S99 : St, S99 = stM S 33 s1.toNatClampNeg s0 → ((v6 < 2 → X272 S99 v1 v3 v4 v6) ∧ (¬ v6 < 2 → (vp_in v6 (gw_ml 22) ∧ (((S99.2.1 32 v6.toNatClampNeg) < 1 → X276 S99 v1 v3 v4 v6) ∧ (¬ (S99.2.1 32 v6.toNatClampNeg) < 1 → (vp_in v6 (gw_ml 22) ∧ ((20 < (S99.2.1 32 v6.toNatClampNeg) → X276 S99 v1 v3 v4 v6) ∧ (¬ 20 < (S99.2.1 32 v6.toNatClampNeg) → X272 S99 v1 v3 v4 v6)))))))))
def st_X11_head_272  (P : Int32 → St → Prop) (X33 : St → Int32 → Prop) (X51 : St → Int32 → Prop) (X71 : St → Int32 → Int32 → Prop) (X76 : St → Int32 → Int32 → Prop) (X109 : St → Int32 → Int32 → Int32 → Int32 → Prop) (X145 : St → Int32 → Int32 → Int32 → Int32 → Int32 → Int32 → Prop) (X173 : St → Int32 → Int32 → Int32 → Int32 → Int32 → Prop) (X184 : St → Int32 → Int32 → Int32 → Int32 → Int32 → Int32 → Prop) (X191 : St → Int32 → Int32 → Int32 → Int32 → Prop) (X192 : St → Int32 → Int32 → Int32 → Int32 → Int32 → Prop) (X241 : St → Int32 → Int32 → Int32 → Int32 → Int32 → Int32 → Prop) (X272 : St → Int32 → Int32 → Int32 → Int32 → Prop) (X276 : St → Int32 → Int32 → Int32 → Int32 → Prop) (X277 : St → Int32 → Int32 → Int32 → Int32 → Int32 → Prop) (X299 : St → Int32 → Prop) (X314 : St → Int32 → Int32 → Prop) (X328 : St → Int32 → Int32 → Int32 → Prop) (X336 : St → Int32 → Int32 → Prop) (X354 : St → Int32 → Int32 → Prop) (X375 : St → Int32 → Prop) (X376 : St → Int32 → Int32 → Prop) (S : St) (v1 : Int32) (v3 : Int32) (v4 : Int32) (v6 : Int32) : Prop :=
  X277 S v1 v3 v4 v6 1
def st_X11_head_276  (P : Int32 → St → Prop) (X33 : St → Int32 → Prop) (X51 : St → Int32 → Prop) (X71 : St → Int32 → Int32 → Prop) (X76 : St → Int32 → Int32 → Prop) (X109 : St → Int32 → Int32 → Int32 → Int32 → Prop) (X145 : St → Int32 → Int32 → Int32 → Int32 → Int32 → Int32 → Prop) (X173 : St → Int32 → Int32 → Int32 → Int32 → Int32 → Prop) (X184 : St → Int32 → Int32 → Int32 → Int32 → Int32 → Int32 → Prop) (X191 : St → Int32 → Int32 → Int32 → Int32 → Prop) (X192 : St → Int32 → Int32 → Int32 → Int32 → Int32 → Prop) (X241 : St → Int32 → Int32 → Int32 → Int32 → Int32 → Int32 → Prop) (X272 : St → Int32 → Int32 → Int32 → Int32 → Prop) (X276 : St → Int32 → Int32 → Int32 → Int32 → Prop) (X277 : St → Int32 → Int32 → Int32 → Int32 → Int32 → Prop) (X299 : St → Int32 → Prop) (X314 : St → Int32 → Int32 → Prop) (X328 : St → Int32 → Int32 → Int32 → Prop) (X336 : St → Int32 → Int32 → Prop) (X354 : St → Int32 → Int32 → Prop) (X375 : St → Int32 → Prop) (X376 : St → Int32 → Int32 → Prop) (S : St) (v1 : Int32) (v3 : Int32) (v4 : Int32) (v6 : Int32) : Prop :=
  X277 S v1 v3 v4 v6 0
def st_X11_head_277  (P : Int32 → St → Prop) (X33 : St → Int32 → Prop) (X51 : St → Int32 → Prop) (X71 : St → Int32 → Int32 → Prop) (X76 : St → Int32 → Int32 → Prop) (X109 : St → Int32 → Int32 → Int32 → Int32 → Prop) (X145 : St → Int32 → Int32 → Int32 → Int32 → Int32 → Int32 → Prop) (X173 : St → Int32 → Int32 → Int32 → Int32 → Int32 → Prop) (X184 : St → Int32 → Int32 → Int32 → Int32 → Int32 → Int32 → Prop) (X191 : St → Int32 → Int32 → Int32 → Int32 → Prop) (X192 : St → Int32 → Int32 → Int32 → Int32 → Int32 → Prop) (X241 : St → Int32 → Int32 → Int32 → Int32 → Int32 → Int32 → Prop) (X272 : St → Int32 → Int32 → Int32 → Int32 → Prop) (X276 : St → Int32 → Int32 → Int32 → Int32 → Prop) (X277 : St → Int32 → Int32 → Int32 → Int32 → Int32 → Prop) (X299 : St → Int32 → Prop) (X314 : St → Int32 → Int32 → Prop) (X328 : St → Int32 → Int32 → Int32 → Prop) (X336 : St → Int32 → Int32 → Prop) (X354 : St → Int32 → Int32 → Prop) (X375 : St → Int32 → Prop) (X376 : St → Int32 → Int32 → Prop) (S : St) (v1 : Int32) (v3 : Int32) (v4 : Int32) (v6 : Int32) (s0 : Int32) : Prop :=
  wp_X11_check S s0 (fun S103 => (vp_in v6 (gw_ml 23) ∧ ∀ x105 : Int32, x105 = v3 + (S103.2.1 33 v6.toNatClampNeg) → ∀ x106 : Int32, x106 = v4 + 1 → X109 S103 v1 v6 x105 x106))
def st_X11_head_299  (P : Int32 → St → Prop) (X33 : St → Int32 → Prop) (X51 : St → Int32 → Prop) (X71 : St → Int32 → Int32 → Prop) (X76 : St → Int32 → Int32 → Prop) (X109 : St → Int32 → Int32 → Int32 → Int32 → Prop) (X145 : St → Int32 → Int32 → Int32 → Int32 → Int32 → Int32 → Prop) (X173 : St → Int32 → Int32 → Int32 → Int32 → Int32 → Prop) (X184 : St → Int32 → Int32 → Int32 → Int32 → Int32 → Int32 → Prop) (X191 : St → Int32 → Int32 → Int32 → Int32 → Prop) (X192 : St → Int32 → Int32 → Int32 → Int32 → Int32 → Prop) (X241 : St → Int32 → Int32 → Int32 → Int32 → Int32 → Int32 → Prop) (X272 : St → Int32 → Int32 → Int32 → Int32 → Prop) (X276 : St → Int32 → Int32 → Int32 → Int32 → Prop) (X277 : St → Int32 → Int32 → Int32 → Int32 → Int32 → Prop) (X299 : St → Int32 → Prop) (X314 : St → Int32 → Int32 → Prop) (X328 : St → Int32 → Int32 → Int32 → Prop) (X336 : St → Int32 → Int32 → Prop) (X354 : St → Int32 → Int32 → Prop) (X375 : St → Int32 → Prop) (X376 : St → Int32 → Int32 → Prop) (S : St) (v3 : Int32) : Prop :=
  (vp_in 0 (gw_ml 22) ∧ ((0 ≤ (S.2.1 32 (0 : Int32).toNatClampNeg) → X314 S v3 0) ∧ (¬ 0 ≤ (S.2.1 32 (0 : Int32).toNatClampNeg) → X314 S v3 1)))
def st_X11_head_314  (P : Int32 → St → Prop) (X33 : St → Int32 → Prop) (X51 : St → Int32 → Prop) (X71 : St → Int32 → Int32 → Prop) (X76 : St → Int32 → Int32 → Prop) (X109 : St → Int32 → Int32 → Int32 → Int32 → Prop) (X145 : St → Int32 → Int32 → Int32 → Int32 → Int32 → Int32 → Prop) (X173 : St → Int32 → Int32 → Int32 → Int32 → Int32 → Prop) (X184 : St → Int32 → Int32 → Int32 → Int32 → Int32 → Int32 → Prop) (X191 : St → Int32 → Int32 → Int32 → Int32 → Prop) (X192 : St → Int32 → Int32 → Int32 → Int32 → Int32 → Prop) (X241 : St → Int32 → Int32 → Int32 → Int32 → Int32 → Int32 → Prop) (X272 : St → Int32 → Int32 → Int32 → Int32 → Prop) (X276 : St → Int32 → Int32 → Int32 → Int32 → Prop) (X277 : St → Int32 → Int32 → Int32 → Int32 → Int32 → Prop) (X299 : St → Int32 → Prop) (X314 : St → Int32 → Int32 → Prop) (X328 : St → Int32 → Int32 → Int32 → Prop) (X336 : St → Int32 → Int32 → Prop) (X354 : St → Int32 → Int32 → Prop) (X375 : St → Int32 → Prop) (X376 : St → Int32 → Int32 → Prop) (S : St) (v3 : Int32) (s0 : Int32) : Prop :=
  (vp_in 1 (gw_ml 22) ∧ ((0 ≤ (S.2.1 32 (1 : Int32).toNatClampNeg) → X328 S v3 0 s0) ∧ (¬ 0 ≤ (S.2.1 32 (1 : Int32).toNatClampNeg) → X328 S v3 1 s0)))
def st_X11_head_328  (P : Int32 → St → Prop) (X33 : St → Int32 → Prop) (X51 : St → Int32 → Prop) (X71 : St → Int32 → Int32 → Prop) (X76 : St → Int32 → Int32 → Prop) (X109 : St → Int32 → Int32 → Int32 → Int32 → Prop) (X145 : St → Int32 → Int32 → Int32 → Int32 → Int32 → Int32 → Prop) (X173 : St → Int32 → Int32 → Int32 → Int32 → Int32 → Prop) (X184 : St → Int32 → Int32 → Int32 → Int32 → Int32 → Int32 → Prop) (X191 : St → Int32 → Int32 → Int32 → Int32 → Prop) (X192 : St → Int32 → Int32 → Int32 → Int32 → Int32 → Prop) (X241 : St → Int32 → Int32 → Int32 → Int32 → Int32 → Int32 → Prop) (X272 : St → Int32 → Int32 → Int32 → Int32 → Prop) (X276 : St → Int32 → Int32 → Int32 → Int32 → Prop) (X277 : St → Int32 → Int32 → Int32 → Int32 → Int32 → Prop) (X299 : St → Int32 → Prop) (X314 : St → Int32 → Int32 → Prop) (X328 : St → Int32 → Int32 → Int32 → Prop) (X336 : St → Int32 → Int32 → Prop) (X354 : St → Int32 → Int32 → Prop) (X375 : St → Int32 → Prop) (X376 : St → Int32 → Int32 → Prop) (S : St) (v3 : Int32) (s0 : Int32) (s1 : Int32) : Prop :=
  ((¬ s1 = s0 → X336 S v3 0) ∧ (s1 = s0 → X336 S v3 1))
def st_X11_head_336  (P : Int32 → St → Prop) (X33 : St → Int32 → Prop) (X51 : St → Int32 → Prop) (X71 : St → Int32 → Int32 → Prop) (X76 : St → Int32 → Int32 → Prop) (X109 : St → Int32 → Int32 → Int32 → Int32 → Prop) (X145 : St → Int32 → Int32 → Int32 → Int32 → Int32 → Int32 → Prop) (X173 : St → Int32 → Int32 → Int32 → Int32 → Int32 → Prop) (X184 : St → Int32 → Int32 → Int32 → Int32 → Int32 → Int32 → Prop) (X191 : St → Int32 → Int32 → Int32 → Int32 → Prop) (X192 : St → Int32 → Int32 → Int32 → Int32 → Int32 → Prop) (X241 : St → Int32 → Int32 → Int32 → Int32 → Int32 → Int32 → Prop) (X272 : St → Int32 → Int32 → Int32 → Int32 → Prop) (X276 : St → Int32 → Int32 → Int32 → Int32 → Prop) (X277 : St → Int32 → Int32 → Int32 → Int32 → Int32 → Prop) (X299 : St → Int32 → Prop) (X314 : St → Int32 → Int32 → Prop) (X328 : St → Int32 → Int32 → Int32 → Prop) (X336 : St → Int32 → Int32 → Prop) (X354 : St → Int32 → Int32 → Prop) (X375 : St → Int32 → Prop) (X376 : St → Int32 → Int32 → Prop) (S : St) (v3 : Int32) (s0 : Int32) : Prop :=
  wp_X11_check S s0 (fun S110 => (((S110.2.1 9 11) = 0 → wp_X11_nextLong S110 (fun r114 S113 => X354 S113 v3 r114)) ∧ (¬ (S110.2.1 9 11) = 0 → X354 S110 v3 0)))
def st_X11_head_354  (P : Int32 → St → Prop) (X33 : St → Int32 → Prop) (X51 : St → Int32 → Prop) (X71 : St → Int32 → Int32 → Prop) (X76 : St → Int32 → Int32 → Prop) (X109 : St → Int32 → Int32 → Int32 → Int32 → Prop) (X145 : St → Int32 → Int32 → Int32 → Int32 → Int32 → Int32 → Prop) (X173 : St → Int32 → Int32 → Int32 → Int32 → Int32 → Prop) (X184 : St → Int32 → Int32 → Int32 → Int32 → Int32 → Int32 → Prop) (X191 : St → Int32 → Int32 → Int32 → Int32 → Prop) (X192 : St → Int32 → Int32 → Int32 → Int32 → Int32 → Prop) (X241 : St → Int32 → Int32 → Int32 → Int32 → Int32 → Int32 → Prop) (X272 : St → Int32 → Int32 → Int32 → Int32 → Prop) (X276 : St → Int32 → Int32 → Int32 → Int32 → Prop) (X277 : St → Int32 → Int32 → Int32 → Int32 → Int32 → Prop) (X299 : St → Int32 → Prop) (X314 : St → Int32 → Int32 → Prop) (X328 : St → Int32 → Int32 → Int32 → Prop) (X336 : St → Int32 → Int32 → Prop) (X354 : St → Int32 → Int32 → Prop) (X375 : St → Int32 → Prop) (X376 : St → Int32 → Int32 → Prop) (S : St) (v3 : Int32) (s0 : Int32) : Prop :=
  ((¬ s0 = v3 → X375 S s0) ∧ (s0 = v3 → ((1000 < s0 → X375 S s0) ∧ (¬ 1000 < s0 → X376 S s0 1))))
def st_X11_head_375  (P : Int32 → St → Prop) (X33 : St → Int32 → Prop) (X51 : St → Int32 → Prop) (X71 : St → Int32 → Int32 → Prop) (X76 : St → Int32 → Int32 → Prop) (X109 : St → Int32 → Int32 → Int32 → Int32 → Prop) (X145 : St → Int32 → Int32 → Int32 → Int32 → Int32 → Int32 → Prop) (X173 : St → Int32 → Int32 → Int32 → Int32 → Int32 → Prop) (X184 : St → Int32 → Int32 → Int32 → Int32 → Int32 → Int32 → Prop) (X191 : St → Int32 → Int32 → Int32 → Int32 → Prop) (X192 : St → Int32 → Int32 → Int32 → Int32 → Int32 → Prop) (X241 : St → Int32 → Int32 → Int32 → Int32 → Int32 → Int32 → Prop) (X272 : St → Int32 → Int32 → Int32 → Int32 → Prop) (X276 : St → Int32 → Int32 → Int32 → Int32 → Prop) (X277 : St → Int32 → Int32 → Int32 → Int32 → Int32 → Prop) (X299 : St → Int32 → Prop) (X314 : St → Int32 → Int32 → Prop) (X328 : St → Int32 → Int32 → Int32 → Prop) (X336 : St → Int32 → Int32 → Prop) (X354 : St → Int32 → Int32 → Prop) (X375 : St → Int32 → Prop) (X376 : St → Int32 → Int32 → Prop) (S : St) (v4 : Int32) : Prop :=
  X376 S v4 0
def st_X11_head_376  (P : Int32 → St → Prop) (X33 : St → Int32 → Prop) (X51 : St → Int32 → Prop) (X71 : St → Int32 → Int32 → Prop) (X76 : St → Int32 → Int32 → Prop) (X109 : St → Int32 → Int32 → Int32 → Int32 → Prop) (X145 : St → Int32 → Int32 → Int32 → Int32 → Int32 → Int32 → Prop) (X173 : St → Int32 → Int32 → Int32 → Int32 → Int32 → Prop) (X184 : St → Int32 → Int32 → Int32 → Int32 → Int32 → Int32 → Prop) (X191 : St → Int32 → Int32 → Int32 → Int32 → Prop) (X192 : St → Int32 → Int32 → Int32 → Int32 → Int32 → Prop) (X241 : St → Int32 → Int32 → Int32 → Int32 → Int32 → Int32 → Prop) (X272 : St → Int32 → Int32 → Int32 → Int32 → Prop) (X276 : St → Int32 → Int32 → Int32 → Int32 → Prop) (X277 : St → Int32 → Int32 → Int32 → Int32 → Int32 → Prop) (X299 : St → Int32 → Prop) (X314 : St → Int32 → Int32 → Prop) (X328 : St → Int32 → Int32 → Int32 → Prop) (X336 : St → Int32 → Int32 → Prop) (X354 : St → Int32 → Int32 → Prop) (X375 : St → Int32 → Prop) (X376 : St → Int32 → Int32 → Prop) (S : St) (v4 : Int32) (s0 : Int32) : Prop :=
  wp_X11_check S s0 (fun S117 => P v4 S117)
def at_X11_head_33 (f : Fx) (g : Gx) (T0 : List (Nat × Nat × Nat))  (P : Int32 → St → Prop) (S : St) (s0 : Int32) : Prop := S.2.2.1 = T0 → WW f rm_X11_head g 7 0 0 (Qi f g 0 0 T0 P) S 33 [(0, .ref (gad g 158))] [.int s0, .ref (gad g 158)]
def at_X11_head_51 (f : Fx) (g : Gx) (T0 : List (Nat × Nat × Nat))  (P : Int32 → St → Prop) (S : St) (s0 : Int32) : Prop := S.2.2.1 = T0 → WW f rm_X11_head g 7 0 0 (Qi f g 0 0 T0 P) S 51 [(0, .ref (gad g 158))] [.int s0, .ref (gad g 158)]
def at_X11_head_71 (f : Fx) (g : Gx) (T0 : List (Nat × Nat × Nat))  (P : Int32 → St → Prop) (S : St) (v1 : Int32) (s0 : Int32) : Prop := S.2.2.1 = T0 → WW f rm_X11_head g 7 0 0 (Qi f g 0 0 T0 P) S 71 [(0, .ref (gad g 158)), (1, .int v1)] [.int s0, .ref (gad g 158)]
def at_X11_head_76 (f : Fx) (g : Gx) (T0 : List (Nat × Nat × Nat))  (P : Int32 → St → Prop) (S : St) (v1 : Int32) (v2 : Int32) : Prop := S.2.2.1 = T0 → WW f rm_X11_head g 7 0 0 (Qi f g 0 0 T0 P) S 76 [(0, .ref (gad g 158)), (1, .int v1), (2, .int v2)] []
def at_X11_head_109 (f : Fx) (g : Gx) (T0 : List (Nat × Nat × Nat))  (P : Int32 → St → Prop) (S : St) (v1 : Int32) (v2 : Int32) (v3 : Int32) (v4 : Int32) : Prop := S.2.2.1 = T0 → WW f rm_X11_head g 7 0 0 (Qi f g 0 0 T0 P) S 109 [(0, .ref (gad g 158)), (1, .int v1), (2, .int v2), (3, .int v3), (4, .int v4)] []
def at_X11_head_145 (f : Fx) (g : Gx) (T0 : List (Nat × Nat × Nat))  (P : Int32 → St → Prop) (S : St) (v1 : Int32) (v2 : Int32) (v3 : Int32) (v4 : Int32) (v5 : Int32) (s0 : Int32) : Prop := S.2.2.1 = T0 → WW f rm_X11_head g 7 0 0 (Qi f g 0 0 T0 P) S 145 [(0, .ref (gad g 158)), (1, .int v1), (2, .int v2), (3, .int v3), (4, .int v4), (5, .int v5)] [.int s0]
def at_X11_head_173 (f : Fx) (g : Gx) (T0 : List (Nat × Nat × Nat))  (P : Int32 → St → Prop) (S : St) (v1 : Int32) (v3 : Int32) (v4 : Int32) (v6 : Int32) (s0 : Int32) : Prop := S.2.2.1 = T0 → WW f rm_X11_head g 7 0 0 (Qi f g 0 0 T0 P) S 173 [(0, .ref (gad g 158)), (1, .int v1), (3, .int v3), (4, .int v4), (6, .int v6)] [.int s0, .ref (gad g 158)]
def at_X11_head_184 (f : Fx) (g : Gx) (T0 : List (Nat × Nat × Nat))  (P : Int32 → St → Prop) (S : St) (v1 : Int32) (v3 : Int32) (v4 : Int32) (v6 : Int32) (s0 : Int32) (s1 : Int32) : Prop := S.2.2.1 = T0 → WW f rm_X11_head g 7 0 0 (Qi f g 0 0 T0 P) S 184 [(0, .ref (gad g 158)), (1, .int v1), (3, .int v3), (4, .int v4), (6, .int v6)] [.int s0, .int s1, .ref (gad g 158)]
def at_X11_head_191 (f : Fx) (g : Gx) (T0 : List (Nat × Nat × Nat))  (P : Int32 → St → Prop) (S : St) (v1 : Int32) (v3 : Int32) (v4 : Int32) (v6 : Int32) : Prop := S.2.2.1 = T0 → WW f rm_X11_head g 7 0 0 (Qi f g 0 0 T0 P) S 191 [(0, .ref (gad g 158)), (1, .int v1), (3, .int v3), (4, .int v4), (6, .int v6)] [.ref (gad g 158)]
def at_X11_head_192 (f : Fx) (g : Gx) (T0 : List (Nat × Nat × Nat))  (P : Int32 → St → Prop) (S : St) (v1 : Int32) (v3 : Int32) (v4 : Int32) (v6 : Int32) (s0 : Int32) : Prop := S.2.2.1 = T0 → WW f rm_X11_head g 7 0 0 (Qi f g 0 0 T0 P) S 192 [(0, .ref (gad g 158)), (1, .int v1), (3, .int v3), (4, .int v4), (6, .int v6)] [.int s0, .ref (gad g 158)]
def at_X11_head_241 (f : Fx) (g : Gx) (T0 : List (Nat × Nat × Nat))  (P : Int32 → St → Prop) (S : St) (v1 : Int32) (v3 : Int32) (v4 : Int32) (v6 : Int32) (s0 : Int32) (s1 : Int32) : Prop := S.2.2.1 = T0 → WW f rm_X11_head g 7 0 0 (Qi f g 0 0 T0 P) S 241 [(0, .ref (gad g 158)), (1, .int v1), (3, .int v3), (4, .int v4), (6, .int v6)] [.int s0, .int s1, .ref (gad g 182)]
def at_X11_head_272 (f : Fx) (g : Gx) (T0 : List (Nat × Nat × Nat))  (P : Int32 → St → Prop) (S : St) (v1 : Int32) (v3 : Int32) (v4 : Int32) (v6 : Int32) : Prop := S.2.2.1 = T0 → WW f rm_X11_head g 7 0 0 (Qi f g 0 0 T0 P) S 272 [(0, .ref (gad g 158)), (1, .int v1), (3, .int v3), (4, .int v4), (6, .int v6)] [.ref (gad g 158)]
def at_X11_head_276 (f : Fx) (g : Gx) (T0 : List (Nat × Nat × Nat))  (P : Int32 → St → Prop) (S : St) (v1 : Int32) (v3 : Int32) (v4 : Int32) (v6 : Int32) : Prop := S.2.2.1 = T0 → WW f rm_X11_head g 7 0 0 (Qi f g 0 0 T0 P) S 276 [(0, .ref (gad g 158)), (1, .int v1), (3, .int v3), (4, .int v4), (6, .int v6)] [.ref (gad g 158)]
def at_X11_head_277 (f : Fx) (g : Gx) (T0 : List (Nat × Nat × Nat))  (P : Int32 → St → Prop) (S : St) (v1 : Int32) (v3 : Int32) (v4 : Int32) (v6 : Int32) (s0 : Int32) : Prop := S.2.2.1 = T0 → WW f rm_X11_head g 7 0 0 (Qi f g 0 0 T0 P) S 277 [(0, .ref (gad g 158)), (1, .int v1), (3, .int v3), (4, .int v4), (6, .int v6)] [.int s0, .ref (gad g 158)]
def at_X11_head_299 (f : Fx) (g : Gx) (T0 : List (Nat × Nat × Nat))  (P : Int32 → St → Prop) (S : St) (v3 : Int32) : Prop := S.2.2.1 = T0 → WW f rm_X11_head g 7 0 0 (Qi f g 0 0 T0 P) S 299 [(0, .ref (gad g 158)), (3, .int v3)] []
def at_X11_head_314 (f : Fx) (g : Gx) (T0 : List (Nat × Nat × Nat))  (P : Int32 → St → Prop) (S : St) (v3 : Int32) (s0 : Int32) : Prop := S.2.2.1 = T0 → WW f rm_X11_head g 7 0 0 (Qi f g 0 0 T0 P) S 314 [(0, .ref (gad g 158)), (3, .int v3)] [.int s0, .ref (gad g 158)]
def at_X11_head_328 (f : Fx) (g : Gx) (T0 : List (Nat × Nat × Nat))  (P : Int32 → St → Prop) (S : St) (v3 : Int32) (s0 : Int32) (s1 : Int32) : Prop := S.2.2.1 = T0 → WW f rm_X11_head g 7 0 0 (Qi f g 0 0 T0 P) S 328 [(0, .ref (gad g 158)), (3, .int v3)] [.int s0, .int s1, .ref (gad g 158)]
def at_X11_head_336 (f : Fx) (g : Gx) (T0 : List (Nat × Nat × Nat))  (P : Int32 → St → Prop) (S : St) (v3 : Int32) (s0 : Int32) : Prop := S.2.2.1 = T0 → WW f rm_X11_head g 7 0 0 (Qi f g 0 0 T0 P) S 336 [(0, .ref (gad g 158)), (3, .int v3)] [.int s0, .ref (gad g 158)]
def at_X11_head_354 (f : Fx) (g : Gx) (T0 : List (Nat × Nat × Nat))  (P : Int32 → St → Prop) (S : St) (v3 : Int32) (s0 : Int32) : Prop := S.2.2.1 = T0 → WW f rm_X11_head g 7 0 0 (Qi f g 0 0 T0 P) S 354 [(0, .ref (gad g 158)), (3, .int v3)] [.int s0]
def at_X11_head_375 (f : Fx) (g : Gx) (T0 : List (Nat × Nat × Nat))  (P : Int32 → St → Prop) (S : St) (v4 : Int32) : Prop := S.2.2.1 = T0 → WW f rm_X11_head g 7 0 0 (Qi f g 0 0 T0 P) S 375 [(4, .int v4)] [.ref (gad g 158)]
def at_X11_head_376 (f : Fx) (g : Gx) (T0 : List (Nat × Nat × Nat))  (P : Int32 → St → Prop) (S : St) (v4 : Int32) (s0 : Int32) : Prop := S.2.2.1 = T0 → WW f rm_X11_head g 7 0 0 (Qi f g 0 0 T0 P) S 376 [(4, .int v4)] [.int s0, .ref (gad g 158)]
set_option maxHeartbeats 4000000 in
set_option maxRecDepth 100000 in
theorem run_X11_head_33 {f : Fx} {g : Gx} {T0 : List (Nat × Nat × Nat)} {S : St}  {P : Int32 → St → Prop} (C : Cx f g cX11_head 7 RX11) (hrt : (fmeth f).sig.returnType = (some .int))  {s0 : Int32} (h : st_X11_head_33  P (at_X11_head_33 f g T0  P) (at_X11_head_51 f g T0  P) (at_X11_head_71 f g T0  P) (at_X11_head_76 f g T0  P) (at_X11_head_109 f g T0  P) (at_X11_head_145 f g T0  P) (at_X11_head_173 f g T0  P) (at_X11_head_184 f g T0  P) (at_X11_head_191 f g T0  P) (at_X11_head_192 f g T0  P) (at_X11_head_241 f g T0  P) (at_X11_head_272 f g T0  P) (at_X11_head_276 f g T0  P) (at_X11_head_277 f g T0  P) (at_X11_head_299 f g T0  P) (at_X11_head_314 f g T0  P) (at_X11_head_328 f g T0  P) (at_X11_head_336 f g T0  P) (at_X11_head_354 f g T0  P) (at_X11_head_375 f g T0  P) (at_X11_head_376 f g T0  P) S s0) : at_X11_head_33 f g T0  P S s0 := by
  intro hT 
  unfold st_X11_head_33 at h
  refine ww_cVv (As := [.int s0]) (rest := []) C ok_X11_check bw_1199 dX11_head_33 (run_X11_check  (fun _ => h)) rc_Model rfl ⟨Nat.le_of_ble_eq_true rfl, Nat.le_of_ble_eq_true rfl⟩ (Nat.le_of_ble_eq_true rfl) (c2 := 0) (s2 := 0) rfl rfl ⟨Nat.le_of_ble_eq_true rfl, Nat.le_of_ble_eq_true rfl⟩ rfl (fun S63 hp hTg => ?_)
  replace h := hp
  have hT_S63 : S63.2.2.1 = T0 := by rw [hTg]; exact hT
  refine ww_aload_n C dX11_head_36 0 rfl ?_
  refine ww_aload_n C dX11_head_37 0 rfl ?_
  refine ww_cVi (As := []) (rest := [.ref (gad g 158)]) C ok_X11_next bw_1195 dX11_head_38 (run_X11_next  (fun _ => h)) rc_Model rfl ⟨Nat.le_of_ble_eq_true rfl, Nat.le_of_ble_eq_true rfl⟩ (Nat.le_of_ble_eq_true rfl) (c2 := 0) (s2 := 0) rfl rfl ⟨Nat.le_of_ble_eq_true rfl, Nat.le_of_ble_eq_true rfl⟩ rfl (fun r66 S65 hp hTg => ?_)
  replace h := hp
  have hT_S65 : S65.2.2.1 = T0 := by rw [hTg]; exact hT_S63
  refine ww_bipush (v := 50) C dX11_head_41 (by decide) ?_
  refine ww_icmp_ne (tgt := 50) C dX11_head_43 (by decide) (fun q67 => ?_) (fun q67 => ?_)
  · replace h := h.1 q67
    refine ww_iconst (v := 0) C dX11_head_50 (by decide) ?_
    exact ww_sub [0] rfl (h hT_S65)
  · replace h := h.2 q67
    refine ww_iconst (v := 1) C dX11_head_46 (by decide) ?_
    refine ww_goto (tgt := 51) C dX11_head_47 (by decide) ?_
    exact ww_sub [0] rfl (h hT_S65)
set_option maxHeartbeats 4000000 in
set_option maxRecDepth 100000 in
theorem run_X11_head_51 {f : Fx} {g : Gx} {T0 : List (Nat × Nat × Nat)} {S : St}  {P : Int32 → St → Prop} (C : Cx f g cX11_head 7 RX11) (hrt : (fmeth f).sig.returnType = (some .int))  {s0 : Int32} (h : st_X11_head_51  P (at_X11_head_33 f g T0  P) (at_X11_head_51 f g T0  P) (at_X11_head_71 f g T0  P) (at_X11_head_76 f g T0  P) (at_X11_head_109 f g T0  P) (at_X11_head_145 f g T0  P) (at_X11_head_173 f g T0  P) (at_X11_head_184 f g T0  P) (at_X11_head_191 f g T0  P) (at_X11_head_192 f g T0  P) (at_X11_head_241 f g T0  P) (at_X11_head_272 f g T0  P) (at_X11_head_276 f g T0  P) (at_X11_head_277 f g T0  P) (at_X11_head_299 f g T0  P) (at_X11_head_314 f g T0  P) (at_X11_head_328 f g T0  P) (at_X11_head_336 f g T0  P) (at_X11_head_354 f g T0  P) (at_X11_head_375 f g T0  P) (at_X11_head_376 f g T0  P) S s0) : at_X11_head_51 f g T0  P S s0 := by
  intro hT 
  unfold st_X11_head_51 at h
  refine ww_cVv (As := [.int s0]) (rest := []) C ok_X11_check bw_1199 dX11_head_51 (run_X11_check  (fun _ => h)) rc_Model rfl ⟨Nat.le_of_ble_eq_true rfl, Nat.le_of_ble_eq_true rfl⟩ (Nat.le_of_ble_eq_true rfl) (c2 := 0) (s2 := 0) rfl rfl ⟨Nat.le_of_ble_eq_true rfl, Nat.le_of_ble_eq_true rfl⟩ rfl (fun S68 hp hTg => ?_)
  replace h := hp
  have hT_S68 : S68.2.2.1 = T0 := by rw [hTg]; exact hT
  refine ww_aload_n C dX11_head_54 0 rfl ?_
  refine ww_cVi (As := []) (rest := []) C ok_X11_next bw_1195 dX11_head_55 (run_X11_next  (fun _ => h)) rc_Model rfl ⟨Nat.le_of_ble_eq_true rfl, Nat.le_of_ble_eq_true rfl⟩ (Nat.le_of_ble_eq_true rfl) (c2 := 0) (s2 := 0) rfl rfl ⟨Nat.le_of_ble_eq_true rfl, Nat.le_of_ble_eq_true rfl⟩ rfl (fun r71 S70 hp hTg => ?_)
  replace h := hp
  have hT_S70 : S70.2.2.1 = T0 := by rw [hTg]; exact hT_S68
  refine ww_istore_n (lv2 := [(1, .int r71), (0, .ref (gad g 158))]) C dX11_head_58 rfl (Nat.le_of_ble_eq_true rfl) rfl ?_
  refine ww_aload_n C dX11_head_59 1 rfl ?_
  refine ww_iload_n C dX11_head_60 0 rfl ?_
  refine ww_bipush (v := 7) C dX11_head_61 (by decide) ?_
  refine ww_icmp_gt (tgt := 70) C dX11_head_63 (by decide) (fun q72 => ?_) (fun q72 => ?_)
  · replace h := h.1 q72
    refine ww_iconst (v := 0) C dX11_head_70 (by decide) ?_
    exact ww_sub [1, 0] rfl (h hT_S70)
  · replace h := h.2 q72
    refine ww_iconst (v := 1) C dX11_head_66 (by decide) ?_
    refine ww_goto (tgt := 71) C dX11_head_67 (by decide) ?_
    exact ww_sub [1, 0] rfl (h hT_S70)
set_option maxHeartbeats 4000000 in
set_option maxRecDepth 100000 in
theorem run_X11_head_71 {f : Fx} {g : Gx} {T0 : List (Nat × Nat × Nat)} {S : St}  {P : Int32 → St → Prop} (C : Cx f g cX11_head 7 RX11) (hrt : (fmeth f).sig.returnType = (some .int))  {v1 : Int32} {s0 : Int32} (h : st_X11_head_71  P (at_X11_head_33 f g T0  P) (at_X11_head_51 f g T0  P) (at_X11_head_71 f g T0  P) (at_X11_head_76 f g T0  P) (at_X11_head_109 f g T0  P) (at_X11_head_145 f g T0  P) (at_X11_head_173 f g T0  P) (at_X11_head_184 f g T0  P) (at_X11_head_191 f g T0  P) (at_X11_head_192 f g T0  P) (at_X11_head_241 f g T0  P) (at_X11_head_272 f g T0  P) (at_X11_head_276 f g T0  P) (at_X11_head_277 f g T0  P) (at_X11_head_299 f g T0  P) (at_X11_head_314 f g T0  P) (at_X11_head_328 f g T0  P) (at_X11_head_336 f g T0  P) (at_X11_head_354 f g T0  P) (at_X11_head_375 f g T0  P) (at_X11_head_376 f g T0  P) S v1 s0) : at_X11_head_71 f g T0  P S v1 s0 := by
  intro hT 
  unfold st_X11_head_71 at h
  refine ww_cVv (As := [.int s0]) (rest := []) C ok_X11_check bw_1199 dX11_head_71 (run_X11_check  (fun _ => h)) rc_Model rfl ⟨Nat.le_of_ble_eq_true rfl, Nat.le_of_ble_eq_true rfl⟩ (Nat.le_of_ble_eq_true rfl) (c2 := 0) (s2 := 0) rfl rfl ⟨Nat.le_of_ble_eq_true rfl, Nat.le_of_ble_eq_true rfl⟩ rfl (fun S73 hp hTg => ?_)
  replace h := hp
  have hT_S73 : S73.2.2.1 = T0 := by rw [hTg]; exact hT
  refine ww_iconst (v := 0) C dX11_head_74 (by decide) ?_
  refine ww_istore_n (lv2 := [(2, .int 0), (0, .ref (gad g 158)), (1, .int v1)]) C dX11_head_75 rfl (Nat.le_of_ble_eq_true rfl) rfl ?_
  exact ww_sub [1, 2, 0] rfl (h hT_S73)
set_option maxHeartbeats 4000000 in
set_option maxRecDepth 100000 in
theorem run_X11_head_76 {f : Fx} {g : Gx} {T0 : List (Nat × Nat × Nat)} {S : St}  {P : Int32 → St → Prop} (C : Cx f g cX11_head 7 RX11) (hrt : (fmeth f).sig.returnType = (some .int))  {v1 : Int32} {v2 : Int32} (h : st_X11_head_76  P (at_X11_head_33 f g T0  P) (at_X11_head_51 f g T0  P) (at_X11_head_71 f g T0  P) (at_X11_head_76 f g T0  P) (at_X11_head_109 f g T0  P) (at_X11_head_145 f g T0  P) (at_X11_head_173 f g T0  P) (at_X11_head_184 f g T0  P) (at_X11_head_191 f g T0  P) (at_X11_head_192 f g T0  P) (at_X11_head_241 f g T0  P) (at_X11_head_272 f g T0  P) (at_X11_head_276 f g T0  P) (at_X11_head_277 f g T0  P) (at_X11_head_299 f g T0  P) (at_X11_head_314 f g T0  P) (at_X11_head_328 f g T0  P) (at_X11_head_336 f g T0  P) (at_X11_head_354 f g T0  P) (at_X11_head_375 f g T0  P) (at_X11_head_376 f g T0  P) S v1 v2) : at_X11_head_76 f g T0  P S v1 v2 := by
  intro hT 
  unfold st_X11_head_76 at h
  refine ww_iload_n C dX11_head_76 2 rfl ?_
  refine ww_bipush (v := 7) C dX11_head_77 (by decide) ?_
  refine ww_icmp_ge (tgt := 102) C dX11_head_79 (by decide) (fun q75 => ?_) (fun q75 => ?_)
  · replace h := h.1 q75
    refine ww_iconst (v := (-1)) C dX11_head_102 (by decide) ?_
    refine ww_topi (fun x76 e_x76 => ?_)
    replace h := h x76 e_x76
    refine ww_istore_n (lv2 := [(2, .int x76), (0, .ref (gad g 158)), (1, .int v1)]) C dX11_head_103 rfl (Nat.le_of_ble_eq_true rfl) rfl ?_
    refine ww_iconst (v := 0) C dX11_head_104 (by decide) ?_
    refine ww_istore_n (lv2 := [(3, .int 0), (2, .int x76), (0, .ref (gad g 158)), (1, .int v1)]) C dX11_head_105 rfl (Nat.le_of_ble_eq_true rfl) rfl ?_
    refine ww_iconst (v := 0) C dX11_head_106 (by decide) ?_
    refine ww_istore (lv2 := [(4, .int 0), (3, .int 0), (2, .int x76), (0, .ref (gad g 158)), (1, .int v1)]) C dX11_head_107 (Nat.le_of_ble_eq_true rfl) rfl ?_
    exact ww_sub [3, 4, 2, 1, 0] rfl (h hT)
  · replace h := h.2 q75
    refine ww_aload_n C dX11_head_82 0 rfl ?_
    refine gf_Model_plainSize C bw_960 dX11_head_83 ?_
    refine ww_iload_n C dX11_head_86 2 rfl ?_
    refine ww_iconst (v := (-1)) C dX11_head_87 (by decide) ?_
    refine is_m (a := 22) C (by decide) (by decide) h.1 dX11_head_88 ?_
    replace h := h.2
    refine ww_nm (fun S77 e_S77 => ?_)
    replace h := h S77 e_S77
    have hT_S77 : S77.2.2.1 = T0 := by rw [e_S77]; exact hT
    refine ww_aload_n C dX11_head_89 0 rfl ?_
    refine gf_Model_streamSize C bw_961 dX11_head_90 ?_
    refine ww_iload_n C dX11_head_93 2 rfl ?_
    refine ww_iconst (v := 0) C dX11_head_94 (by decide) ?_
    refine is_m (a := 23) C (by decide) (by decide) h.1 dX11_head_95 ?_
    replace h := h.2
    refine ww_nm (fun S78 e_S78 => ?_)
    replace h := h S78 e_S78
    have hT_S78 : S78.2.2.1 = T0 := by rw [e_S78]; exact hT_S77
    obtain ⟨x79, e_x79⟩ : ∃ z : Int32, z = v2 + 1 := ⟨_, rfl⟩
    replace h := h x79 e_x79
    refine ww_iinc (v := x79) (lv2 := [(2, .int x79), (0, .ref (gad g 158)), (1, .int v1)]) C dX11_head_96 2 rfl (by rw [e_x79]; rfl) (Nat.le_of_ble_eq_true rfl) rfl ?_
    refine ww_goto (tgt := 76) C dX11_head_99 (by decide) ?_
    exact ww_sub [1, 2, 0] rfl (h hT_S78)
set_option maxHeartbeats 4000000 in
set_option maxRecDepth 100000 in
theorem run_X11_head_109 {f : Fx} {g : Gx} {T0 : List (Nat × Nat × Nat)} {S : St}  {P : Int32 → St → Prop} (C : Cx f g cX11_head 7 RX11) (hrt : (fmeth f).sig.returnType = (some .int))  {v1 : Int32} {v2 : Int32} {v3 : Int32} {v4 : Int32} (h : st_X11_head_109  P (at_X11_head_33 f g T0  P) (at_X11_head_51 f g T0  P) (at_X11_head_71 f g T0  P) (at_X11_head_76 f g T0  P) (at_X11_head_109 f g T0  P) (at_X11_head_145 f g T0  P) (at_X11_head_173 f g T0  P) (at_X11_head_184 f g T0  P) (at_X11_head_191 f g T0  P) (at_X11_head_192 f g T0  P) (at_X11_head_241 f g T0  P) (at_X11_head_272 f g T0  P) (at_X11_head_276 f g T0  P) (at_X11_head_277 f g T0  P) (at_X11_head_299 f g T0  P) (at_X11_head_314 f g T0  P) (at_X11_head_328 f g T0  P) (at_X11_head_336 f g T0  P) (at_X11_head_354 f g T0  P) (at_X11_head_375 f g T0  P) (at_X11_head_376 f g T0  P) S v1 v2 v3 v4) : at_X11_head_109 f g T0  P S v1 v2 v3 v4 := by
  intro hT 
  unfold st_X11_head_109 at h
  refine ww_iload C dX11_head_109 4 rfl ?_
  refine ww_iload_n C dX11_head_111 1 rfl ?_
  refine ww_icmp_ge (tgt := 299) C dX11_head_112 (by decide) (fun q80 => ?_) (fun q80 => ?_)
  · replace h := h.1 q80
    exact ww_sub [0, 3] rfl (h hT)
  · replace h := h.2 q80
    refine ww_aload_n C dX11_head_115 0 rfl ?_
    refine gf_Model_bad C bw_956 dX11_head_116 ?_
    refine ww_if_ne (tgt := 299) C dX11_head_119 (by decide) (fun q81 => ?_) (fun q81 => ?_)
    · replace h := h.1 q81
      exact ww_sub [0, 3] rfl (h hT)
    · replace h := h.2 q81
      refine ww_aload_n C dX11_head_122 0 rfl ?_
      refine ww_cVi (As := []) (rest := []) C ok_X11_next bw_1195 dX11_head_123 (run_X11_next  (fun _ => h)) rc_Model rfl ⟨Nat.le_of_ble_eq_true rfl, Nat.le_of_ble_eq_true rfl⟩ (Nat.le_of_ble_eq_true rfl) (c2 := 0) (s2 := 0) rfl rfl ⟨Nat.le_of_ble_eq_true rfl, Nat.le_of_ble_eq_true rfl⟩ rfl (fun r83 S82 hp hTg => ?_)
      replace h := hp
      have hT_S82 : S82.2.2.1 = T0 := by rw [hTg]; exact hT
      refine ww_istore (lv2 := [(5, .int r83), (0, .ref (gad g 158)), (1, .int v1), (2, .int v2), (3, .int v3), (4, .int v4)]) C dX11_head_126 (Nat.le_of_ble_eq_true rfl) rfl ?_
      refine ww_iload C dX11_head_128 0 rfl ?_
      refine ww_bipush (v := 64) C dX11_head_130 (by decide) ?_
      refine ww_icmp_lt (tgt := 143) C dX11_head_132 (by decide) (fun q84 => ?_) (fun q84 => ?_)
      · replace h := h.1 q84
        refine ww_iload C dX11_head_143 0 rfl ?_
        exact ww_sub [1, 2, 3, 4, 5, 0] rfl (h hT_S82)
      · replace h := h.2 q84
        refine ww_iload C dX11_head_135 0 rfl ?_
        refine ww_bipush (v := 64) C dX11_head_137 (by decide) ?_
        refine ww_isub C dX11_head_139 ?_
        refine ww_goto (tgt := 145) C dX11_head_140 (by decide) ?_
        exact ww_sub [1, 2, 3, 4, 5, 0] rfl (h hT_S82)
set_option maxHeartbeats 4000000 in
set_option maxRecDepth 100000 in
theorem run_X11_head_145 {f : Fx} {g : Gx} {T0 : List (Nat × Nat × Nat)} {S : St}  {P : Int32 → St → Prop} (C : Cx f g cX11_head 7 RX11) (hrt : (fmeth f).sig.returnType = (some .int))  {v1 : Int32} {v2 : Int32} {v3 : Int32} {v4 : Int32} {v5 : Int32} {s0 : Int32} (h : st_X11_head_145  P (at_X11_head_33 f g T0  P) (at_X11_head_51 f g T0  P) (at_X11_head_71 f g T0  P) (at_X11_head_76 f g T0  P) (at_X11_head_109 f g T0  P) (at_X11_head_145 f g T0  P) (at_X11_head_173 f g T0  P) (at_X11_head_184 f g T0  P) (at_X11_head_191 f g T0  P) (at_X11_head_192 f g T0  P) (at_X11_head_241 f g T0  P) (at_X11_head_272 f g T0  P) (at_X11_head_276 f g T0  P) (at_X11_head_277 f g T0  P) (at_X11_head_299 f g T0  P) (at_X11_head_314 f g T0  P) (at_X11_head_328 f g T0  P) (at_X11_head_336 f g T0  P) (at_X11_head_354 f g T0  P) (at_X11_head_375 f g T0  P) (at_X11_head_376 f g T0  P) S v1 v2 v3 v4 v5 s0) : at_X11_head_145 f g T0  P S v1 v2 v3 v4 v5 s0 := by
  intro hT 
  unfold st_X11_head_145 at h
  refine ww_istore (lv2 := [(6, .int s0), (0, .ref (gad g 158)), (1, .int v1), (2, .int v2), (3, .int v3), (4, .int v4), (5, .int v5)]) C dX11_head_145 (Nat.le_of_ble_eq_true rfl) rfl ?_
  refine ww_aload_n C dX11_head_147 1 rfl ?_
  refine ww_iload C dX11_head_148 0 rfl ?_
  refine ww_iload_n C dX11_head_150 3 rfl ?_
  refine ww_icmp_le (tgt := 191) C dX11_head_151 (by decide) (fun q85 => ?_) (fun q85 => ?_)
  · replace h := h.1 q85
    exact ww_sub [1, 2, 4, 5, 0] rfl (h hT)
  · replace h := h.2 q85
    refine ww_iload C dX11_head_154 0 rfl ?_
    refine ww_bipush (v := 6) C dX11_head_156 (by decide) ?_
    refine ww_icmp_gt (tgt := 191) C dX11_head_158 (by decide) (fun q86 => ?_) (fun q86 => ?_)
    · replace h := h.1 q86
      exact ww_sub [1, 2, 4, 5, 0] rfl (h hT)
    · replace h := h.2 q86
      refine ww_iload C dX11_head_161 6 rfl ?_
      refine ww_bipush (v := 64) C dX11_head_163 (by decide) ?_
      refine ww_icmp_lt (tgt := 172) C dX11_head_165 (by decide) (fun q87 => ?_) (fun q87 => ?_)
      · replace h := h.1 q87
        refine ww_iconst (v := 0) C dX11_head_172 (by decide) ?_
        exact ww_sub [1, 2, 4, 5, 0] rfl (h hT)
      · replace h := h.2 q87
        refine ww_iconst (v := 1) C dX11_head_168 (by decide) ?_
        refine ww_goto (tgt := 173) C dX11_head_169 (by decide) ?_
        exact ww_sub [1, 2, 4, 5, 0] rfl (h hT)
set_option maxHeartbeats 4000000 in
set_option maxRecDepth 100000 in
theorem run_X11_head_173 {f : Fx} {g : Gx} {T0 : List (Nat × Nat × Nat)} {S : St}  {P : Int32 → St → Prop} (C : Cx f g cX11_head 7 RX11) (hrt : (fmeth f).sig.returnType = (some .int))  {v1 : Int32} {v3 : Int32} {v4 : Int32} {v6 : Int32} {s0 : Int32} (h : st_X11_head_173  P (at_X11_head_33 f g T0  P) (at_X11_head_51 f g T0  P) (at_X11_head_71 f g T0  P) (at_X11_head_76 f g T0  P) (at_X11_head_109 f g T0  P) (at_X11_head_145 f g T0  P) (at_X11_head_173 f g T0  P) (at_X11_head_184 f g T0  P) (at_X11_head_191 f g T0  P) (at_X11_head_192 f g T0  P) (at_X11_head_241 f g T0  P) (at_X11_head_272 f g T0  P) (at_X11_head_276 f g T0  P) (at_X11_head_277 f g T0  P) (at_X11_head_299 f g T0  P) (at_X11_head_314 f g T0  P) (at_X11_head_328 f g T0  P) (at_X11_head_336 f g T0  P) (at_X11_head_354 f g T0  P) (at_X11_head_375 f g T0  P) (at_X11_head_376 f g T0  P) S v1 v3 v4 v6 s0) : at_X11_head_173 f g T0  P S v1 v3 v4 v6 s0 := by
  intro hT 
  unfold st_X11_head_173 at h
  refine ww_iload C dX11_head_173 4 rfl ?_
  refine ww_iconst (v := 2) C dX11_head_175 (by decide) ?_
  refine ww_icmp_ge (tgt := 183) C dX11_head_176 (by decide) (fun q88 => ?_) (fun q88 => ?_)
  · replace h := h.1 q88
    refine ww_iconst (v := 0) C dX11_head_183 (by decide) ?_
    exact ww_sub [0, 1, 2, 3, 4] rfl (h hT)
  · replace h := h.2 q88
    refine ww_iconst (v := 1) C dX11_head_179 (by decide) ?_
    refine ww_goto (tgt := 184) C dX11_head_180 (by decide) ?_
    exact ww_sub [0, 1, 2, 3, 4] rfl (h hT)
set_option maxHeartbeats 4000000 in
set_option maxRecDepth 100000 in
theorem run_X11_head_184 {f : Fx} {g : Gx} {T0 : List (Nat × Nat × Nat)} {S : St}  {P : Int32 → St → Prop} (C : Cx f g cX11_head 7 RX11) (hrt : (fmeth f).sig.returnType = (some .int))  {v1 : Int32} {v3 : Int32} {v4 : Int32} {v6 : Int32} {s0 : Int32} {s1 : Int32} (h : st_X11_head_184  P (at_X11_head_33 f g T0  P) (at_X11_head_51 f g T0  P) (at_X11_head_71 f g T0  P) (at_X11_head_76 f g T0  P) (at_X11_head_109 f g T0  P) (at_X11_head_145 f g T0  P) (at_X11_head_173 f g T0  P) (at_X11_head_184 f g T0  P) (at_X11_head_191 f g T0  P) (at_X11_head_192 f g T0  P) (at_X11_head_241 f g T0  P) (at_X11_head_272 f g T0  P) (at_X11_head_276 f g T0  P) (at_X11_head_277 f g T0  P) (at_X11_head_299 f g T0  P) (at_X11_head_314 f g T0  P) (at_X11_head_328 f g T0  P) (at_X11_head_336 f g T0  P) (at_X11_head_354 f g T0  P) (at_X11_head_375 f g T0  P) (at_X11_head_376 f g T0  P) S v1 v3 v4 v6 s0 s1) : at_X11_head_184 f g T0  P S v1 v3 v4 v6 s0 s1 := by
  intro hT 
  unfold st_X11_head_184 at h
  refine ww_icmp_ne (tgt := 191) C dX11_head_184 (by decide) (fun q89 => ?_) (fun q89 => ?_)
  · replace h := h.1 q89
    exact ww_sub [0, 1, 2, 3, 4] rfl (h hT)
  · replace h := h.2 q89
    refine ww_iconst (v := 1) C dX11_head_187 (by decide) ?_
    refine ww_goto (tgt := 192) C dX11_head_188 (by decide) ?_
    exact ww_sub [0, 1, 2, 3, 4] rfl (h hT)
set_option maxHeartbeats 4000000 in
set_option maxRecDepth 100000 in
theorem run_X11_head_191 {f : Fx} {g : Gx} {T0 : List (Nat × Nat × Nat)} {S : St}  {P : Int32 → St → Prop} (C : Cx f g cX11_head 7 RX11) (hrt : (fmeth f).sig.returnType = (some .int))  {v1 : Int32} {v3 : Int32} {v4 : Int32} {v6 : Int32} (h : st_X11_head_191  P (at_X11_head_33 f g T0  P) (at_X11_head_51 f g T0  P) (at_X11_head_71 f g T0  P) (at_X11_head_76 f g T0  P) (at_X11_head_109 f g T0  P) (at_X11_head_145 f g T0  P) (at_X11_head_173 f g T0  P) (at_X11_head_184 f g T0  P) (at_X11_head_191 f g T0  P) (at_X11_head_192 f g T0  P) (at_X11_head_241 f g T0  P) (at_X11_head_272 f g T0  P) (at_X11_head_276 f g T0  P) (at_X11_head_277 f g T0  P) (at_X11_head_299 f g T0  P) (at_X11_head_314 f g T0  P) (at_X11_head_328 f g T0  P) (at_X11_head_336 f g T0  P) (at_X11_head_354 f g T0  P) (at_X11_head_375 f g T0  P) (at_X11_head_376 f g T0  P) S v1 v3 v4 v6) : at_X11_head_191 f g T0  P S v1 v3 v4 v6 := by
  intro hT 
  unfold st_X11_head_191 at h
  refine ww_iconst (v := 0) C dX11_head_191 (by decide) ?_
  exact ww_sub [0, 1, 2, 3, 4] rfl (h hT)
set_option maxHeartbeats 4000000 in
set_option maxRecDepth 100000 in
theorem run_X11_head_192 {f : Fx} {g : Gx} {T0 : List (Nat × Nat × Nat)} {S : St}  {P : Int32 → St → Prop} (C : Cx f g cX11_head 7 RX11) (hrt : (fmeth f).sig.returnType = (some .int))  {v1 : Int32} {v3 : Int32} {v4 : Int32} {v6 : Int32} {s0 : Int32} (h : st_X11_head_192  P (at_X11_head_33 f g T0  P) (at_X11_head_51 f g T0  P) (at_X11_head_71 f g T0  P) (at_X11_head_76 f g T0  P) (at_X11_head_109 f g T0  P) (at_X11_head_145 f g T0  P) (at_X11_head_173 f g T0  P) (at_X11_head_184 f g T0  P) (at_X11_head_191 f g T0  P) (at_X11_head_192 f g T0  P) (at_X11_head_241 f g T0  P) (at_X11_head_272 f g T0  P) (at_X11_head_276 f g T0  P) (at_X11_head_277 f g T0  P) (at_X11_head_299 f g T0  P) (at_X11_head_314 f g T0  P) (at_X11_head_328 f g T0  P) (at_X11_head_336 f g T0  P) (at_X11_head_354 f g T0  P) (at_X11_head_375 f g T0  P) (at_X11_head_376 f g T0  P) S v1 v3 v4 v6 s0) : at_X11_head_192 f g T0  P S v1 v3 v4 v6 s0 := by
  intro hT 
  unfold st_X11_head_192 at h
  refine ww_cVv (As := [.int s0]) (rest := []) C ok_X11_check bw_1199 dX11_head_192 (run_X11_check  (fun _ => h)) rc_Model rfl ⟨Nat.le_of_ble_eq_true rfl, Nat.le_of_ble_eq_true rfl⟩ (Nat.le_of_ble_eq_true rfl) (c2 := 0) (s2 := 0) rfl rfl ⟨Nat.le_of_ble_eq_true rfl, Nat.le_of_ble_eq_true rfl⟩ rfl (fun S90 hp hTg => ?_)
  replace h := hp
  have hT_S90 : S90.2.2.1 = T0 := by rw [hTg]; exact hT
  refine ww_aload_n C dX11_head_195 0 rfl ?_
  refine gf_Model_bad C bw_956 dX11_head_196 ?_
  refine ww_if_eq (tgt := 204) C dX11_head_199 (by decide) (fun q92 => ?_) (fun q92 => ?_)
  · replace h := h.1 q92
    refine ww_aload_n C dX11_head_204 0 rfl ?_
    refine gf_Model_plainSize C bw_960 dX11_head_205 ?_
    refine ww_iload C dX11_head_208 4 rfl ?_
    refine ww_aload_n C dX11_head_210 0 rfl ?_
    refine ww_cVi (As := []) (rest := [.int v6, .ref (gad g 181)]) C ok_X11_nextLong bw_1203 dX11_head_211 (run_X11_nextLong  (fun _ => h)) rc_Model rfl ⟨Nat.le_of_ble_eq_true rfl, Nat.le_of_ble_eq_true rfl⟩ (Nat.le_of_ble_eq_true rfl) (c2 := 0) (s2 := 0) rfl rfl ⟨Nat.le_of_ble_eq_true rfl, Nat.le_of_ble_eq_true rfl⟩ rfl (fun r94 S93 hp hTg => ?_)
    replace h := hp
    have hT_S93 : S93.2.2.1 = T0 := by rw [hTg]; exact hT_S90
    refine is_m (a := 22) C (by decide) (by decide) h.1 dX11_head_214 ?_
    replace h := h.2
    refine ww_nm (fun S95 e_S95 => ?_)
    replace h := h S95 e_S95
    have hT_S95 : S95.2.2.1 = T0 := by rw [e_S95]; exact hT_S93
    refine ww_aload_n C dX11_head_215 0 rfl ?_
    refine gf_Model_streamSize C bw_961 dX11_head_216 ?_
    refine ww_iload C dX11_head_219 4 rfl ?_
    refine ww_iload C dX11_head_221 4 rfl ?_
    refine ww_iconst (v := 2) C dX11_head_223 (by decide) ?_
    refine ww_icmp_ge (tgt := 234) C dX11_head_224 (by decide) (fun q96 => ?_) (fun q96 => ?_)
    · replace h := h.1 q96
      refine ww_aload_n C dX11_head_234 0 rfl ?_
      refine gf_Model_plainSize C bw_960 dX11_head_235 ?_
      refine ww_iload C dX11_head_238 4 rfl ?_
      refine ia_m (a := 22) C (by decide) (by decide) h.1 dX11_head_240 ?_
      replace h := h.2
      exact ww_sub [0, 1, 2, 3, 4] rfl (h hT_S95)
    · replace h := h.2 q96
      refine ww_aload_n C dX11_head_227 0 rfl ?_
      refine ww_cVi (As := []) (rest := [.int v6, .ref (gad g 182)]) C ok_X11_nextLong bw_1203 dX11_head_228 (run_X11_nextLong  (fun _ => h)) rc_Model rfl ⟨Nat.le_of_ble_eq_true rfl, Nat.le_of_ble_eq_true rfl⟩ (Nat.le_of_ble_eq_true rfl) (c2 := 0) (s2 := 0) rfl rfl ⟨Nat.le_of_ble_eq_true rfl, Nat.le_of_ble_eq_true rfl⟩ rfl (fun r98 S97 hp hTg => ?_)
      replace h := hp
      have hT_S97 : S97.2.2.1 = T0 := by rw [hTg]; exact hT_S95
      refine ww_goto (tgt := 241) C dX11_head_231 (by decide) ?_
      exact ww_sub [0, 1, 2, 3, 4] rfl (h hT_S97)
  · replace h := h.2 q92
    refine ww_iconst (v := 0) C dX11_head_202 (by decide) ?_
    exact ww_iret C hrt dX11_head_203 hT_S90 h
set_option maxHeartbeats 4000000 in
set_option maxRecDepth 100000 in
theorem run_X11_head_241 {f : Fx} {g : Gx} {T0 : List (Nat × Nat × Nat)} {S : St}  {P : Int32 → St → Prop} (C : Cx f g cX11_head 7 RX11) (hrt : (fmeth f).sig.returnType = (some .int))  {v1 : Int32} {v3 : Int32} {v4 : Int32} {v6 : Int32} {s0 : Int32} {s1 : Int32} (h : st_X11_head_241  P (at_X11_head_33 f g T0  P) (at_X11_head_51 f g T0  P) (at_X11_head_71 f g T0  P) (at_X11_head_76 f g T0  P) (at_X11_head_109 f g T0  P) (at_X11_head_145 f g T0  P) (at_X11_head_173 f g T0  P) (at_X11_head_184 f g T0  P) (at_X11_head_191 f g T0  P) (at_X11_head_192 f g T0  P) (at_X11_head_241 f g T0  P) (at_X11_head_272 f g T0  P) (at_X11_head_276 f g T0  P) (at_X11_head_277 f g T0  P) (at_X11_head_299 f g T0  P) (at_X11_head_314 f g T0  P) (at_X11_head_328 f g T0  P) (at_X11_head_336 f g T0  P) (at_X11_head_354 f g T0  P) (at_X11_head_375 f g T0  P) (at_X11_head_376 f g T0  P) S v1 v3 v4 v6 s0 s1) : at_X11_head_241 f g T0  P S v1 v3 v4 v6 s0 s1 := by
  intro hT 
  unfold st_X11_head_241 at h
  refine is_m (a := 23) C (by decide) (by decide) h.1 dX11_head_241 ?_
  replace h := h.2
  refine ww_nm (fun S99 e_S99 => ?_)
  replace h := h S99 e_S99
  have hT_S99 : S99.2.2.1 = T0 := by rw [e_S99]; exact hT
  refine ww_aload_n C dX11_head_242 0 rfl ?_
  refine ww_iload C dX11_head_243 4 rfl ?_
  refine ww_iconst (v := 2) C dX11_head_245 (by decide) ?_
  refine ww_icmp_lt (tgt := 272) C dX11_head_246 (by decide) (fun q100 => ?_) (fun q100 => ?_)
  · replace h := h.1 q100
    exact ww_sub [0, 1, 2, 3, 4] rfl (h hT_S99)
  · replace h := h.2 q100
    refine ww_aload_n C dX11_head_249 0 rfl ?_
    refine gf_Model_plainSize C bw_960 dX11_head_250 ?_
    refine ww_iload C dX11_head_253 4 rfl ?_
    refine ia_m (a := 22) C (by decide) (by decide) h.1 dX11_head_255 ?_
    replace h := h.2
    refine ww_iconst (v := 1) C dX11_head_256 (by decide) ?_
    refine ww_icmp_lt (tgt := 276) C dX11_head_257 (by decide) (fun q101 => ?_) (fun q101 => ?_)
    · replace h := h.1 q101
      exact ww_sub [0, 1, 2, 3, 4] rfl (h hT_S99)
    · replace h := h.2 q101
      refine ww_aload_n C dX11_head_260 0 rfl ?_
      refine gf_Model_plainSize C bw_960 dX11_head_261 ?_
      refine ww_iload C dX11_head_264 4 rfl ?_
      refine ia_m (a := 22) C (by decide) (by decide) h.1 dX11_head_266 ?_
      replace h := h.2
      refine ww_bipush (v := 20) C dX11_head_267 (by decide) ?_
      refine ww_icmp_gt (tgt := 276) C dX11_head_269 (by decide) (fun q102 => ?_) (fun q102 => ?_)
      · replace h := h.1 q102
        exact ww_sub [0, 1, 2, 3, 4] rfl (h hT_S99)
      · replace h := h.2 q102
        exact ww_sub [0, 1, 2, 3, 4] rfl (h hT_S99)
set_option maxHeartbeats 4000000 in
set_option maxRecDepth 100000 in
theorem run_X11_head_272 {f : Fx} {g : Gx} {T0 : List (Nat × Nat × Nat)} {S : St}  {P : Int32 → St → Prop} (C : Cx f g cX11_head 7 RX11) (hrt : (fmeth f).sig.returnType = (some .int))  {v1 : Int32} {v3 : Int32} {v4 : Int32} {v6 : Int32} (h : st_X11_head_272  P (at_X11_head_33 f g T0  P) (at_X11_head_51 f g T0  P) (at_X11_head_71 f g T0  P) (at_X11_head_76 f g T0  P) (at_X11_head_109 f g T0  P) (at_X11_head_145 f g T0  P) (at_X11_head_173 f g T0  P) (at_X11_head_184 f g T0  P) (at_X11_head_191 f g T0  P) (at_X11_head_192 f g T0  P) (at_X11_head_241 f g T0  P) (at_X11_head_272 f g T0  P) (at_X11_head_276 f g T0  P) (at_X11_head_277 f g T0  P) (at_X11_head_299 f g T0  P) (at_X11_head_314 f g T0  P) (at_X11_head_328 f g T0  P) (at_X11_head_336 f g T0  P) (at_X11_head_354 f g T0  P) (at_X11_head_375 f g T0  P) (at_X11_head_376 f g T0  P) S v1 v3 v4 v6) : at_X11_head_272 f g T0  P S v1 v3 v4 v6 := by
  intro hT 
  unfold st_X11_head_272 at h
  refine ww_iconst (v := 1) C dX11_head_272 (by decide) ?_
  refine ww_goto (tgt := 277) C dX11_head_273 (by decide) ?_
  exact ww_sub [0, 1, 2, 3, 4] rfl (h hT)
set_option maxHeartbeats 4000000 in
set_option maxRecDepth 100000 in
theorem run_X11_head_276 {f : Fx} {g : Gx} {T0 : List (Nat × Nat × Nat)} {S : St}  {P : Int32 → St → Prop} (C : Cx f g cX11_head 7 RX11) (hrt : (fmeth f).sig.returnType = (some .int))  {v1 : Int32} {v3 : Int32} {v4 : Int32} {v6 : Int32} (h : st_X11_head_276  P (at_X11_head_33 f g T0  P) (at_X11_head_51 f g T0  P) (at_X11_head_71 f g T0  P) (at_X11_head_76 f g T0  P) (at_X11_head_109 f g T0  P) (at_X11_head_145 f g T0  P) (at_X11_head_173 f g T0  P) (at_X11_head_184 f g T0  P) (at_X11_head_191 f g T0  P) (at_X11_head_192 f g T0  P) (at_X11_head_241 f g T0  P) (at_X11_head_272 f g T0  P) (at_X11_head_276 f g T0  P) (at_X11_head_277 f g T0  P) (at_X11_head_299 f g T0  P) (at_X11_head_314 f g T0  P) (at_X11_head_328 f g T0  P) (at_X11_head_336 f g T0  P) (at_X11_head_354 f g T0  P) (at_X11_head_375 f g T0  P) (at_X11_head_376 f g T0  P) S v1 v3 v4 v6) : at_X11_head_276 f g T0  P S v1 v3 v4 v6 := by
  intro hT 
  unfold st_X11_head_276 at h
  refine ww_iconst (v := 0) C dX11_head_276 (by decide) ?_
  exact ww_sub [0, 1, 2, 3, 4] rfl (h hT)
set_option maxHeartbeats 4000000 in
set_option maxRecDepth 100000 in
theorem run_X11_head_277 {f : Fx} {g : Gx} {T0 : List (Nat × Nat × Nat)} {S : St}  {P : Int32 → St → Prop} (C : Cx f g cX11_head 7 RX11) (hrt : (fmeth f).sig.returnType = (some .int))  {v1 : Int32} {v3 : Int32} {v4 : Int32} {v6 : Int32} {s0 : Int32} (h : st_X11_head_277  P (at_X11_head_33 f g T0  P) (at_X11_head_51 f g T0  P) (at_X11_head_71 f g T0  P) (at_X11_head_76 f g T0  P) (at_X11_head_109 f g T0  P) (at_X11_head_145 f g T0  P) (at_X11_head_173 f g T0  P) (at_X11_head_184 f g T0  P) (at_X11_head_191 f g T0  P) (at_X11_head_192 f g T0  P) (at_X11_head_241 f g T0  P) (at_X11_head_272 f g T0  P) (at_X11_head_276 f g T0  P) (at_X11_head_277 f g T0  P) (at_X11_head_299 f g T0  P) (at_X11_head_314 f g T0  P) (at_X11_head_328 f g T0  P) (at_X11_head_336 f g T0  P) (at_X11_head_354 f g T0  P) (at_X11_head_375 f g T0  P) (at_X11_head_376 f g T0  P) S v1 v3 v4 v6 s0) : at_X11_head_277 f g T0  P S v1 v3 v4 v6 s0 := by
  intro hT 
  unfold st_X11_head_277 at h
  refine ww_cVv (As := [.int s0]) (rest := []) C ok_X11_check bw_1199 dX11_head_277 (run_X11_check  (fun _ => h)) rc_Model rfl ⟨Nat.le_of_ble_eq_true rfl, Nat.le_of_ble_eq_true rfl⟩ (Nat.le_of_ble_eq_true rfl) (c2 := 0) (s2 := 0) rfl rfl ⟨Nat.le_of_ble_eq_true rfl, Nat.le_of_ble_eq_true rfl⟩ rfl (fun S103 hp hTg => ?_)
  replace h := hp
  have hT_S103 : S103.2.2.1 = T0 := by rw [hTg]; exact hT
  refine ww_iload_n C dX11_head_280 2 rfl ?_
  refine ww_aload_n C dX11_head_281 0 rfl ?_
  refine gf_Model_streamSize C bw_961 dX11_head_282 ?_
  refine ww_iload C dX11_head_285 4 rfl ?_
  refine ia_m (a := 23) C (by decide) (by decide) h.1 dX11_head_287 ?_
  replace h := h.2
  refine ww_iadd C dX11_head_288 ?_
  refine ww_topi (fun x105 e_x105 => ?_)
  replace h := h x105 e_x105
  refine ww_istore_n (lv2 := [(3, .int x105), (0, .ref (gad g 158)), (1, .int v1), (4, .int v4), (6, .int v6)]) C dX11_head_289 rfl (Nat.le_of_ble_eq_true rfl) rfl ?_
  refine ww_iload C dX11_head_290 4 rfl ?_
  refine ww_istore_n (lv2 := [(2, .int v6), (3, .int x105), (0, .ref (gad g 158)), (1, .int v1), (4, .int v4), (6, .int v6)]) C dX11_head_292 rfl (Nat.le_of_ble_eq_true rfl) rfl ?_
  obtain ⟨x106, e_x106⟩ : ∃ z : Int32, z = v4 + 1 := ⟨_, rfl⟩
  replace h := h x106 e_x106
  refine ww_iinc (v := x106) (lv2 := [(4, .int x106), (2, .int v6), (3, .int x105), (0, .ref (gad g 158)), (1, .int v1), (6, .int v6)]) C dX11_head_293 4 rfl (by rw [e_x106]; rfl) (Nat.le_of_ble_eq_true rfl) rfl ?_
  refine ww_goto (tgt := 109) C dX11_head_296 (by decide) ?_
  exact ww_sub [3, 4, 1, 2, 0] rfl (h hT_S103)
set_option maxHeartbeats 4000000 in
set_option maxRecDepth 100000 in
theorem run_X11_head_299 {f : Fx} {g : Gx} {T0 : List (Nat × Nat × Nat)} {S : St}  {P : Int32 → St → Prop} (C : Cx f g cX11_head 7 RX11) (hrt : (fmeth f).sig.returnType = (some .int))  {v3 : Int32} (h : st_X11_head_299  P (at_X11_head_33 f g T0  P) (at_X11_head_51 f g T0  P) (at_X11_head_71 f g T0  P) (at_X11_head_76 f g T0  P) (at_X11_head_109 f g T0  P) (at_X11_head_145 f g T0  P) (at_X11_head_173 f g T0  P) (at_X11_head_184 f g T0  P) (at_X11_head_191 f g T0  P) (at_X11_head_192 f g T0  P) (at_X11_head_241 f g T0  P) (at_X11_head_272 f g T0  P) (at_X11_head_276 f g T0  P) (at_X11_head_277 f g T0  P) (at_X11_head_299 f g T0  P) (at_X11_head_314 f g T0  P) (at_X11_head_328 f g T0  P) (at_X11_head_336 f g T0  P) (at_X11_head_354 f g T0  P) (at_X11_head_375 f g T0  P) (at_X11_head_376 f g T0  P) S v3) : at_X11_head_299 f g T0  P S v3 := by
  intro hT 
  unfold st_X11_head_299 at h
  refine ww_aload_n C dX11_head_299 0 rfl ?_
  refine ww_aload_n C dX11_head_300 0 rfl ?_
  refine gf_Model_plainSize C bw_960 dX11_head_301 ?_
  refine ww_iconst (v := 0) C dX11_head_304 (by decide) ?_
  refine ia_m (a := 22) C (by decide) (by decide) h.1 dX11_head_305 ?_
  replace h := h.2
  refine ww_if_ge (tgt := 313) C dX11_head_306 (by decide) (fun q107 => ?_) (fun q107 => ?_)
  · replace h := h.1 q107
    refine ww_iconst (v := 0) C dX11_head_313 (by decide) ?_
    exact ww_sub [0, 1] rfl (h hT)
  · replace h := h.2 q107
    refine ww_iconst (v := 1) C dX11_head_309 (by decide) ?_
    refine ww_goto (tgt := 314) C dX11_head_310 (by decide) ?_
    exact ww_sub [0, 1] rfl (h hT)
set_option maxHeartbeats 4000000 in
set_option maxRecDepth 100000 in
theorem run_X11_head_314 {f : Fx} {g : Gx} {T0 : List (Nat × Nat × Nat)} {S : St}  {P : Int32 → St → Prop} (C : Cx f g cX11_head 7 RX11) (hrt : (fmeth f).sig.returnType = (some .int))  {v3 : Int32} {s0 : Int32} (h : st_X11_head_314  P (at_X11_head_33 f g T0  P) (at_X11_head_51 f g T0  P) (at_X11_head_71 f g T0  P) (at_X11_head_76 f g T0  P) (at_X11_head_109 f g T0  P) (at_X11_head_145 f g T0  P) (at_X11_head_173 f g T0  P) (at_X11_head_184 f g T0  P) (at_X11_head_191 f g T0  P) (at_X11_head_192 f g T0  P) (at_X11_head_241 f g T0  P) (at_X11_head_272 f g T0  P) (at_X11_head_276 f g T0  P) (at_X11_head_277 f g T0  P) (at_X11_head_299 f g T0  P) (at_X11_head_314 f g T0  P) (at_X11_head_328 f g T0  P) (at_X11_head_336 f g T0  P) (at_X11_head_354 f g T0  P) (at_X11_head_375 f g T0  P) (at_X11_head_376 f g T0  P) S v3 s0) : at_X11_head_314 f g T0  P S v3 s0 := by
  intro hT 
  unfold st_X11_head_314 at h
  refine ww_aload_n C dX11_head_314 0 rfl ?_
  refine gf_Model_plainSize C bw_960 dX11_head_315 ?_
  refine ww_iconst (v := 1) C dX11_head_318 (by decide) ?_
  refine ia_m (a := 22) C (by decide) (by decide) h.1 dX11_head_319 ?_
  replace h := h.2
  refine ww_if_ge (tgt := 327) C dX11_head_320 (by decide) (fun q108 => ?_) (fun q108 => ?_)
  · replace h := h.1 q108
    refine ww_iconst (v := 0) C dX11_head_327 (by decide) ?_
    exact ww_sub [0, 1] rfl (h hT)
  · replace h := h.2 q108
    refine ww_iconst (v := 1) C dX11_head_323 (by decide) ?_
    refine ww_goto (tgt := 328) C dX11_head_324 (by decide) ?_
    exact ww_sub [0, 1] rfl (h hT)
set_option maxHeartbeats 4000000 in
set_option maxRecDepth 100000 in
theorem run_X11_head_328 {f : Fx} {g : Gx} {T0 : List (Nat × Nat × Nat)} {S : St}  {P : Int32 → St → Prop} (C : Cx f g cX11_head 7 RX11) (hrt : (fmeth f).sig.returnType = (some .int))  {v3 : Int32} {s0 : Int32} {s1 : Int32} (h : st_X11_head_328  P (at_X11_head_33 f g T0  P) (at_X11_head_51 f g T0  P) (at_X11_head_71 f g T0  P) (at_X11_head_76 f g T0  P) (at_X11_head_109 f g T0  P) (at_X11_head_145 f g T0  P) (at_X11_head_173 f g T0  P) (at_X11_head_184 f g T0  P) (at_X11_head_191 f g T0  P) (at_X11_head_192 f g T0  P) (at_X11_head_241 f g T0  P) (at_X11_head_272 f g T0  P) (at_X11_head_276 f g T0  P) (at_X11_head_277 f g T0  P) (at_X11_head_299 f g T0  P) (at_X11_head_314 f g T0  P) (at_X11_head_328 f g T0  P) (at_X11_head_336 f g T0  P) (at_X11_head_354 f g T0  P) (at_X11_head_375 f g T0  P) (at_X11_head_376 f g T0  P) S v3 s0 s1) : at_X11_head_328 f g T0  P S v3 s0 s1 := by
  intro hT 
  unfold st_X11_head_328 at h
  refine ww_icmp_ne (tgt := 335) C dX11_head_328 (by decide) (fun q109 => ?_) (fun q109 => ?_)
  · replace h := h.1 q109
    refine ww_iconst (v := 0) C dX11_head_335 (by decide) ?_
    exact ww_sub [0, 1] rfl (h hT)
  · replace h := h.2 q109
    refine ww_iconst (v := 1) C dX11_head_331 (by decide) ?_
    refine ww_goto (tgt := 336) C dX11_head_332 (by decide) ?_
    exact ww_sub [0, 1] rfl (h hT)
set_option maxHeartbeats 4000000 in
set_option maxRecDepth 100000 in
theorem run_X11_head_336 {f : Fx} {g : Gx} {T0 : List (Nat × Nat × Nat)} {S : St}  {P : Int32 → St → Prop} (C : Cx f g cX11_head 7 RX11) (hrt : (fmeth f).sig.returnType = (some .int))  {v3 : Int32} {s0 : Int32} (h : st_X11_head_336  P (at_X11_head_33 f g T0  P) (at_X11_head_51 f g T0  P) (at_X11_head_71 f g T0  P) (at_X11_head_76 f g T0  P) (at_X11_head_109 f g T0  P) (at_X11_head_145 f g T0  P) (at_X11_head_173 f g T0  P) (at_X11_head_184 f g T0  P) (at_X11_head_191 f g T0  P) (at_X11_head_192 f g T0  P) (at_X11_head_241 f g T0  P) (at_X11_head_272 f g T0  P) (at_X11_head_276 f g T0  P) (at_X11_head_277 f g T0  P) (at_X11_head_299 f g T0  P) (at_X11_head_314 f g T0  P) (at_X11_head_328 f g T0  P) (at_X11_head_336 f g T0  P) (at_X11_head_354 f g T0  P) (at_X11_head_375 f g T0  P) (at_X11_head_376 f g T0  P) S v3 s0) : at_X11_head_336 f g T0  P S v3 s0 := by
  intro hT 
  unfold st_X11_head_336 at h
  refine ww_cVv (As := [.int s0]) (rest := []) C ok_X11_check bw_1199 dX11_head_336 (run_X11_check  (fun _ => h)) rc_Model rfl ⟨Nat.le_of_ble_eq_true rfl, Nat.le_of_ble_eq_true rfl⟩ (Nat.le_of_ble_eq_true rfl) (c2 := 0) (s2 := 0) rfl rfl ⟨Nat.le_of_ble_eq_true rfl, Nat.le_of_ble_eq_true rfl⟩ rfl (fun S110 hp hTg => ?_)
  replace h := hp
  have hT_S110 : S110.2.2.1 = T0 := by rw [hTg]; exact hT
  refine ww_aload_n C dX11_head_339 0 rfl ?_
  refine gf_Model_bad C bw_956 dX11_head_340 ?_
  refine ww_if_eq (tgt := 350) C dX11_head_343 (by decide) (fun q112 => ?_) (fun q112 => ?_)
  · replace h := h.1 q112
    refine ww_aload_n C dX11_head_350 0 rfl ?_
    refine ww_cVi (As := []) (rest := []) C ok_X11_nextLong bw_1203 dX11_head_351 (run_X11_nextLong  (fun _ => h)) rc_Model rfl ⟨Nat.le_of_ble_eq_true rfl, Nat.le_of_ble_eq_true rfl⟩ (Nat.le_of_ble_eq_true rfl) (c2 := 0) (s2 := 0) rfl rfl ⟨Nat.le_of_ble_eq_true rfl, Nat.le_of_ble_eq_true rfl⟩ rfl (fun r114 S113 hp hTg => ?_)
    replace h := hp
    have hT_S113 : S113.2.2.1 = T0 := by rw [hTg]; exact hT_S110
    exact ww_sub [0, 1] rfl (h hT_S113)
  · replace h := h.2 q112
    refine ww_iconst (v := 0) C dX11_head_346 (by decide) ?_
    refine ww_goto (tgt := 354) C dX11_head_347 (by decide) ?_
    exact ww_sub [0, 1] rfl (h hT_S110)
set_option maxHeartbeats 4000000 in
set_option maxRecDepth 100000 in
theorem run_X11_head_354 {f : Fx} {g : Gx} {T0 : List (Nat × Nat × Nat)} {S : St}  {P : Int32 → St → Prop} (C : Cx f g cX11_head 7 RX11) (hrt : (fmeth f).sig.returnType = (some .int))  {v3 : Int32} {s0 : Int32} (h : st_X11_head_354  P (at_X11_head_33 f g T0  P) (at_X11_head_51 f g T0  P) (at_X11_head_71 f g T0  P) (at_X11_head_76 f g T0  P) (at_X11_head_109 f g T0  P) (at_X11_head_145 f g T0  P) (at_X11_head_173 f g T0  P) (at_X11_head_184 f g T0  P) (at_X11_head_191 f g T0  P) (at_X11_head_192 f g T0  P) (at_X11_head_241 f g T0  P) (at_X11_head_272 f g T0  P) (at_X11_head_276 f g T0  P) (at_X11_head_277 f g T0  P) (at_X11_head_299 f g T0  P) (at_X11_head_314 f g T0  P) (at_X11_head_328 f g T0  P) (at_X11_head_336 f g T0  P) (at_X11_head_354 f g T0  P) (at_X11_head_375 f g T0  P) (at_X11_head_376 f g T0  P) S v3 s0) : at_X11_head_354 f g T0  P S v3 s0 := by
  intro hT 
  unfold st_X11_head_354 at h
  refine ww_istore (lv2 := [(4, .int s0), (0, .ref (gad g 158)), (3, .int v3)]) C dX11_head_354 (Nat.le_of_ble_eq_true rfl) rfl ?_
  refine ww_aload_n C dX11_head_356 1 rfl ?_
  refine ww_iload C dX11_head_357 0 rfl ?_
  refine ww_iload_n C dX11_head_359 2 rfl ?_
  refine ww_icmp_ne (tgt := 375) C dX11_head_360 (by decide) (fun q115 => ?_) (fun q115 => ?_)
  · replace h := h.1 q115
    exact ww_sub [0] rfl (h hT)
  · replace h := h.2 q115
    refine ww_iload C dX11_head_363 0 rfl ?_
    refine ww_sipush (v := 1000) C dX11_head_365 (by decide) ?_
    refine ww_icmp_gt (tgt := 375) C dX11_head_368 (by decide) (fun q116 => ?_) (fun q116 => ?_)
    · replace h := h.1 q116
      exact ww_sub [0] rfl (h hT)
    · replace h := h.2 q116
      refine ww_iconst (v := 1) C dX11_head_371 (by decide) ?_
      refine ww_goto (tgt := 376) C dX11_head_372 (by decide) ?_
      exact ww_sub [0] rfl (h hT)
set_option maxHeartbeats 4000000 in
set_option maxRecDepth 100000 in
theorem run_X11_head_375 {f : Fx} {g : Gx} {T0 : List (Nat × Nat × Nat)} {S : St}  {P : Int32 → St → Prop} (C : Cx f g cX11_head 7 RX11) (hrt : (fmeth f).sig.returnType = (some .int))  {v4 : Int32} (h : st_X11_head_375  P (at_X11_head_33 f g T0  P) (at_X11_head_51 f g T0  P) (at_X11_head_71 f g T0  P) (at_X11_head_76 f g T0  P) (at_X11_head_109 f g T0  P) (at_X11_head_145 f g T0  P) (at_X11_head_173 f g T0  P) (at_X11_head_184 f g T0  P) (at_X11_head_191 f g T0  P) (at_X11_head_192 f g T0  P) (at_X11_head_241 f g T0  P) (at_X11_head_272 f g T0  P) (at_X11_head_276 f g T0  P) (at_X11_head_277 f g T0  P) (at_X11_head_299 f g T0  P) (at_X11_head_314 f g T0  P) (at_X11_head_328 f g T0  P) (at_X11_head_336 f g T0  P) (at_X11_head_354 f g T0  P) (at_X11_head_375 f g T0  P) (at_X11_head_376 f g T0  P) S v4) : at_X11_head_375 f g T0  P S v4 := by
  intro hT 
  unfold st_X11_head_375 at h
  refine ww_iconst (v := 0) C dX11_head_375 (by decide) ?_
  exact ww_sub [0] rfl (h hT)
set_option maxHeartbeats 4000000 in
set_option maxRecDepth 100000 in
theorem run_X11_head_376 {f : Fx} {g : Gx} {T0 : List (Nat × Nat × Nat)} {S : St}  {P : Int32 → St → Prop} (C : Cx f g cX11_head 7 RX11) (hrt : (fmeth f).sig.returnType = (some .int))  {v4 : Int32} {s0 : Int32} (h : st_X11_head_376  P (at_X11_head_33 f g T0  P) (at_X11_head_51 f g T0  P) (at_X11_head_71 f g T0  P) (at_X11_head_76 f g T0  P) (at_X11_head_109 f g T0  P) (at_X11_head_145 f g T0  P) (at_X11_head_173 f g T0  P) (at_X11_head_184 f g T0  P) (at_X11_head_191 f g T0  P) (at_X11_head_192 f g T0  P) (at_X11_head_241 f g T0  P) (at_X11_head_272 f g T0  P) (at_X11_head_276 f g T0  P) (at_X11_head_277 f g T0  P) (at_X11_head_299 f g T0  P) (at_X11_head_314 f g T0  P) (at_X11_head_328 f g T0  P) (at_X11_head_336 f g T0  P) (at_X11_head_354 f g T0  P) (at_X11_head_375 f g T0  P) (at_X11_head_376 f g T0  P) S v4 s0) : at_X11_head_376 f g T0  P S v4 s0 := by
  intro hT 
  unfold st_X11_head_376 at h
  refine ww_cVv (As := [.int s0]) (rest := []) C ok_X11_check bw_1199 dX11_head_376 (run_X11_check  (fun _ => h)) rc_Model rfl ⟨Nat.le_of_ble_eq_true rfl, Nat.le_of_ble_eq_true rfl⟩ (Nat.le_of_ble_eq_true rfl) (c2 := 0) (s2 := 0) rfl rfl ⟨Nat.le_of_ble_eq_true rfl, Nat.le_of_ble_eq_true rfl⟩ rfl (fun S117 hp hTg => ?_)
  replace h := hp
  have hT_S117 : S117.2.2.1 = T0 := by rw [hTg]; exact hT
  refine ww_iload C dX11_head_379 0 rfl ?_
  exact ww_iret C hrt dX11_head_381 hT_S117 h
def wp_X11_head (S : St)  (P : Int32 → St → Prop) : Prop :=
  ∀ (X33 : St → Int32 → Prop) (X51 : St → Int32 → Prop) (X71 : St → Int32 → Int32 → Prop) (X76 : St → Int32 → Int32 → Prop) (X109 : St → Int32 → Int32 → Int32 → Int32 → Prop) (X145 : St → Int32 → Int32 → Int32 → Int32 → Int32 → Int32 → Prop) (X173 : St → Int32 → Int32 → Int32 → Int32 → Int32 → Prop) (X184 : St → Int32 → Int32 → Int32 → Int32 → Int32 → Int32 → Prop) (X191 : St → Int32 → Int32 → Int32 → Int32 → Prop) (X192 : St → Int32 → Int32 → Int32 → Int32 → Int32 → Prop) (X241 : St → Int32 → Int32 → Int32 → Int32 → Int32 → Int32 → Prop) (X272 : St → Int32 → Int32 → Int32 → Int32 → Prop) (X276 : St → Int32 → Int32 → Int32 → Int32 → Prop) (X277 : St → Int32 → Int32 → Int32 → Int32 → Int32 → Prop) (X299 : St → Int32 → Prop) (X314 : St → Int32 → Int32 → Prop) (X328 : St → Int32 → Int32 → Int32 → Prop) (X336 : St → Int32 → Int32 → Prop) (X354 : St → Int32 → Int32 → Prop) (X375 : St → Int32 → Prop) (X376 : St → Int32 → Int32 → Prop), (∀ S s0, st_X11_head_33  P X33 X51 X71 X76 X109 X145 X173 X184 X191 X192 X241 X272 X276 X277 X299 X314 X328 X336 X354 X375 X376 S s0 → X33 S s0) → (∀ S s0, st_X11_head_51  P X33 X51 X71 X76 X109 X145 X173 X184 X191 X192 X241 X272 X276 X277 X299 X314 X328 X336 X354 X375 X376 S s0 → X51 S s0) → (∀ S v1 s0, st_X11_head_71  P X33 X51 X71 X76 X109 X145 X173 X184 X191 X192 X241 X272 X276 X277 X299 X314 X328 X336 X354 X375 X376 S v1 s0 → X71 S v1 s0) → (∀ S v1 v2, st_X11_head_76  P X33 X51 X71 X76 X109 X145 X173 X184 X191 X192 X241 X272 X276 X277 X299 X314 X328 X336 X354 X375 X376 S v1 v2 → X76 S v1 v2) → (∀ S v1 v2 v3 v4, st_X11_head_109  P X33 X51 X71 X76 X109 X145 X173 X184 X191 X192 X241 X272 X276 X277 X299 X314 X328 X336 X354 X375 X376 S v1 v2 v3 v4 → X109 S v1 v2 v3 v4) → (∀ S v1 v2 v3 v4 v5 s0, st_X11_head_145  P X33 X51 X71 X76 X109 X145 X173 X184 X191 X192 X241 X272 X276 X277 X299 X314 X328 X336 X354 X375 X376 S v1 v2 v3 v4 v5 s0 → X145 S v1 v2 v3 v4 v5 s0) → (∀ S v1 v3 v4 v6 s0, st_X11_head_173  P X33 X51 X71 X76 X109 X145 X173 X184 X191 X192 X241 X272 X276 X277 X299 X314 X328 X336 X354 X375 X376 S v1 v3 v4 v6 s0 → X173 S v1 v3 v4 v6 s0) → (∀ S v1 v3 v4 v6 s0 s1, st_X11_head_184  P X33 X51 X71 X76 X109 X145 X173 X184 X191 X192 X241 X272 X276 X277 X299 X314 X328 X336 X354 X375 X376 S v1 v3 v4 v6 s0 s1 → X184 S v1 v3 v4 v6 s0 s1) → (∀ S v1 v3 v4 v6, st_X11_head_191  P X33 X51 X71 X76 X109 X145 X173 X184 X191 X192 X241 X272 X276 X277 X299 X314 X328 X336 X354 X375 X376 S v1 v3 v4 v6 → X191 S v1 v3 v4 v6) → (∀ S v1 v3 v4 v6 s0, st_X11_head_192  P X33 X51 X71 X76 X109 X145 X173 X184 X191 X192 X241 X272 X276 X277 X299 X314 X328 X336 X354 X375 X376 S v1 v3 v4 v6 s0 → X192 S v1 v3 v4 v6 s0) → (∀ S v1 v3 v4 v6 s0 s1, st_X11_head_241  P X33 X51 X71 X76 X109 X145 X173 X184 X191 X192 X241 X272 X276 X277 X299 X314 X328 X336 X354 X375 X376 S v1 v3 v4 v6 s0 s1 → X241 S v1 v3 v4 v6 s0 s1) → (∀ S v1 v3 v4 v6, st_X11_head_272  P X33 X51 X71 X76 X109 X145 X173 X184 X191 X192 X241 X272 X276 X277 X299 X314 X328 X336 X354 X375 X376 S v1 v3 v4 v6 → X272 S v1 v3 v4 v6) → (∀ S v1 v3 v4 v6, st_X11_head_276  P X33 X51 X71 X76 X109 X145 X173 X184 X191 X192 X241 X272 X276 X277 X299 X314 X328 X336 X354 X375 X376 S v1 v3 v4 v6 → X276 S v1 v3 v4 v6) → (∀ S v1 v3 v4 v6 s0, st_X11_head_277  P X33 X51 X71 X76 X109 X145 X173 X184 X191 X192 X241 X272 X276 X277 X299 X314 X328 X336 X354 X375 X376 S v1 v3 v4 v6 s0 → X277 S v1 v3 v4 v6 s0) → (∀ S v3, st_X11_head_299  P X33 X51 X71 X76 X109 X145 X173 X184 X191 X192 X241 X272 X276 X277 X299 X314 X328 X336 X354 X375 X376 S v3 → X299 S v3) → (∀ S v3 s0, st_X11_head_314  P X33 X51 X71 X76 X109 X145 X173 X184 X191 X192 X241 X272 X276 X277 X299 X314 X328 X336 X354 X375 X376 S v3 s0 → X314 S v3 s0) → (∀ S v3 s0 s1, st_X11_head_328  P X33 X51 X71 X76 X109 X145 X173 X184 X191 X192 X241 X272 X276 X277 X299 X314 X328 X336 X354 X375 X376 S v3 s0 s1 → X328 S v3 s0 s1) → (∀ S v3 s0, st_X11_head_336  P X33 X51 X71 X76 X109 X145 X173 X184 X191 X192 X241 X272 X276 X277 X299 X314 X328 X336 X354 X375 X376 S v3 s0 → X336 S v3 s0) → (∀ S v3 s0, st_X11_head_354  P X33 X51 X71 X76 X109 X145 X173 X184 X191 X192 X241 X272 X276 X277 X299 X314 X328 X336 X354 X375 X376 S v3 s0 → X354 S v3 s0) → (∀ S v4, st_X11_head_375  P X33 X51 X71 X76 X109 X145 X173 X184 X191 X192 X241 X272 X276 X277 X299 X314 X328 X336 X354 X375 X376 S v4 → X375 S v4) → (∀ S v4 s0, st_X11_head_376  P X33 X51 X71 X76 X109 X145 X173 X184 X191 X192 X241 X272 X276 X277 X299 X314 X328 X336 X354 X375 X376 S v4 s0 → X376 S v4 s0) → ∀ S119 : St, S119 = stM S 9 8 0 → ∀ S120 : St, S120 = stM S119 9 9 (S119.2.1 9 3) → ∀ S121 : St, S121 = stM S120 9 10 0 → wp_X11_next S121 (fun r123 S122 => ((¬ r123 = 119 → X33 S122 0) ∧ (r123 = 119 → X33 S122 1)))
set_option maxHeartbeats 4000000 in
set_option maxRecDepth 100000 in
theorem run_X11_head {l : Launch} {g : Gx} {S : St}  {P : Int32 → St → Prop}  (h : rowsLe S → wp_X11_head S  P) : CMi g l yX11_head cX11_head 7 (some .int) rm_X11_head [.ref (gad g 158)] S P := cm_entry (own := RX11) (plainFor_of_name (by decide)) rfl (Nat.le_of_ble_eq_true rfl) rfl (fun hle f hf C hrt => by
  subst hf
  replace h := h hle
  obtain ⟨T0, hT⟩ : ∃ T, S.2.2.1 = T := ⟨_, rfl⟩
  rw [hT]
  replace h := h (at_X11_head_33 f g T0  P) (at_X11_head_51 f g T0  P) (at_X11_head_71 f g T0  P) (at_X11_head_76 f g T0  P) (at_X11_head_109 f g T0  P) (at_X11_head_145 f g T0  P) (at_X11_head_173 f g T0  P) (at_X11_head_184 f g T0  P) (at_X11_head_191 f g T0  P) (at_X11_head_192 f g T0  P) (at_X11_head_241 f g T0  P) (at_X11_head_272 f g T0  P) (at_X11_head_276 f g T0  P) (at_X11_head_277 f g T0  P) (at_X11_head_299 f g T0  P) (at_X11_head_314 f g T0  P) (at_X11_head_328 f g T0  P) (at_X11_head_336 f g T0  P) (at_X11_head_354 f g T0  P) (at_X11_head_375 f g T0  P) (at_X11_head_376 f g T0  P) (fun S s0 h => run_X11_head_33 C hrt  h) (fun S s0 h => run_X11_head_51 C hrt  h) (fun S v1 s0 h => run_X11_head_71 C hrt  h) (fun S v1 v2 h => run_X11_head_76 C hrt  h) (fun S v1 v2 v3 v4 h => run_X11_head_109 C hrt  h) (fun S v1 v2 v3 v4 v5 s0 h => run_X11_head_145 C hrt  h) (fun S v1 v3 v4 v6 s0 h => run_X11_head_173 C hrt  h) (fun S v1 v3 v4 v6 s0 s1 h => run_X11_head_184 C hrt  h) (fun S v1 v3 v4 v6 h => run_X11_head_191 C hrt  h) (fun S v1 v3 v4 v6 s0 h => run_X11_head_192 C hrt  h) (fun S v1 v3 v4 v6 s0 s1 h => run_X11_head_241 C hrt  h) (fun S v1 v3 v4 v6 h => run_X11_head_272 C hrt  h) (fun S v1 v3 v4 v6 h => run_X11_head_276 C hrt  h) (fun S v1 v3 v4 v6 s0 h => run_X11_head_277 C hrt  h) (fun S v3 h => run_X11_head_299 C hrt  h) (fun S v3 s0 h => run_X11_head_314 C hrt  h) (fun S v3 s0 s1 h => run_X11_head_328 C hrt  h) (fun S v3 s0 h => run_X11_head_336 C hrt  h) (fun S v3 s0 h => run_X11_head_354 C hrt  h) (fun S v4 h => run_X11_head_375 C hrt  h) (fun S v4 s0 h => run_X11_head_376 C hrt  h)
  refine ww_aload_n C dX11_head_0 0 rfl ?_
  refine ww_iconst (v := 0) C dX11_head_1 (by decide) ?_
  refine pf_Model_at C bw_953 dX11_head_2 ?_
  refine ww_nm (fun S119 e_S119 => ?_)
  replace h := h S119 e_S119
  have hT_S119 : S119.2.2.1 = T0 := by rw [e_S119]; exact hT
  refine ww_aload_n C dX11_head_5 0 rfl ?_
  refine ww_aload_n C dX11_head_6 0 rfl ?_
  refine gf_Model_buffered C bw_945 dX11_head_7 ?_
  refine pf_Model_end C bw_954 dX11_head_10 ?_
  refine ww_nm (fun S120 e_S120 => ?_)
  replace h := h S120 e_S120
  have hT_S120 : S120.2.2.1 = T0 := by rw [e_S120]; exact hT_S119
  refine ww_aload_n C dX11_head_13 0 rfl ?_
  refine ww_iconst (v := 0) C dX11_head_14 (by decide) ?_
  refine pf_Model_inStream C (by decide) bw_955 dX11_head_15 ?_
  refine ww_nm (fun S121 e_S121 => ?_)
  replace h := h S121 e_S121
  have hT_S121 : S121.2.2.1 = T0 := by rw [e_S121]; exact hT_S120
  refine ww_aload_n C dX11_head_18 0 rfl ?_
  refine ww_aload_n C dX11_head_19 0 rfl ?_
  refine ww_cVi (As := []) (rest := [.ref (gad g 158)]) C ok_X11_next bw_1195 dX11_head_20 (run_X11_next  (fun _ => h)) rc_Model rfl ⟨Nat.le_of_ble_eq_true rfl, Nat.le_of_ble_eq_true rfl⟩ (Nat.le_of_ble_eq_true rfl) (c2 := 0) (s2 := 0) rfl rfl ⟨Nat.le_of_ble_eq_true rfl, Nat.le_of_ble_eq_true rfl⟩ rfl (fun r123 S122 hp hTg => ?_)
  replace h := hp
  have hT_S122 : S122.2.2.1 = T0 := by rw [hTg]; exact hT_S121
  refine ww_bipush (v := 119) C dX11_head_23 (by decide) ?_
  refine ww_icmp_ne (tgt := 32) C dX11_head_25 (by decide) (fun q124 => ?_) (fun q124 => ?_)
  · replace h := h.1 q124
    refine ww_iconst (v := 0) C dX11_head_32 (by decide) ?_
    exact ww_sub [0] rfl (h hT_S122)
  · replace h := h.2 q124
    refine ww_iconst (v := 1) C dX11_head_28 (by decide) ?_
    refine ww_goto (tgt := 33) C dX11_head_29 (by decide) ?_
    exact ww_sub [0] rfl (h hT_S122))
abbrev rm_X11_nextBit : Room := { frames := 1, cells := 0, slots := 0, locals := 20 }
theorem ok_X11_nextBit : MOK yX11_nextBit RX11 cX11_nextBit 1 (some .int) 0 := ⟨bw_1213, bw_47, bw_69, bw_1214, by decide +kernel⟩
def wp_X11_nextBit_21  (S : St)  (P : Int32 → St → Prop) : Prop :=
  ∀ S7 : St, S7 = stM S 9 12 ((S.2.1 9 12) - 1) → P (((S7.2.1 9 13) >>> ((S7.2.1 9 12) &&& 31)) &&& 1) S7
set_option maxHeartbeats 4000000 in
set_option maxRecDepth 100000 in
theorem run_X11_nextBit_21 {f : Fx} {g : Gx} {T0 : List (Nat × Nat × Nat)} {S : St}  {P : Int32 → St → Prop} (C : Cx f g cX11_nextBit 1 RX11) (hrt : (fmeth f).sig.returnType = (some .int))   (hT : S.2.2.1 = T0)  (h : wp_X11_nextBit_21  S  P) : WW f rm_X11_nextBit g 1 0 0 (Qi f g 0 0 T0 P) S 21 [(0, .ref (gad g 158))] [] := by
  unfold wp_X11_nextBit_21 at h
  refine ww_aload_n C dX11_nextBit_21 0 rfl ?_
  refine ww_dup C dX11_nextBit_22 rfl ?_
  refine gf_Model_bitsLeft C bw_957 dX11_nextBit_23 ?_
  refine ww_iconst (v := 1) C dX11_nextBit_26 (by decide) ?_
  refine ww_isub C dX11_nextBit_27 ?_
  refine pf_Model_bitsLeft C bw_957 dX11_nextBit_28 ?_
  refine ww_nm (fun S7 e_S7 => ?_)
  replace h := h S7 e_S7
  have hT_S7 : S7.2.2.1 = T0 := by rw [e_S7]; exact hT
  refine ww_aload_n C dX11_nextBit_31 0 rfl ?_
  refine gf_Model_bitsHeld C bw_958 dX11_nextBit_32 ?_
  refine ww_aload_n C dX11_nextBit_35 0 rfl ?_
  refine gf_Model_bitsLeft C bw_957 dX11_nextBit_36 ?_
  refine ww_ishr C dX11_nextBit_39 ?_
  refine ww_iconst (v := 1) C dX11_nextBit_40 (by decide) ?_
  refine ww_iand C dX11_nextBit_41 ?_
  exact ww_iret C hrt dX11_nextBit_42 hT_S7 h
def wp_X11_nextBit (S : St)  (P : Int32 → St → Prop) : Prop :=
  ((¬ (S.2.1 9 12) = 0 → wp_X11_nextBit_21  S  P) ∧ ((S.2.1 9 12) = 0 → wp_X11_next S (fun r10 S9 => ∀ S11 : St, S11 = stM S9 9 13 r10 → ∀ S12 : St, S12 = stM S11 9 12 8 → wp_X11_nextBit_21  S12  P)))
set_option maxHeartbeats 4000000 in
set_option maxRecDepth 100000 in
theorem run_X11_nextBit {l : Launch} {g : Gx} {S : St}  {P : Int32 → St → Prop}  (h : rowsLe S → wp_X11_nextBit S  P) : CMi g l yX11_nextBit cX11_nextBit 1 (some .int) rm_X11_nextBit [.ref (gad g 158)] S P := cm_entry (own := RX11) (plainFor_of_name (by decide)) rfl (Nat.le_of_ble_eq_true rfl) rfl (fun hle f hf C hrt => by
  subst hf
  replace h := h hle
  obtain ⟨T0, hT⟩ : ∃ T, S.2.2.1 = T := ⟨_, rfl⟩
  rw [hT]
  unfold wp_X11_nextBit at h
  refine ww_aload_n C dX11_nextBit_0 0 rfl ?_
  refine gf_Model_bitsLeft C bw_957 dX11_nextBit_1 ?_
  refine ww_if_ne (tgt := 21) C dX11_nextBit_4 (by decide) (fun q8 => ?_) (fun q8 => ?_)
  · replace h := h.1 q8
    exact ww_sub [0] rfl (run_X11_nextBit_21 C hrt  hT  h)
  · replace h := h.2 q8
    refine ww_aload_n C dX11_nextBit_7 0 rfl ?_
    refine ww_aload_n C dX11_nextBit_8 0 rfl ?_
    refine ww_cVi (As := []) (rest := [.ref (gad g 158)]) C ok_X11_next bw_1195 dX11_nextBit_9 (run_X11_next  (fun _ => h)) rc_Model rfl ⟨Nat.le_of_ble_eq_true rfl, Nat.le_of_ble_eq_true rfl⟩ (Nat.le_of_ble_eq_true rfl) (c2 := 0) (s2 := 0) rfl rfl ⟨Nat.le_of_ble_eq_true rfl, Nat.le_of_ble_eq_true rfl⟩ rfl (fun r10 S9 hp hTg => ?_)
    replace h := hp
    have hT_S9 : S9.2.2.1 = T0 := by rw [hTg]; exact hT
    refine pf_Model_bitsHeld C bw_958 dX11_nextBit_12 ?_
    refine ww_nm (fun S11 e_S11 => ?_)
    replace h := h S11 e_S11
    have hT_S11 : S11.2.2.1 = T0 := by rw [e_S11]; exact hT_S9
    refine ww_aload_n C dX11_nextBit_15 0 rfl ?_
    refine ww_bipush (v := 8) C dX11_nextBit_16 (by decide) ?_
    refine pf_Model_bitsLeft C bw_957 dX11_nextBit_18 ?_
    refine ww_nm (fun S12 e_S12 => ?_)
    replace h := h S12 e_S12
    have hT_S12 : S12.2.2.1 = T0 := by rw [e_S12]; exact hT_S11
    exact ww_sub [0] rfl (run_X11_nextBit_21 C hrt  hT_S12  h))
abbrev rm_X11_nextBits : Room := { frames := 2, cells := 0, slots := 0, locals := 40 }
theorem ok_X11_nextBits : MOK yX11_nextBits RX11 cX11_nextBits 4 (some .int) 1 := ⟨bw_1217, bw_48, bw_69, bw_1218, by decide +kernel⟩
def st_X11_nextBits_4 (n : Int32) (P : Int32 → St → Prop) (X4 : St → Int32 → Int32 → Prop) (S : St) (v2 : Int32) (v3 : Int32) : Prop :=
  ((n ≤ v3 → P v2 S) ∧ (¬ n ≤ v3 → wp_X11_nextBit S (fun r8 S7 => ∀ x9 : Int32, x9 = (2 * v2) + r8 → ∀ x10 : Int32, x10 = v3 + 1 → X4 S7 x9 x10)))
def at_X11_nextBits_4 (f : Fx) (g : Gx) (T0 : List (Nat × Nat × Nat)) (n : Int32) (P : Int32 → St → Prop) (S : St) (v2 : Int32) (v3 : Int32) : Prop := S.2.2.1 = T0 → WW f rm_X11_nextBits g 4 0 0 (Qi f g 0 0 T0 P) S 4 [(0, .ref (gad g 158)), (1, .int n), (2, .int v2), (3, .int v3)] []
set_option maxHeartbeats 4000000 in
set_option maxRecDepth 100000 in
theorem run_X11_nextBits_4 {f : Fx} {g : Gx} {T0 : List (Nat × Nat × Nat)} {S : St} {n : Int32} {P : Int32 → St → Prop} (C : Cx f g cX11_nextBits 4 RX11) (hrt : (fmeth f).sig.returnType = (some .int))  {v2 : Int32} {v3 : Int32} (h : st_X11_nextBits_4 n P (at_X11_nextBits_4 f g T0 n P) S v2 v3) : at_X11_nextBits_4 f g T0 n P S v2 v3 := by
  intro hT 
  unfold st_X11_nextBits_4 at h
  refine ww_iload_n C dX11_nextBits_4 3 rfl ?_
  refine ww_iload_n C dX11_nextBits_5 1 rfl ?_
  refine ww_icmp_ge (tgt := 24) C dX11_nextBits_6 (by decide) (fun q6 => ?_) (fun q6 => ?_)
  · replace h := h.1 q6
    refine ww_iload_n C dX11_nextBits_24 2 rfl ?_
    exact ww_iret C hrt dX11_nextBits_25 hT h
  · replace h := h.2 q6
    refine ww_iconst (v := 2) C dX11_nextBits_9 (by decide) ?_
    refine ww_iload_n C dX11_nextBits_10 2 rfl ?_
    refine ww_imul C dX11_nextBits_11 ?_
    refine ww_aload_n C dX11_nextBits_12 0 rfl ?_
    refine ww_cVi (As := []) (rest := [.int (2 * v2)]) C ok_X11_nextBit bw_1211 dX11_nextBits_13 (run_X11_nextBit  (fun _ => h)) rc_Model rfl ⟨Nat.le_of_ble_eq_true rfl, Nat.le_of_ble_eq_true rfl⟩ (Nat.le_of_ble_eq_true rfl) (c2 := 0) (s2 := 0) rfl rfl ⟨Nat.le_of_ble_eq_true rfl, Nat.le_of_ble_eq_true rfl⟩ rfl (fun r8 S7 hp hTg => ?_)
    replace h := hp
    have hT_S7 : S7.2.2.1 = T0 := by rw [hTg]; exact hT
    refine ww_iadd C dX11_nextBits_16 ?_
    refine ww_topi (fun x9 e_x9 => ?_)
    replace h := h x9 e_x9
    refine ww_istore_n (lv2 := [(2, .int x9), (0, .ref (gad g 158)), (1, .int n), (3, .int v3)]) C dX11_nextBits_17 rfl (Nat.le_of_ble_eq_true rfl) rfl ?_
    obtain ⟨x10, e_x10⟩ : ∃ z : Int32, z = v3 + 1 := ⟨_, rfl⟩
    replace h := h x10 e_x10
    refine ww_iinc (v := x10) (lv2 := [(3, .int x10), (2, .int x9), (0, .ref (gad g 158)), (1, .int n)]) C dX11_nextBits_18 3 rfl (by rw [e_x10]; rfl) (Nat.le_of_ble_eq_true rfl) rfl ?_
    refine ww_goto (tgt := 4) C dX11_nextBits_21 (by decide) ?_
    exact ww_sub [2, 3, 1, 0] rfl (h hT_S7)
def wp_X11_nextBits (S : St) (n : Int32) (P : Int32 → St → Prop) : Prop :=
  ∀ (X4 : St → Int32 → Int32 → Prop), (∀ S v2 v3, st_X11_nextBits_4 n P X4 S v2 v3 → X4 S v2 v3) → X4 S 0 0
set_option maxHeartbeats 4000000 in
set_option maxRecDepth 100000 in
theorem run_X11_nextBits {l : Launch} {g : Gx} {S : St} {n : Int32} {P : Int32 → St → Prop}  (h : rowsLe S → wp_X11_nextBits S n P) : CMi g l yX11_nextBits cX11_nextBits 4 (some .int) rm_X11_nextBits [.ref (gad g 158), .int n] S P := cm_entry (own := RX11) (plainFor_of_name (by decide)) rfl (Nat.le_of_ble_eq_true rfl) rfl (fun hle f hf C hrt => by
  subst hf
  replace h := h hle
  obtain ⟨T0, hT⟩ : ∃ T, S.2.2.1 = T := ⟨_, rfl⟩
  rw [hT]
  replace h := h (at_X11_nextBits_4 f g T0 n P) (fun S v2 v3 h => run_X11_nextBits_4 C hrt  h)
  refine ww_iconst (v := 0) C dX11_nextBits_0 (by decide) ?_
  refine ww_istore_n (lv2 := [(2, .int 0), (0, .ref (gad g 158)), (1, .int n)]) C dX11_nextBits_1 rfl (Nat.le_of_ble_eq_true rfl) rfl ?_
  refine ww_iconst (v := 0) C dX11_nextBits_2 (by decide) ?_
  refine ww_istore_n (lv2 := [(3, .int 0), (2, .int 0), (0, .ref (gad g 158)), (1, .int n)]) C dX11_nextBits_3 rfl (Nat.le_of_ble_eq_true rfl) rfl ?_
  exact ww_sub [2, 3, 1, 0] rfl (h hT))
abbrev rm_X11_nextGamma : Room := { frames := 3, cells := 0, slots := 0, locals := 63 }
theorem ok_X11_nextGamma : MOK yX11_nextGamma RX11 cX11_nextGamma 2 (some .int) 0 := ⟨bw_1221, bw_49, bw_69, bw_1222, by decide +kernel⟩
def st_X11_nextGamma_2  (P : Int32 → St → Prop) (X2 : St → Int32 → Prop) (X31 : St → Int32 → Int32 → Prop) (X37 : St → Int32 → Prop) (X57 : St → Int32 → Prop) (S : St) (v1 : Int32) : Prop :=
  ((¬ (S.2.1 9 11) = 0 → X37 S v1) ∧ ((S.2.1 9 11) = 0 → wp_X11_nextBit S (fun r14 S13 => ((¬ r14 = 0 → X37 S13 v1) ∧ (r14 = 0 → ∀ x16 : Int32, x16 = v1 + 1 → ((16 ≤ x16 → X31 S13 x16 0) ∧ (¬ 16 ≤ x16 → X31 S13 x16 1)))))))
def st_X11_nextGamma_31  (P : Int32 → St → Prop) (X2 : St → Int32 → Prop) (X31 : St → Int32 → Int32 → Prop) (X37 : St → Int32 → Prop) (X57 : St → Int32 → Prop) (S : St) (v1 : Int32) (s0 : Int32) : Prop :=
  wp_X11_check S s0 (fun S18 => X2 S18 v1)
def st_X11_nextGamma_37  (P : Int32 → St → Prop) (X2 : St → Int32 → Prop) (X31 : St → Int32 → Int32 → Prop) (X37 : St → Int32 → Prop) (X57 : St → Int32 → Prop) (S : St) (v1 : Int32) : Prop :=
  (((S.2.1 9 11) = 0 → wp_X11_nextBits S v1 (fun r22 S21 => X57 S21 ((1 <<< (v1 &&& 31)) + r22))) ∧ (¬ (S.2.1 9 11) = 0 → X57 S 0))
def st_X11_nextGamma_57  (P : Int32 → St → Prop) (X2 : St → Int32 → Prop) (X31 : St → Int32 → Int32 → Prop) (X37 : St → Int32 → Prop) (X57 : St → Int32 → Prop) (S : St) (s0 : Int32) : Prop :=
  P s0 S
def at_X11_nextGamma_2 (f : Fx) (g : Gx) (T0 : List (Nat × Nat × Nat))  (P : Int32 → St → Prop) (S : St) (v1 : Int32) : Prop := S.2.2.1 = T0 → WW f rm_X11_nextGamma g 2 0 0 (Qi f g 0 0 T0 P) S 2 [(0, .ref (gad g 158)), (1, .int v1)] []
def at_X11_nextGamma_31 (f : Fx) (g : Gx) (T0 : List (Nat × Nat × Nat))  (P : Int32 → St → Prop) (S : St) (v1 : Int32) (s0 : Int32) : Prop := S.2.2.1 = T0 → WW f rm_X11_nextGamma g 2 0 0 (Qi f g 0 0 T0 P) S 31 [(0, .ref (gad g 158)), (1, .int v1)] [.int s0, .ref (gad g 158)]
def at_X11_nextGamma_37 (f : Fx) (g : Gx) (T0 : List (Nat × Nat × Nat))  (P : Int32 → St → Prop) (S : St) (v1 : Int32) : Prop := S.2.2.1 = T0 → WW f rm_X11_nextGamma g 2 0 0 (Qi f g 0 0 T0 P) S 37 [(0, .ref (gad g 158)), (1, .int v1)] []
def at_X11_nextGamma_57 (f : Fx) (g : Gx) (T0 : List (Nat × Nat × Nat))  (P : Int32 → St → Prop) (S : St) (s0 : Int32) : Prop := S.2.2.1 = T0 → WW f rm_X11_nextGamma g 2 0 0 (Qi f g 0 0 T0 P) S 57 [] [.int s0]
set_option maxHeartbeats 4000000 in
set_option maxRecDepth 100000 in
theorem run_X11_nextGamma_2 {f : Fx} {g : Gx} {T0 : List (Nat × Nat × Nat)} {S : St}  {P : Int32 → St → Prop} (C : Cx f g cX11_nextGamma 2 RX11) (hrt : (fmeth f).sig.returnType = (some .int))  {v1 : Int32} (h : st_X11_nextGamma_2  P (at_X11_nextGamma_2 f g T0  P) (at_X11_nextGamma_31 f g T0  P) (at_X11_nextGamma_37 f g T0  P) (at_X11_nextGamma_57 f g T0  P) S v1) : at_X11_nextGamma_2 f g T0  P S v1 := by
  intro hT 
  unfold st_X11_nextGamma_2 at h
  refine ww_aload_n C dX11_nextGamma_2 0 rfl ?_
  refine gf_Model_bad C bw_956 dX11_nextGamma_3 ?_
  refine ww_if_ne (tgt := 37) C dX11_nextGamma_6 (by decide) (fun q12 => ?_) (fun q12 => ?_)
  · replace h := h.1 q12
    exact ww_sub [0, 1] rfl (h hT)
  · replace h := h.2 q12
    refine ww_aload_n C dX11_nextGamma_9 0 rfl ?_
    refine ww_cVi (As := []) (rest := []) C ok_X11_nextBit bw_1211 dX11_nextGamma_10 (run_X11_nextBit  (fun _ => h)) rc_Model rfl ⟨Nat.le_of_ble_eq_true rfl, Nat.le_of_ble_eq_true rfl⟩ (Nat.le_of_ble_eq_true rfl) (c2 := 0) (s2 := 0) rfl rfl ⟨Nat.le_of_ble_eq_true rfl, Nat.le_of_ble_eq_true rfl⟩ rfl (fun r14 S13 hp hTg => ?_)
    replace h := hp
    have hT_S13 : S13.2.2.1 = T0 := by rw [hTg]; exact hT
    refine ww_if_ne (tgt := 37) C dX11_nextGamma_13 (by decide) (fun q15 => ?_) (fun q15 => ?_)
    · replace h := h.1 q15
      exact ww_sub [0, 1] rfl (h hT_S13)
    · replace h := h.2 q15
      obtain ⟨x16, e_x16⟩ : ∃ z : Int32, z = v1 + 1 := ⟨_, rfl⟩
      replace h := h x16 e_x16
      refine ww_iinc (v := x16) (lv2 := [(1, .int x16), (0, .ref (gad g 158))]) C dX11_nextGamma_16 1 rfl (by rw [e_x16]; rfl) (Nat.le_of_ble_eq_true rfl) rfl ?_
      refine ww_aload_n C dX11_nextGamma_19 1 rfl ?_
      refine ww_iload_n C dX11_nextGamma_20 0 rfl ?_
      refine ww_bipush (v := 16) C dX11_nextGamma_21 (by decide) ?_
      refine ww_icmp_ge (tgt := 30) C dX11_nextGamma_23 (by decide) (fun q17 => ?_) (fun q17 => ?_)
      · replace h := h.1 q17
        refine ww_iconst (v := 0) C dX11_nextGamma_30 (by decide) ?_
        exact ww_sub [1, 0] rfl (h hT_S13)
      · replace h := h.2 q17
        refine ww_iconst (v := 1) C dX11_nextGamma_26 (by decide) ?_
        refine ww_goto (tgt := 31) C dX11_nextGamma_27 (by decide) ?_
        exact ww_sub [1, 0] rfl (h hT_S13)
set_option maxHeartbeats 4000000 in
set_option maxRecDepth 100000 in
theorem run_X11_nextGamma_31 {f : Fx} {g : Gx} {T0 : List (Nat × Nat × Nat)} {S : St}  {P : Int32 → St → Prop} (C : Cx f g cX11_nextGamma 2 RX11) (hrt : (fmeth f).sig.returnType = (some .int))  {v1 : Int32} {s0 : Int32} (h : st_X11_nextGamma_31  P (at_X11_nextGamma_2 f g T0  P) (at_X11_nextGamma_31 f g T0  P) (at_X11_nextGamma_37 f g T0  P) (at_X11_nextGamma_57 f g T0  P) S v1 s0) : at_X11_nextGamma_31 f g T0  P S v1 s0 := by
  intro hT 
  unfold st_X11_nextGamma_31 at h
  refine ww_cVv (As := [.int s0]) (rest := []) C ok_X11_check bw_1199 dX11_nextGamma_31 (run_X11_check  (fun _ => h)) rc_Model rfl ⟨Nat.le_of_ble_eq_true rfl, Nat.le_of_ble_eq_true rfl⟩ (Nat.le_of_ble_eq_true rfl) (c2 := 0) (s2 := 0) rfl rfl ⟨Nat.le_of_ble_eq_true rfl, Nat.le_of_ble_eq_true rfl⟩ rfl (fun S18 hp hTg => ?_)
  replace h := hp
  have hT_S18 : S18.2.2.1 = T0 := by rw [hTg]; exact hT
  refine ww_goto (tgt := 2) C dX11_nextGamma_34 (by decide) ?_
  exact ww_sub [0, 1] rfl (h hT_S18)
set_option maxHeartbeats 4000000 in
set_option maxRecDepth 100000 in
theorem run_X11_nextGamma_37 {f : Fx} {g : Gx} {T0 : List (Nat × Nat × Nat)} {S : St}  {P : Int32 → St → Prop} (C : Cx f g cX11_nextGamma 2 RX11) (hrt : (fmeth f).sig.returnType = (some .int))  {v1 : Int32} (h : st_X11_nextGamma_37  P (at_X11_nextGamma_2 f g T0  P) (at_X11_nextGamma_31 f g T0  P) (at_X11_nextGamma_37 f g T0  P) (at_X11_nextGamma_57 f g T0  P) S v1) : at_X11_nextGamma_37 f g T0  P S v1 := by
  intro hT 
  unfold st_X11_nextGamma_37 at h
  refine ww_aload_n C dX11_nextGamma_37 0 rfl ?_
  refine gf_Model_bad C bw_956 dX11_nextGamma_38 ?_
  refine ww_if_eq (tgt := 48) C dX11_nextGamma_41 (by decide) (fun q20 => ?_) (fun q20 => ?_)
  · replace h := h.1 q20
    refine ww_iconst (v := 1) C dX11_nextGamma_48 (by decide) ?_
    refine ww_iload_n C dX11_nextGamma_49 1 rfl ?_
    refine ww_ishl C dX11_nextGamma_50 ?_
    refine ww_aload_n C dX11_nextGamma_51 0 rfl ?_
    refine ww_iload_n C dX11_nextGamma_52 1 rfl ?_
    refine ww_cVi (As := [.int v1]) (rest := [.int (1 <<< (v1 &&& 31))]) C ok_X11_nextBits bw_1215 dX11_nextGamma_53 (run_X11_nextBits  (fun _ => h)) rc_Model rfl ⟨Nat.le_of_ble_eq_true rfl, Nat.le_of_ble_eq_true rfl⟩ (Nat.le_of_ble_eq_true rfl) (c2 := 0) (s2 := 0) rfl rfl ⟨Nat.le_of_ble_eq_true rfl, Nat.le_of_ble_eq_true rfl⟩ rfl (fun r22 S21 hp hTg => ?_)
    replace h := hp
    have hT_S21 : S21.2.2.1 = T0 := by rw [hTg]; exact hT
    refine ww_iadd C dX11_nextGamma_56 ?_
    exact ww_sub [] rfl (h hT_S21)
  · replace h := h.2 q20
    refine ww_iconst (v := 0) C dX11_nextGamma_44 (by decide) ?_
    refine ww_goto (tgt := 57) C dX11_nextGamma_45 (by decide) ?_
    exact ww_sub [] rfl (h hT)
set_option maxHeartbeats 4000000 in
set_option maxRecDepth 100000 in
theorem run_X11_nextGamma_57 {f : Fx} {g : Gx} {T0 : List (Nat × Nat × Nat)} {S : St}  {P : Int32 → St → Prop} (C : Cx f g cX11_nextGamma 2 RX11) (hrt : (fmeth f).sig.returnType = (some .int))  {s0 : Int32} (h : st_X11_nextGamma_57  P (at_X11_nextGamma_2 f g T0  P) (at_X11_nextGamma_31 f g T0  P) (at_X11_nextGamma_37 f g T0  P) (at_X11_nextGamma_57 f g T0  P) S s0) : at_X11_nextGamma_57 f g T0  P S s0 := by
  intro hT 
  unfold st_X11_nextGamma_57 at h
  exact ww_iret C hrt dX11_nextGamma_57 hT h
def wp_X11_nextGamma (S : St)  (P : Int32 → St → Prop) : Prop :=
  ∀ (X2 : St → Int32 → Prop) (X31 : St → Int32 → Int32 → Prop) (X37 : St → Int32 → Prop) (X57 : St → Int32 → Prop), (∀ S v1, st_X11_nextGamma_2  P X2 X31 X37 X57 S v1 → X2 S v1) → (∀ S v1 s0, st_X11_nextGamma_31  P X2 X31 X37 X57 S v1 s0 → X31 S v1 s0) → (∀ S v1, st_X11_nextGamma_37  P X2 X31 X37 X57 S v1 → X37 S v1) → (∀ S s0, st_X11_nextGamma_57  P X2 X31 X37 X57 S s0 → X57 S s0) → X2 S 0
set_option maxHeartbeats 4000000 in
set_option maxRecDepth 100000 in
theorem run_X11_nextGamma {l : Launch} {g : Gx} {S : St}  {P : Int32 → St → Prop}  (h : rowsLe S → wp_X11_nextGamma S  P) : CMi g l yX11_nextGamma cX11_nextGamma 2 (some .int) rm_X11_nextGamma [.ref (gad g 158)] S P := cm_entry (own := RX11) (plainFor_of_name (by decide)) rfl (Nat.le_of_ble_eq_true rfl) rfl (fun hle f hf C hrt => by
  subst hf
  replace h := h hle
  obtain ⟨T0, hT⟩ : ∃ T, S.2.2.1 = T := ⟨_, rfl⟩
  rw [hT]
  replace h := h (at_X11_nextGamma_2 f g T0  P) (at_X11_nextGamma_31 f g T0  P) (at_X11_nextGamma_37 f g T0  P) (at_X11_nextGamma_57 f g T0  P) (fun S v1 h => run_X11_nextGamma_2 C hrt  h) (fun S v1 s0 h => run_X11_nextGamma_31 C hrt  h) (fun S v1 h => run_X11_nextGamma_37 C hrt  h) (fun S s0 h => run_X11_nextGamma_57 C hrt  h)
  refine ww_iconst (v := 0) C dX11_nextGamma_0 (by decide) ?_
  refine ww_istore_n (lv2 := [(1, .int 0), (0, .ref (gad g 158))]) C dX11_nextGamma_1 rfl (Nat.le_of_ble_eq_true rfl) rfl ?_
  exact ww_sub [1, 0] rfl (h hT))
abbrev rm_X11_expand : Room := { frames := 4, cells := 0, slots := 0, locals := 84 }
theorem ok_X11_expand : MOK yX11_expand RX11 cX11_expand 5 none 1 := ⟨bw_1209, bw_46, bw_69, bw_1210, by decide +kernel⟩
def st_X11_expand_10 (n : Int32) (P : St → Prop) (X10 : St → Prop) (X90 : St → Int32 → Int32 → Prop) (X91 : St → Int32 → Int32 → Int32 → Prop) (X97 : St → Int32 → Int32 → Int32 → Prop) (X131 : St → Prop) (X134 : St → Prop) (X161 : St → Int32 → Prop) (X167 : St → Prop) (X184 : St → Int32 → Prop) (S : St)  : Prop :=
  ((n ≤ (S.2.1 9 4) → X134 S) ∧ (¬ n ≤ (S.2.1 9 4) → ((¬ (S.2.1 9 11) = 0 → X134 S) ∧ ((S.2.1 9 11) = 0 → wp_X11_nextBit S (fun r41 S40 => ((¬ r41 = 0 → wp_X11_nextGamma S40 (fun r44 S43 => ∀ x45 : Int32, x45 = r44 + 2 → wp_X11_nextGamma S43 (fun r47 S46 => ((x45 < 3 → X90 S46 x45 r47) ∧ (¬ x45 < 3 → (((n - (S46.2.1 9 4)) < x45 → X90 S46 x45 r47) ∧ (¬ (n - (S46.2.1 9 4)) < x45 → ((r47 < 1 → X90 S46 x45 r47) ∧ (¬ r47 < 1 → (((S46.2.1 9 4) < r47 → X90 S46 x45 r47) ∧ (¬ (S46.2.1 9 4) < r47 → X91 S46 x45 r47 1))))))))))) ∧ (r41 = 0 → wp_X11_nextBits S40 8 (fun r53 S52 => wp_X11_flow S52 r53 (fun S54 => X10 S54)))))))))
def st_X11_expand_90 (n : Int32) (P : St → Prop) (X10 : St → Prop) (X90 : St → Int32 → Int32 → Prop) (X91 : St → Int32 → Int32 → Int32 → Prop) (X97 : St → Int32 → Int32 → Int32 → Prop) (X131 : St → Prop) (X134 : St → Prop) (X161 : St → Int32 → Prop) (X167 : St → Prop) (X184 : St → Int32 → Prop) (S : St) (v2 : Int32) (v3 : Int32) : Prop :=
  X91 S v2 v3 0
def st_X11_expand_91 (n : Int32) (P : St → Prop) (X10 : St → Prop) (X90 : St → Int32 → Int32 → Prop) (X91 : St → Int32 → Int32 → Int32 → Prop) (X97 : St → Int32 → Int32 → Int32 → Prop) (X131 : St → Prop) (X134 : St → Prop) (X161 : St → Int32 → Prop) (X167 : St → Prop) (X184 : St → Int32 → Prop) (S : St) (v2 : Int32) (v3 : Int32) (s0 : Int32) : Prop :=
  wp_X11_check S s0 (fun S56 => X97 S56 v2 v3 0)
def st_X11_expand_97 (n : Int32) (P : St → Prop) (X10 : St → Prop) (X90 : St → Int32 → Int32 → Prop) (X91 : St → Int32 → Int32 → Int32 → Prop) (X97 : St → Int32 → Int32 → Int32 → Prop) (X131 : St → Prop) (X134 : St → Prop) (X161 : St → Int32 → Prop) (X167 : St → Prop) (X184 : St → Int32 → Prop) (S : St) (v2 : Int32) (v3 : Int32) (v4 : Int32) : Prop :=
  ((v2 ≤ v4 → X131 S) ∧ (¬ v2 ≤ v4 → ((¬ (S.2.1 9 11) = 0 → X131 S) ∧ ((S.2.1 9 11) = 0 → (vp_in ((S.2.1 9 4) - v3) (gw_ml 20) ∧ wp_X11_flow S (S.2.1 30 ((S.2.1 9 4) - v3).toNatClampNeg) (fun S60 => ∀ x62 : Int32, x62 = v4 + 1 → X97 S60 v2 v3 x62))))))
def st_X11_expand_131 (n : Int32) (P : St → Prop) (X10 : St → Prop) (X90 : St → Int32 → Int32 → Prop) (X91 : St → Int32 → Int32 → Int32 → Prop) (X97 : St → Int32 → Int32 → Int32 → Prop) (X131 : St → Prop) (X134 : St → Prop) (X161 : St → Int32 → Prop) (X167 : St → Prop) (X184 : St → Int32 → Prop) (S : St)  : Prop :=
  X10 S
def st_X11_expand_134 (n : Int32) (P : St → Prop) (X10 : St → Prop) (X90 : St → Int32 → Int32 → Prop) (X91 : St → Int32 → Int32 → Int32 → Prop) (X97 : St → Int32 → Int32 → Int32 → Prop) (X131 : St → Prop) (X134 : St → Prop) (X161 : St → Int32 → Prop) (X167 : St → Prop) (X184 : St → Int32 → Prop) (S : St)  : Prop :=
  (((S.2.1 9 12) ≤ 0 → X167 S) ∧ (¬ (S.2.1 9 12) ≤ 0 → ((¬ (S.2.1 9 11) = 0 → X167 S) ∧ ((S.2.1 9 11) = 0 → wp_X11_nextBit S (fun r66 S65 => ((¬ r66 = 0 → X161 S65 0) ∧ (r66 = 0 → X161 S65 1)))))))
def st_X11_expand_161 (n : Int32) (P : St → Prop) (X10 : St → Prop) (X90 : St → Int32 → Int32 → Prop) (X91 : St → Int32 → Int32 → Int32 → Prop) (X97 : St → Int32 → Int32 → Int32 → Prop) (X131 : St → Prop) (X134 : St → Prop) (X161 : St → Int32 → Prop) (X167 : St → Prop) (X184 : St → Int32 → Prop) (S : St) (s0 : Int32) : Prop :=
  wp_X11_check S s0 (fun S68 => X134 S68)
def st_X11_expand_167 (n : Int32) (P : St → Prop) (X10 : St → Prop) (X90 : St → Int32 → Int32 → Prop) (X91 : St → Int32 → Int32 → Int32 → Prop) (X97 : St → Int32 → Int32 → Int32 → Prop) (X131 : St → Prop) (X134 : St → Prop) (X161 : St → Int32 → Prop) (X167 : St → Prop) (X184 : St → Int32 → Prop) (S : St)  : Prop :=
  ((¬ (S.2.1 9 8) = (S.2.1 9 9) → X184 S 0) ∧ ((S.2.1 9 8) = (S.2.1 9 9) → X184 S 1))
def st_X11_expand_184 (n : Int32) (P : St → Prop) (X10 : St → Prop) (X90 : St → Int32 → Int32 → Prop) (X91 : St → Int32 → Int32 → Int32 → Prop) (X97 : St → Int32 → Int32 → Int32 → Prop) (X131 : St → Prop) (X134 : St → Prop) (X161 : St → Int32 → Prop) (X167 : St → Prop) (X184 : St → Int32 → Prop) (S : St) (s0 : Int32) : Prop :=
  wp_X11_check S s0 (fun S71 => P S71)
def at_X11_expand_10 (f : Fx) (g : Gx) (T0 : List (Nat × Nat × Nat)) (n : Int32) (P : St → Prop) (S : St)  : Prop := S.2.2.1 = T0 → WW f rm_X11_expand g 5 0 0 (Qv f g 0 0 T0 P) S 10 [(0, .ref (gad g 158)), (1, .int n)] []
def at_X11_expand_90 (f : Fx) (g : Gx) (T0 : List (Nat × Nat × Nat)) (n : Int32) (P : St → Prop) (S : St) (v2 : Int32) (v3 : Int32) : Prop := S.2.2.1 = T0 → WW f rm_X11_expand g 5 0 0 (Qv f g 0 0 T0 P) S 90 [(0, .ref (gad g 158)), (1, .int n), (2, .int v2), (3, .int v3)] [.ref (gad g 158)]
def at_X11_expand_91 (f : Fx) (g : Gx) (T0 : List (Nat × Nat × Nat)) (n : Int32) (P : St → Prop) (S : St) (v2 : Int32) (v3 : Int32) (s0 : Int32) : Prop := S.2.2.1 = T0 → WW f rm_X11_expand g 5 0 0 (Qv f g 0 0 T0 P) S 91 [(0, .ref (gad g 158)), (1, .int n), (2, .int v2), (3, .int v3)] [.int s0, .ref (gad g 158)]
def at_X11_expand_97 (f : Fx) (g : Gx) (T0 : List (Nat × Nat × Nat)) (n : Int32) (P : St → Prop) (S : St) (v2 : Int32) (v3 : Int32) (v4 : Int32) : Prop := S.2.2.1 = T0 → WW f rm_X11_expand g 5 0 0 (Qv f g 0 0 T0 P) S 97 [(0, .ref (gad g 158)), (1, .int n), (2, .int v2), (3, .int v3), (4, .int v4)] []
def at_X11_expand_131 (f : Fx) (g : Gx) (T0 : List (Nat × Nat × Nat)) (n : Int32) (P : St → Prop) (S : St)  : Prop := S.2.2.1 = T0 → WW f rm_X11_expand g 5 0 0 (Qv f g 0 0 T0 P) S 131 [(0, .ref (gad g 158)), (1, .int n)] []
def at_X11_expand_134 (f : Fx) (g : Gx) (T0 : List (Nat × Nat × Nat)) (n : Int32) (P : St → Prop) (S : St)  : Prop := S.2.2.1 = T0 → WW f rm_X11_expand g 5 0 0 (Qv f g 0 0 T0 P) S 134 [(0, .ref (gad g 158))] []
def at_X11_expand_161 (f : Fx) (g : Gx) (T0 : List (Nat × Nat × Nat)) (n : Int32) (P : St → Prop) (S : St) (s0 : Int32) : Prop := S.2.2.1 = T0 → WW f rm_X11_expand g 5 0 0 (Qv f g 0 0 T0 P) S 161 [(0, .ref (gad g 158))] [.int s0, .ref (gad g 158)]
def at_X11_expand_167 (f : Fx) (g : Gx) (T0 : List (Nat × Nat × Nat)) (n : Int32) (P : St → Prop) (S : St)  : Prop := S.2.2.1 = T0 → WW f rm_X11_expand g 5 0 0 (Qv f g 0 0 T0 P) S 167 [(0, .ref (gad g 158))] []
def at_X11_expand_184 (f : Fx) (g : Gx) (T0 : List (Nat × Nat × Nat)) (n : Int32) (P : St → Prop) (S : St) (s0 : Int32) : Prop := S.2.2.1 = T0 → WW f rm_X11_expand g 5 0 0 (Qv f g 0 0 T0 P) S 184 [] [.int s0, .ref (gad g 158)]
set_option maxHeartbeats 4000000 in
set_option maxRecDepth 100000 in
theorem run_X11_expand_10 {f : Fx} {g : Gx} {T0 : List (Nat × Nat × Nat)} {S : St} {n : Int32} {P : St → Prop} (C : Cx f g cX11_expand 5 RX11) (hrt : (fmeth f).sig.returnType = none)   (h : st_X11_expand_10 n P (at_X11_expand_10 f g T0 n P) (at_X11_expand_90 f g T0 n P) (at_X11_expand_91 f g T0 n P) (at_X11_expand_97 f g T0 n P) (at_X11_expand_131 f g T0 n P) (at_X11_expand_134 f g T0 n P) (at_X11_expand_161 f g T0 n P) (at_X11_expand_167 f g T0 n P) (at_X11_expand_184 f g T0 n P) S ) : at_X11_expand_10 f g T0 n P S  := by
  intro hT 
  unfold st_X11_expand_10 at h
  refine ww_aload_n C dX11_expand_10 0 rfl ?_
  refine gf_Model_streamed C bw_947 dX11_expand_11 ?_
  refine ww_iload_n C dX11_expand_14 1 rfl ?_
  refine ww_icmp_ge (tgt := 134) C dX11_expand_15 (by decide) (fun q38 => ?_) (fun q38 => ?_)
  · replace h := h.1 q38
    exact ww_sub [0] rfl (h hT)
  · replace h := h.2 q38
    refine ww_aload_n C dX11_expand_18 0 rfl ?_
    refine gf_Model_bad C bw_956 dX11_expand_19 ?_
    refine ww_if_ne (tgt := 134) C dX11_expand_22 (by decide) (fun q39 => ?_) (fun q39 => ?_)
    · replace h := h.1 q39
      exact ww_sub [0] rfl (h hT)
    · replace h := h.2 q39
      refine ww_aload_n C dX11_expand_25 0 rfl ?_
      refine ww_cVi (As := []) (rest := []) C ok_X11_nextBit bw_1211 dX11_expand_26 (run_X11_nextBit  (fun _ => h)) rc_Model rfl ⟨Nat.le_of_ble_eq_true rfl, Nat.le_of_ble_eq_true rfl⟩ (Nat.le_of_ble_eq_true rfl) (c2 := 0) (s2 := 0) rfl rfl ⟨Nat.le_of_ble_eq_true rfl, Nat.le_of_ble_eq_true rfl⟩ rfl (fun r41 S40 hp hTg => ?_)
      replace h := hp
      have hT_S40 : S40.2.2.1 = T0 := by rw [hTg]; exact hT
      refine ww_if_ne (tgt := 45) C dX11_expand_29 (by decide) (fun q42 => ?_) (fun q42 => ?_)
      · replace h := h.1 q42
        refine ww_aload_n C dX11_expand_45 0 rfl ?_
        refine ww_cVi (As := []) (rest := []) C ok_X11_nextGamma bw_1219 dX11_expand_46 (run_X11_nextGamma  (fun _ => h)) rc_Model rfl ⟨Nat.le_of_ble_eq_true rfl, Nat.le_of_ble_eq_true rfl⟩ (Nat.le_of_ble_eq_true rfl) (c2 := 0) (s2 := 0) rfl rfl ⟨Nat.le_of_ble_eq_true rfl, Nat.le_of_ble_eq_true rfl⟩ rfl (fun r44 S43 hp hTg => ?_)
        replace h := hp
        have hT_S43 : S43.2.2.1 = T0 := by rw [hTg]; exact hT_S40
        refine ww_iconst (v := 2) C dX11_expand_49 (by decide) ?_
        refine ww_iadd C dX11_expand_50 ?_
        refine ww_topi (fun x45 e_x45 => ?_)
        replace h := h x45 e_x45
        refine ww_istore_n (lv2 := [(2, .int x45), (0, .ref (gad g 158)), (1, .int n)]) C dX11_expand_51 rfl (Nat.le_of_ble_eq_true rfl) rfl ?_
        refine ww_aload_n C dX11_expand_52 1 rfl ?_
        refine ww_cVi (As := []) (rest := []) C ok_X11_nextGamma bw_1219 dX11_expand_53 (run_X11_nextGamma  (fun _ => h)) rc_Model rfl ⟨Nat.le_of_ble_eq_true rfl, Nat.le_of_ble_eq_true rfl⟩ (Nat.le_of_ble_eq_true rfl) (c2 := 0) (s2 := 0) rfl rfl ⟨Nat.le_of_ble_eq_true rfl, Nat.le_of_ble_eq_true rfl⟩ rfl (fun r47 S46 hp hTg => ?_)
        replace h := hp
        have hT_S46 : S46.2.2.1 = T0 := by rw [hTg]; exact hT_S43
        refine ww_istore_n (lv2 := [(3, .int r47), (2, .int x45), (0, .ref (gad g 158)), (1, .int n)]) C dX11_expand_56 rfl (Nat.le_of_ble_eq_true rfl) rfl ?_
        refine ww_aload_n C dX11_expand_57 2 rfl ?_
        refine ww_iload_n C dX11_expand_58 1 rfl ?_
        refine ww_iconst (v := 3) C dX11_expand_59 (by decide) ?_
        refine ww_icmp_lt (tgt := 90) C dX11_expand_60 (by decide) (fun q48 => ?_) (fun q48 => ?_)
        · replace h := h.1 q48
          exact ww_sub [2, 3, 1, 0] rfl (h hT_S46)
        · replace h := h.2 q48
          refine ww_iload_n C dX11_expand_63 1 rfl ?_
          refine ww_iload_n C dX11_expand_64 3 rfl ?_
          refine ww_aload_n C dX11_expand_65 2 rfl ?_
          refine gf_Model_streamed C bw_947 dX11_expand_66 ?_
          refine ww_isub C dX11_expand_69 ?_
          refine ww_icmp_gt (tgt := 90) C dX11_expand_70 (by decide) (fun q49 => ?_) (fun q49 => ?_)
          · replace h := h.1 q49
            exact ww_sub [2, 3, 1, 0] rfl (h hT_S46)
          · replace h := h.2 q49
            refine ww_iload_n C dX11_expand_73 0 rfl ?_
            refine ww_iconst (v := 1) C dX11_expand_74 (by decide) ?_
            refine ww_icmp_lt (tgt := 90) C dX11_expand_75 (by decide) (fun q50 => ?_) (fun q50 => ?_)
            · replace h := h.1 q50
              exact ww_sub [2, 3, 1, 0] rfl (h hT_S46)
            · replace h := h.2 q50
              refine ww_iload_n C dX11_expand_78 0 rfl ?_
              refine ww_aload_n C dX11_expand_79 2 rfl ?_
              refine gf_Model_streamed C bw_947 dX11_expand_80 ?_
              refine ww_icmp_gt (tgt := 90) C dX11_expand_83 (by decide) (fun q51 => ?_) (fun q51 => ?_)
              · replace h := h.1 q51
                exact ww_sub [2, 3, 1, 0] rfl (h hT_S46)
              · replace h := h.2 q51
                refine ww_iconst (v := 1) C dX11_expand_86 (by decide) ?_
                refine ww_goto (tgt := 91) C dX11_expand_87 (by decide) ?_
                exact ww_sub [2, 3, 1, 0] rfl (h hT_S46)
      · replace h := h.2 q42
        refine ww_aload_n C dX11_expand_32 0 rfl ?_
        refine ww_aload_n C dX11_expand_33 0 rfl ?_
        refine ww_bipush (v := 8) C dX11_expand_34 (by decide) ?_
        refine ww_cVi (As := [.int 8]) (rest := [.ref (gad g 158)]) C ok_X11_nextBits bw_1215 dX11_expand_36 (run_X11_nextBits  (fun _ => h)) rc_Model rfl ⟨Nat.le_of_ble_eq_true rfl, Nat.le_of_ble_eq_true rfl⟩ (Nat.le_of_ble_eq_true rfl) (c2 := 0) (s2 := 0) rfl rfl ⟨Nat.le_of_ble_eq_true rfl, Nat.le_of_ble_eq_true rfl⟩ rfl (fun r53 S52 hp hTg => ?_)
        replace h := hp
        have hT_S52 : S52.2.2.1 = T0 := by rw [hTg]; exact hT_S40
        refine ww_cVv (As := [.int r53]) (rest := []) C ok_X11_flow bw_1097 dX11_expand_39 (run_X11_flow  (fun _ => h)) rc_Model rfl ⟨Nat.le_of_ble_eq_true rfl, Nat.le_of_ble_eq_true rfl⟩ (Nat.le_of_ble_eq_true rfl) (c2 := 0) (s2 := 0) rfl rfl ⟨Nat.le_of_ble_eq_true rfl, Nat.le_of_ble_eq_true rfl⟩ rfl (fun S54 hp hTg => ?_)
        replace h := hp
        have hT_S54 : S54.2.2.1 = T0 := by rw [hTg]; exact hT_S52
        refine ww_goto (tgt := 10) C dX11_expand_42 (by decide) ?_
        exact ww_sub [0, 1] rfl (h hT_S54)
set_option maxHeartbeats 4000000 in
set_option maxRecDepth 100000 in
theorem run_X11_expand_90 {f : Fx} {g : Gx} {T0 : List (Nat × Nat × Nat)} {S : St} {n : Int32} {P : St → Prop} (C : Cx f g cX11_expand 5 RX11) (hrt : (fmeth f).sig.returnType = none)  {v2 : Int32} {v3 : Int32} (h : st_X11_expand_90 n P (at_X11_expand_10 f g T0 n P) (at_X11_expand_90 f g T0 n P) (at_X11_expand_91 f g T0 n P) (at_X11_expand_97 f g T0 n P) (at_X11_expand_131 f g T0 n P) (at_X11_expand_134 f g T0 n P) (at_X11_expand_161 f g T0 n P) (at_X11_expand_167 f g T0 n P) (at_X11_expand_184 f g T0 n P) S v2 v3) : at_X11_expand_90 f g T0 n P S v2 v3 := by
  intro hT 
  unfold st_X11_expand_90 at h
  refine ww_iconst (v := 0) C dX11_expand_90 (by decide) ?_
  exact ww_sub [0, 1, 2, 3] rfl (h hT)
set_option maxHeartbeats 4000000 in
set_option maxRecDepth 100000 in
theorem run_X11_expand_91 {f : Fx} {g : Gx} {T0 : List (Nat × Nat × Nat)} {S : St} {n : Int32} {P : St → Prop} (C : Cx f g cX11_expand 5 RX11) (hrt : (fmeth f).sig.returnType = none)  {v2 : Int32} {v3 : Int32} {s0 : Int32} (h : st_X11_expand_91 n P (at_X11_expand_10 f g T0 n P) (at_X11_expand_90 f g T0 n P) (at_X11_expand_91 f g T0 n P) (at_X11_expand_97 f g T0 n P) (at_X11_expand_131 f g T0 n P) (at_X11_expand_134 f g T0 n P) (at_X11_expand_161 f g T0 n P) (at_X11_expand_167 f g T0 n P) (at_X11_expand_184 f g T0 n P) S v2 v3 s0) : at_X11_expand_91 f g T0 n P S v2 v3 s0 := by
  intro hT 
  unfold st_X11_expand_91 at h
  refine ww_cVv (As := [.int s0]) (rest := []) C ok_X11_check bw_1199 dX11_expand_91 (run_X11_check  (fun _ => h)) rc_Model rfl ⟨Nat.le_of_ble_eq_true rfl, Nat.le_of_ble_eq_true rfl⟩ (Nat.le_of_ble_eq_true rfl) (c2 := 0) (s2 := 0) rfl rfl ⟨Nat.le_of_ble_eq_true rfl, Nat.le_of_ble_eq_true rfl⟩ rfl (fun S56 hp hTg => ?_)
  replace h := hp
  have hT_S56 : S56.2.2.1 = T0 := by rw [hTg]; exact hT
  refine ww_iconst (v := 0) C dX11_expand_94 (by decide) ?_
  refine ww_istore (lv2 := [(4, .int 0), (0, .ref (gad g 158)), (1, .int n), (2, .int v2), (3, .int v3)]) C dX11_expand_95 (Nat.le_of_ble_eq_true rfl) rfl ?_
  exact ww_sub [1, 2, 3, 4, 0] rfl (h hT_S56)
set_option maxHeartbeats 4000000 in
set_option maxRecDepth 100000 in
theorem run_X11_expand_97 {f : Fx} {g : Gx} {T0 : List (Nat × Nat × Nat)} {S : St} {n : Int32} {P : St → Prop} (C : Cx f g cX11_expand 5 RX11) (hrt : (fmeth f).sig.returnType = none)  {v2 : Int32} {v3 : Int32} {v4 : Int32} (h : st_X11_expand_97 n P (at_X11_expand_10 f g T0 n P) (at_X11_expand_90 f g T0 n P) (at_X11_expand_91 f g T0 n P) (at_X11_expand_97 f g T0 n P) (at_X11_expand_131 f g T0 n P) (at_X11_expand_134 f g T0 n P) (at_X11_expand_161 f g T0 n P) (at_X11_expand_167 f g T0 n P) (at_X11_expand_184 f g T0 n P) S v2 v3 v4) : at_X11_expand_97 f g T0 n P S v2 v3 v4 := by
  intro hT 
  unfold st_X11_expand_97 at h
  refine ww_iload C dX11_expand_97 4 rfl ?_
  refine ww_iload_n C dX11_expand_99 2 rfl ?_
  refine ww_icmp_ge (tgt := 131) C dX11_expand_100 (by decide) (fun q58 => ?_) (fun q58 => ?_)
  · replace h := h.1 q58
    exact ww_sub [0, 1] rfl (h hT)
  · replace h := h.2 q58
    refine ww_aload_n C dX11_expand_103 0 rfl ?_
    refine gf_Model_bad C bw_956 dX11_expand_104 ?_
    refine ww_if_ne (tgt := 131) C dX11_expand_107 (by decide) (fun q59 => ?_) (fun q59 => ?_)
    · replace h := h.1 q59
      exact ww_sub [0, 1] rfl (h hT)
    · replace h := h.2 q59
      refine ww_aload_n C dX11_expand_110 0 rfl ?_
      refine ww_aload_n C dX11_expand_111 0 rfl ?_
      refine gf_Model_stream C bw_948 dX11_expand_112 ?_
      refine ww_aload_n C dX11_expand_115 0 rfl ?_
      refine gf_Model_streamed C bw_947 dX11_expand_116 ?_
      refine ww_iload_n C dX11_expand_119 3 rfl ?_
      refine ww_isub C dX11_expand_120 ?_
      refine ia_m (a := 20) C (by decide) (by decide) h.1 dX11_expand_121 ?_
      replace h := h.2
      refine ww_cVv (As := [.int (S.2.1 30 ((S.2.1 9 4) - v3).toNatClampNeg)]) (rest := []) C ok_X11_flow bw_1097 dX11_expand_122 (run_X11_flow  (fun _ => h)) rc_Model rfl ⟨Nat.le_of_ble_eq_true rfl, Nat.le_of_ble_eq_true rfl⟩ (Nat.le_of_ble_eq_true rfl) (c2 := 0) (s2 := 0) rfl rfl ⟨Nat.le_of_ble_eq_true rfl, Nat.le_of_ble_eq_true rfl⟩ rfl (fun S60 hp hTg => ?_)
      replace h := hp
      have hT_S60 : S60.2.2.1 = T0 := by rw [hTg]; exact hT
      obtain ⟨x62, e_x62⟩ : ∃ z : Int32, z = v4 + 1 := ⟨_, rfl⟩
      replace h := h x62 e_x62
      refine ww_iinc (v := x62) (lv2 := [(4, .int x62), (0, .ref (gad g 158)), (1, .int n), (2, .int v2), (3, .int v3)]) C dX11_expand_125 4 rfl (by rw [e_x62]; rfl) (Nat.le_of_ble_eq_true rfl) rfl ?_
      refine ww_goto (tgt := 97) C dX11_expand_128 (by decide) ?_
      exact ww_sub [1, 2, 3, 4, 0] rfl (h hT_S60)
set_option maxHeartbeats 4000000 in
set_option maxRecDepth 100000 in
theorem run_X11_expand_131 {f : Fx} {g : Gx} {T0 : List (Nat × Nat × Nat)} {S : St} {n : Int32} {P : St → Prop} (C : Cx f g cX11_expand 5 RX11) (hrt : (fmeth f).sig.returnType = none)   (h : st_X11_expand_131 n P (at_X11_expand_10 f g T0 n P) (at_X11_expand_90 f g T0 n P) (at_X11_expand_91 f g T0 n P) (at_X11_expand_97 f g T0 n P) (at_X11_expand_131 f g T0 n P) (at_X11_expand_134 f g T0 n P) (at_X11_expand_161 f g T0 n P) (at_X11_expand_167 f g T0 n P) (at_X11_expand_184 f g T0 n P) S ) : at_X11_expand_131 f g T0 n P S  := by
  intro hT 
  unfold st_X11_expand_131 at h
  refine ww_goto (tgt := 10) C dX11_expand_131 (by decide) ?_
  exact ww_sub [0, 1] rfl (h hT)
set_option maxHeartbeats 4000000 in
set_option maxRecDepth 100000 in
theorem run_X11_expand_134 {f : Fx} {g : Gx} {T0 : List (Nat × Nat × Nat)} {S : St} {n : Int32} {P : St → Prop} (C : Cx f g cX11_expand 5 RX11) (hrt : (fmeth f).sig.returnType = none)   (h : st_X11_expand_134 n P (at_X11_expand_10 f g T0 n P) (at_X11_expand_90 f g T0 n P) (at_X11_expand_91 f g T0 n P) (at_X11_expand_97 f g T0 n P) (at_X11_expand_131 f g T0 n P) (at_X11_expand_134 f g T0 n P) (at_X11_expand_161 f g T0 n P) (at_X11_expand_167 f g T0 n P) (at_X11_expand_184 f g T0 n P) S ) : at_X11_expand_134 f g T0 n P S  := by
  intro hT 
  unfold st_X11_expand_134 at h
  refine ww_aload_n C dX11_expand_134 0 rfl ?_
  refine gf_Model_bitsLeft C bw_957 dX11_expand_135 ?_
  refine ww_if_le (tgt := 167) C dX11_expand_138 (by decide) (fun q63 => ?_) (fun q63 => ?_)
  · replace h := h.1 q63
    exact ww_sub [0] rfl (h hT)
  · replace h := h.2 q63
    refine ww_aload_n C dX11_expand_141 0 rfl ?_
    refine gf_Model_bad C bw_956 dX11_expand_142 ?_
    refine ww_if_ne (tgt := 167) C dX11_expand_145 (by decide) (fun q64 => ?_) (fun q64 => ?_)
    · replace h := h.1 q64
      exact ww_sub [0] rfl (h hT)
    · replace h := h.2 q64
      refine ww_aload_n C dX11_expand_148 0 rfl ?_
      refine ww_aload_n C dX11_expand_149 0 rfl ?_
      refine ww_cVi (As := []) (rest := [.ref (gad g 158)]) C ok_X11_nextBit bw_1211 dX11_expand_150 (run_X11_nextBit  (fun _ => h)) rc_Model rfl ⟨Nat.le_of_ble_eq_true rfl, Nat.le_of_ble_eq_true rfl⟩ (Nat.le_of_ble_eq_true rfl) (c2 := 0) (s2 := 0) rfl rfl ⟨Nat.le_of_ble_eq_true rfl, Nat.le_of_ble_eq_true rfl⟩ rfl (fun r66 S65 hp hTg => ?_)
      replace h := hp
      have hT_S65 : S65.2.2.1 = T0 := by rw [hTg]; exact hT
      refine ww_if_ne (tgt := 160) C dX11_expand_153 (by decide) (fun q67 => ?_) (fun q67 => ?_)
      · replace h := h.1 q67
        refine ww_iconst (v := 0) C dX11_expand_160 (by decide) ?_
        exact ww_sub [0] rfl (h hT_S65)
      · replace h := h.2 q67
        refine ww_iconst (v := 1) C dX11_expand_156 (by decide) ?_
        refine ww_goto (tgt := 161) C dX11_expand_157 (by decide) ?_
        exact ww_sub [0] rfl (h hT_S65)
set_option maxHeartbeats 4000000 in
set_option maxRecDepth 100000 in
theorem run_X11_expand_161 {f : Fx} {g : Gx} {T0 : List (Nat × Nat × Nat)} {S : St} {n : Int32} {P : St → Prop} (C : Cx f g cX11_expand 5 RX11) (hrt : (fmeth f).sig.returnType = none)  {s0 : Int32} (h : st_X11_expand_161 n P (at_X11_expand_10 f g T0 n P) (at_X11_expand_90 f g T0 n P) (at_X11_expand_91 f g T0 n P) (at_X11_expand_97 f g T0 n P) (at_X11_expand_131 f g T0 n P) (at_X11_expand_134 f g T0 n P) (at_X11_expand_161 f g T0 n P) (at_X11_expand_167 f g T0 n P) (at_X11_expand_184 f g T0 n P) S s0) : at_X11_expand_161 f g T0 n P S s0 := by
  intro hT 
  unfold st_X11_expand_161 at h
  refine ww_cVv (As := [.int s0]) (rest := []) C ok_X11_check bw_1199 dX11_expand_161 (run_X11_check  (fun _ => h)) rc_Model rfl ⟨Nat.le_of_ble_eq_true rfl, Nat.le_of_ble_eq_true rfl⟩ (Nat.le_of_ble_eq_true rfl) (c2 := 0) (s2 := 0) rfl rfl ⟨Nat.le_of_ble_eq_true rfl, Nat.le_of_ble_eq_true rfl⟩ rfl (fun S68 hp hTg => ?_)
  replace h := hp
  have hT_S68 : S68.2.2.1 = T0 := by rw [hTg]; exact hT
  refine ww_goto (tgt := 134) C dX11_expand_164 (by decide) ?_
  exact ww_sub [0] rfl (h hT_S68)
set_option maxHeartbeats 4000000 in
set_option maxRecDepth 100000 in
theorem run_X11_expand_167 {f : Fx} {g : Gx} {T0 : List (Nat × Nat × Nat)} {S : St} {n : Int32} {P : St → Prop} (C : Cx f g cX11_expand 5 RX11) (hrt : (fmeth f).sig.returnType = none)   (h : st_X11_expand_167 n P (at_X11_expand_10 f g T0 n P) (at_X11_expand_90 f g T0 n P) (at_X11_expand_91 f g T0 n P) (at_X11_expand_97 f g T0 n P) (at_X11_expand_131 f g T0 n P) (at_X11_expand_134 f g T0 n P) (at_X11_expand_161 f g T0 n P) (at_X11_expand_167 f g T0 n P) (at_X11_expand_184 f g T0 n P) S ) : at_X11_expand_167 f g T0 n P S  := by
  intro hT 
  unfold st_X11_expand_167 at h
  refine ww_aload_n C dX11_expand_167 0 rfl ?_
  refine ww_aload_n C dX11_expand_168 0 rfl ?_
  refine gf_Model_at C bw_953 dX11_expand_169 ?_
  refine ww_aload_n C dX11_expand_172 0 rfl ?_
  refine gf_Model_end C bw_954 dX11_expand_173 ?_
  refine ww_icmp_ne (tgt := 183) C dX11_expand_176 (by decide) (fun q70 => ?_) (fun q70 => ?_)
  · replace h := h.1 q70
    refine ww_iconst (v := 0) C dX11_expand_183 (by decide) ?_
    exact ww_sub [] rfl (h hT)
  · replace h := h.2 q70
    refine ww_iconst (v := 1) C dX11_expand_179 (by decide) ?_
    refine ww_goto (tgt := 184) C dX11_expand_180 (by decide) ?_
    exact ww_sub [] rfl (h hT)
set_option maxHeartbeats 4000000 in
set_option maxRecDepth 100000 in
theorem run_X11_expand_184 {f : Fx} {g : Gx} {T0 : List (Nat × Nat × Nat)} {S : St} {n : Int32} {P : St → Prop} (C : Cx f g cX11_expand 5 RX11) (hrt : (fmeth f).sig.returnType = none)  {s0 : Int32} (h : st_X11_expand_184 n P (at_X11_expand_10 f g T0 n P) (at_X11_expand_90 f g T0 n P) (at_X11_expand_91 f g T0 n P) (at_X11_expand_97 f g T0 n P) (at_X11_expand_131 f g T0 n P) (at_X11_expand_134 f g T0 n P) (at_X11_expand_161 f g T0 n P) (at_X11_expand_167 f g T0 n P) (at_X11_expand_184 f g T0 n P) S s0) : at_X11_expand_184 f g T0 n P S s0 := by
  intro hT 
  unfold st_X11_expand_184 at h
  refine ww_cVv (As := [.int s0]) (rest := []) C ok_X11_check bw_1199 dX11_expand_184 (run_X11_check  (fun _ => h)) rc_Model rfl ⟨Nat.le_of_ble_eq_true rfl, Nat.le_of_ble_eq_true rfl⟩ (Nat.le_of_ble_eq_true rfl) (c2 := 0) (s2 := 0) rfl rfl ⟨Nat.le_of_ble_eq_true rfl, Nat.le_of_ble_eq_true rfl⟩ rfl (fun S71 hp hTg => ?_)
  replace h := hp
  have hT_S71 : S71.2.2.1 = T0 := by rw [hTg]; exact hT
  exact ww_vret C hrt dX11_expand_187 hT_S71 h
def wp_X11_expand (S : St) (n : Int32) (P : St → Prop) : Prop :=
  ∀ (X10 : St → Prop) (X90 : St → Int32 → Int32 → Prop) (X91 : St → Int32 → Int32 → Int32 → Prop) (X97 : St → Int32 → Int32 → Int32 → Prop) (X131 : St → Prop) (X134 : St → Prop) (X161 : St → Int32 → Prop) (X167 : St → Prop) (X184 : St → Int32 → Prop), (∀ S , st_X11_expand_10 n P X10 X90 X91 X97 X131 X134 X161 X167 X184 S  → X10 S ) → (∀ S v2 v3, st_X11_expand_90 n P X10 X90 X91 X97 X131 X134 X161 X167 X184 S v2 v3 → X90 S v2 v3) → (∀ S v2 v3 s0, st_X11_expand_91 n P X10 X90 X91 X97 X131 X134 X161 X167 X184 S v2 v3 s0 → X91 S v2 v3 s0) → (∀ S v2 v3 v4, st_X11_expand_97 n P X10 X90 X91 X97 X131 X134 X161 X167 X184 S v2 v3 v4 → X97 S v2 v3 v4) → (∀ S , st_X11_expand_131 n P X10 X90 X91 X97 X131 X134 X161 X167 X184 S  → X131 S ) → (∀ S , st_X11_expand_134 n P X10 X90 X91 X97 X131 X134 X161 X167 X184 S  → X134 S ) → (∀ S s0, st_X11_expand_161 n P X10 X90 X91 X97 X131 X134 X161 X167 X184 S s0 → X161 S s0) → (∀ S , st_X11_expand_167 n P X10 X90 X91 X97 X131 X134 X161 X167 X184 S  → X167 S ) → (∀ S s0, st_X11_expand_184 n P X10 X90 X91 X97 X131 X134 X161 X167 X184 S s0 → X184 S s0) → ∀ S73 : St, S73 = stM S 9 12 0 → ∀ S74 : St, S74 = stM S73 9 4 0 → X10 S74
set_option maxHeartbeats 4000000 in
set_option maxRecDepth 100000 in
theorem run_X11_expand {l : Launch} {g : Gx} {S : St} {n : Int32} {P : St → Prop}  (h : rowsLe S → wp_X11_expand S n P) : CMv g l yX11_expand cX11_expand 5 none rm_X11_expand [.ref (gad g 158), .int n] S P := cm_entry (own := RX11) (plainFor_of_name (by decide)) rfl (Nat.le_of_ble_eq_true rfl) rfl (fun hle f hf C hrt => by
  subst hf
  replace h := h hle
  obtain ⟨T0, hT⟩ : ∃ T, S.2.2.1 = T := ⟨_, rfl⟩
  rw [hT]
  replace h := h (at_X11_expand_10 f g T0 n P) (at_X11_expand_90 f g T0 n P) (at_X11_expand_91 f g T0 n P) (at_X11_expand_97 f g T0 n P) (at_X11_expand_131 f g T0 n P) (at_X11_expand_134 f g T0 n P) (at_X11_expand_161 f g T0 n P) (at_X11_expand_167 f g T0 n P) (at_X11_expand_184 f g T0 n P) (fun S  h => run_X11_expand_10 C hrt  h) (fun S v2 v3 h => run_X11_expand_90 C hrt  h) (fun S v2 v3 s0 h => run_X11_expand_91 C hrt  h) (fun S v2 v3 v4 h => run_X11_expand_97 C hrt  h) (fun S  h => run_X11_expand_131 C hrt  h) (fun S  h => run_X11_expand_134 C hrt  h) (fun S s0 h => run_X11_expand_161 C hrt  h) (fun S  h => run_X11_expand_167 C hrt  h) (fun S s0 h => run_X11_expand_184 C hrt  h)
  refine ww_aload_n C dX11_expand_0 0 rfl ?_
  refine ww_iconst (v := 0) C dX11_expand_1 (by decide) ?_
  refine pf_Model_bitsLeft C bw_957 dX11_expand_2 ?_
  refine ww_nm (fun S73 e_S73 => ?_)
  replace h := h S73 e_S73
  have hT_S73 : S73.2.2.1 = T0 := by rw [e_S73]; exact hT
  refine ww_aload_n C dX11_expand_5 0 rfl ?_
  refine ww_iconst (v := 0) C dX11_expand_6 (by decide) ?_
  refine pf_Model_streamed C bw_947 dX11_expand_7 ?_
  refine ww_nm (fun S74 e_S74 => ?_)
  replace h := h S74 e_S74
  have hT_S74 : S74.2.2.1 = T0 := by rw [e_S74]; exact hT_S73
  exact ww_sub [0, 1] rfl (h hT_S74))
