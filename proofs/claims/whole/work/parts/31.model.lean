abbrev rm_X11_lay : Room := { frames := 0, cells := 0, slots := 0, locals := 0 }
theorem ok_X11_lay : MOK yX11_lay RX11 cX11_lay 2 none 1 := ⟨bw_1130, bw_29, bw_69, bw_1131, by decide +kernel⟩
def wp_X11_lay (S : St) (b : Int32) (P : St → Prop) : Prop :=
  (vp_in (S.2.1 9 5) (gw_ml 21) ∧ ∀ S3 : St, S3 = stM S 31 (S.2.1 9 5).toNatClampNeg (b &&& 255) → ∀ S4 : St, S4 = stM S3 9 5 ((S3.2.1 9 5) + 1) → P S4)
set_option maxHeartbeats 4000000 in
set_option maxRecDepth 100000 in
theorem run_X11_lay {l : Launch} {g : Gx} {S : St} {b : Int32} {P : St → Prop}  (h : rowsLe S → wp_X11_lay S b P) : CMv g l yX11_lay cX11_lay 2 none rm_X11_lay [.ref (gad g 158), .int b] S P := cm_entry (own := RX11) (plainFor_of_name (by decide)) rfl (Nat.le_of_ble_eq_true rfl) rfl (fun hle f hf C hrt => by
  subst hf
  replace h := h hle
  obtain ⟨T0, hT⟩ : ∃ T, S.2.2.1 = T := ⟨_, rfl⟩
  rw [hT]
  unfold wp_X11_lay at h
  refine ww_aload_n C dX11_lay_0 0 rfl ?_
  refine gf_Model_part C bw_950 dX11_lay_1 ?_
  refine ww_aload_n C dX11_lay_4 0 rfl ?_
  refine gf_Model_parted C bw_949 dX11_lay_5 ?_
  refine ww_iload_n C dX11_lay_8 1 rfl ?_
  refine ww_sipush (v := 255) C dX11_lay_9 (by decide) ?_
  refine ww_iand C dX11_lay_12 ?_
  refine is_m (a := 21) C (by decide) (by decide) h.1 dX11_lay_13 ?_
  replace h := h.2
  refine ww_nm (fun S3 e_S3 => ?_)
  replace h := h S3 e_S3
  have hT_S3 : S3.2.2.1 = T0 := by rw [e_S3]; exact hT
  refine ww_aload_n C dX11_lay_14 0 rfl ?_
  refine ww_dup C dX11_lay_15 rfl ?_
  refine gf_Model_parted C bw_949 dX11_lay_16 ?_
  refine ww_iconst (v := 1) C dX11_lay_19 (by decide) ?_
  refine ww_iadd C dX11_lay_20 ?_
  refine pf_Model_parted C bw_949 dX11_lay_21 ?_
  refine ww_nm (fun S4 e_S4 => ?_)
  replace h := h S4 e_S4
  have hT_S4 : S4.2.2.1 = T0 := by rw [e_S4]; exact hT_S3
  exact ww_vret C hrt dX11_lay_24 hT_S4 h)
abbrev rm_X11_stepX : Room := { frames := 0, cells := 0, slots := 0, locals := 0 }
theorem ok_X11_stepX : MOK yX11_stepX RX11 cX11_stepX 3 (some .int) 2 := ⟨bw_1111, bw_25, bw_69, bw_1112, by decide +kernel⟩
def wp_X11_stepX_32 (q : Int32) (p : Int32) (S : St) (s0 : Int32) (s1 : Int32) (P : Int32 → St → Prop) : Prop :=
  P (s1 - s0) S
set_option maxHeartbeats 4000000 in
set_option maxRecDepth 100000 in
theorem run_X11_stepX_32 {f : Fx} {g : Gx} {T0 : List (Nat × Nat × Nat)} {S : St} {q : Int32} {p : Int32} {P : Int32 → St → Prop} (C : Cx f g cX11_stepX 3 RX11) (hrt : (fmeth f).sig.returnType = (some .int))  {s0 : Int32} {s1 : Int32} (hT : S.2.2.1 = T0)  (h : wp_X11_stepX_32 q p S s0 s1 P) : WW f rm_X11_stepX g 3 0 0 (Qi f g 0 0 T0 P) S 32 [] [.int s0, .int s1] := by
  unfold wp_X11_stepX_32 at h
  refine ww_isub C dX11_stepX_32 ?_
  exact ww_iret C hrt dX11_stepX_33 hT h
def wp_X11_stepX (S : St) (q : Int32) (p : Int32) (P : Int32 → St → Prop) : Prop :=
  (vp_in ((16 * q) + p) (gw_ml 3) ∧ ((p ≤ 0 → wp_X11_stepX_32 q p S 0 (S.2.1 13 ((16 * q) + p).toNatClampNeg) P) ∧ (¬ p ≤ 0 → (vp_in (((16 * q) + p) - 1) (gw_ml 3) ∧ wp_X11_stepX_32 q p S (S.2.1 13 (((16 * q) + p) - 1).toNatClampNeg) (S.2.1 13 ((16 * q) + p).toNatClampNeg) P))))
set_option maxHeartbeats 4000000 in
set_option maxRecDepth 100000 in
theorem run_X11_stepX {l : Launch} {g : Gx} {S : St} {q : Int32} {p : Int32} {P : Int32 → St → Prop}  (h : rowsLe S → wp_X11_stepX S q p P) : CMi g l yX11_stepX cX11_stepX 3 (some .int) rm_X11_stepX [.ref (gad g 158), .int q, .int p] S P := cm_entry (own := RX11) (plainFor_of_name (by decide)) rfl (Nat.le_of_ble_eq_true rfl) rfl (fun hle f hf C hrt => by
  subst hf
  replace h := h hle
  obtain ⟨T0, hT⟩ : ∃ T, S.2.2.1 = T := ⟨_, rfl⟩
  rw [hT]
  unfold wp_X11_stepX at h
  refine ww_aload_n C dX11_stepX_0 0 rfl ?_
  refine gf_Model_px C bw_928 dX11_stepX_1 ?_
  refine ww_bipush (v := 16) C dX11_stepX_4 (by decide) ?_
  refine ww_iload_n C dX11_stepX_6 1 rfl ?_
  refine ww_imul C dX11_stepX_7 ?_
  refine ww_iload_n C dX11_stepX_8 2 rfl ?_
  refine ww_iadd C dX11_stepX_9 ?_
  refine ia_m (a := 3) C (by decide) (by decide) h.1 dX11_stepX_10 ?_
  replace h := h.2
  refine ww_iload_n C dX11_stepX_11 2 rfl ?_
  refine ww_if_le (tgt := 31) C dX11_stepX_12 (by decide) (fun q2 => ?_) (fun q2 => ?_)
  · replace h := h.1 q2
    refine ww_iconst (v := 0) C dX11_stepX_31 (by decide) ?_
    exact ww_sub [] rfl (run_X11_stepX_32 C hrt  hT  h)
  · replace h := h.2 q2
    refine ww_aload_n C dX11_stepX_15 0 rfl ?_
    refine gf_Model_px C bw_928 dX11_stepX_16 ?_
    refine ww_bipush (v := 16) C dX11_stepX_19 (by decide) ?_
    refine ww_iload_n C dX11_stepX_21 1 rfl ?_
    refine ww_imul C dX11_stepX_22 ?_
    refine ww_iload_n C dX11_stepX_23 2 rfl ?_
    refine ww_iadd C dX11_stepX_24 ?_
    refine ww_iconst (v := 1) C dX11_stepX_25 (by decide) ?_
    refine ww_isub C dX11_stepX_26 ?_
    refine ia_m (a := 3) C (by decide) (by decide) h.1 dX11_stepX_27 ?_
    replace h := h.2
    refine ww_goto (tgt := 32) C dX11_stepX_28 (by decide) ?_
    exact ww_sub [] rfl (run_X11_stepX_32 C hrt  hT  h))
abbrev rm_X11_stepY : Room := { frames := 0, cells := 0, slots := 0, locals := 0 }
theorem ok_X11_stepY : MOK yX11_stepY RX11 cX11_stepY 3 (some .int) 2 := ⟨bw_1115, bw_26, bw_69, bw_1116, by decide +kernel⟩
def wp_X11_stepY_32 (q : Int32) (p : Int32) (S : St) (s0 : Int32) (s1 : Int32) (P : Int32 → St → Prop) : Prop :=
  P (s1 - s0) S
set_option maxHeartbeats 4000000 in
set_option maxRecDepth 100000 in
theorem run_X11_stepY_32 {f : Fx} {g : Gx} {T0 : List (Nat × Nat × Nat)} {S : St} {q : Int32} {p : Int32} {P : Int32 → St → Prop} (C : Cx f g cX11_stepY 3 RX11) (hrt : (fmeth f).sig.returnType = (some .int))  {s0 : Int32} {s1 : Int32} (hT : S.2.2.1 = T0)  (h : wp_X11_stepY_32 q p S s0 s1 P) : WW f rm_X11_stepY g 3 0 0 (Qi f g 0 0 T0 P) S 32 [] [.int s0, .int s1] := by
  unfold wp_X11_stepY_32 at h
  refine ww_isub C dX11_stepY_32 ?_
  exact ww_iret C hrt dX11_stepY_33 hT h
def wp_X11_stepY (S : St) (q : Int32) (p : Int32) (P : Int32 → St → Prop) : Prop :=
  (vp_in ((16 * q) + p) (gw_ml 4) ∧ ((p ≤ 0 → wp_X11_stepY_32 q p S 0 (S.2.1 14 ((16 * q) + p).toNatClampNeg) P) ∧ (¬ p ≤ 0 → (vp_in (((16 * q) + p) - 1) (gw_ml 4) ∧ wp_X11_stepY_32 q p S (S.2.1 14 (((16 * q) + p) - 1).toNatClampNeg) (S.2.1 14 ((16 * q) + p).toNatClampNeg) P))))
set_option maxHeartbeats 4000000 in
set_option maxRecDepth 100000 in
theorem run_X11_stepY {l : Launch} {g : Gx} {S : St} {q : Int32} {p : Int32} {P : Int32 → St → Prop}  (h : rowsLe S → wp_X11_stepY S q p P) : CMi g l yX11_stepY cX11_stepY 3 (some .int) rm_X11_stepY [.ref (gad g 158), .int q, .int p] S P := cm_entry (own := RX11) (plainFor_of_name (by decide)) rfl (Nat.le_of_ble_eq_true rfl) rfl (fun hle f hf C hrt => by
  subst hf
  replace h := h hle
  obtain ⟨T0, hT⟩ : ∃ T, S.2.2.1 = T := ⟨_, rfl⟩
  rw [hT]
  unfold wp_X11_stepY at h
  refine ww_aload_n C dX11_stepY_0 0 rfl ?_
  refine gf_Model_py C bw_929 dX11_stepY_1 ?_
  refine ww_bipush (v := 16) C dX11_stepY_4 (by decide) ?_
  refine ww_iload_n C dX11_stepY_6 1 rfl ?_
  refine ww_imul C dX11_stepY_7 ?_
  refine ww_iload_n C dX11_stepY_8 2 rfl ?_
  refine ww_iadd C dX11_stepY_9 ?_
  refine ia_m (a := 4) C (by decide) (by decide) h.1 dX11_stepY_10 ?_
  replace h := h.2
  refine ww_iload_n C dX11_stepY_11 2 rfl ?_
  refine ww_if_le (tgt := 31) C dX11_stepY_12 (by decide) (fun q2 => ?_) (fun q2 => ?_)
  · replace h := h.1 q2
    refine ww_iconst (v := 0) C dX11_stepY_31 (by decide) ?_
    exact ww_sub [] rfl (run_X11_stepY_32 C hrt  hT  h)
  · replace h := h.2 q2
    refine ww_aload_n C dX11_stepY_15 0 rfl ?_
    refine gf_Model_py C bw_929 dX11_stepY_16 ?_
    refine ww_bipush (v := 16) C dX11_stepY_19 (by decide) ?_
    refine ww_iload_n C dX11_stepY_21 1 rfl ?_
    refine ww_imul C dX11_stepY_22 ?_
    refine ww_iload_n C dX11_stepY_23 2 rfl ?_
    refine ww_iadd C dX11_stepY_24 ?_
    refine ww_iconst (v := 1) C dX11_stepY_25 (by decide) ?_
    refine ww_isub C dX11_stepY_26 ?_
    refine ia_m (a := 4) C (by decide) (by decide) h.1 dX11_stepY_27 ?_
    replace h := h.2
    refine ww_goto (tgt := 32) C dX11_stepY_28 (by decide) ?_
    exact ww_sub [] rfl (run_X11_stepY_32 C hrt  hT  h))
abbrev rm_X11_flag : Room := { frames := 1, cells := 0, slots := 0, locals := 22 }
theorem ok_X11_flag : MOK yX11_flag RX11 cX11_flag 6 (some .int) 2 := ⟨bw_1138, bw_31, bw_69, bw_1139, by decide +kernel⟩
def wp_X11_flag_117 (q : Int32) (p : Int32) (S : St) (v5 : Int32) (P : Int32 → St → Prop) : Prop :=
  P v5 S
set_option maxHeartbeats 4000000 in
set_option maxRecDepth 100000 in
theorem run_X11_flag_117 {f : Fx} {g : Gx} {T0 : List (Nat × Nat × Nat)} {S : St} {q : Int32} {p : Int32} {P : Int32 → St → Prop} (C : Cx f g cX11_flag 6 RX11) (hrt : (fmeth f).sig.returnType = (some .int))  {v5 : Int32} (hT : S.2.2.1 = T0)  (h : wp_X11_flag_117 q p S v5 P) : WW f rm_X11_flag g 6 0 0 (Qi f g 0 0 T0 P) S 117 [(5, .int v5)] [] := by
  unfold wp_X11_flag_117 at h
  refine ww_iload C dX11_flag_117 0 rfl ?_
  exact ww_iret C hrt dX11_flag_119 hT h
def wp_X11_flag_114 (q : Int32) (p : Int32) (S : St) (s0 : Int32) (s1 : Int32) (P : Int32 → St → Prop) : Prop :=
  ∀ x16 : Int32, x16 = s1 + s0 → wp_X11_flag_117 q p S x16 P
set_option maxHeartbeats 4000000 in
set_option maxRecDepth 100000 in
theorem run_X11_flag_114 {f : Fx} {g : Gx} {T0 : List (Nat × Nat × Nat)} {S : St} {q : Int32} {p : Int32} {P : Int32 → St → Prop} (C : Cx f g cX11_flag 6 RX11) (hrt : (fmeth f).sig.returnType = (some .int))  {s0 : Int32} {s1 : Int32} (hT : S.2.2.1 = T0)  (h : wp_X11_flag_114 q p S s0 s1 P) : WW f rm_X11_flag g 6 0 0 (Qi f g 0 0 T0 P) S 114 [] [.int s0, .int s1] := by
  unfold wp_X11_flag_114 at h
  refine ww_iadd C dX11_flag_114 ?_
  refine ww_topi (fun x16 e_x16 => ?_)
  replace h := h x16 e_x16
  refine ww_istore (lv2 := [(5, .int x16)]) C dX11_flag_115 (Nat.le_of_ble_eq_true rfl) rfl ?_
  exact ww_sub [0] rfl (run_X11_flag_117 C hrt  hT  h)
def wp_X11_flag_75 (q : Int32) (p : Int32) (S : St) (v4 : Int32) (v5 : Int32) (P : Int32 → St → Prop) : Prop :=
  ((¬ v4 = 0 → ((256 ≤ (fv_X11_abs S v4) → wp_X11_flag_117 q p S v5 P) ∧ (¬ 256 ≤ (fv_X11_abs S v4) → ((v4 ≤ 0 → wp_X11_flag_114 q p S 4 v5 P) ∧ (¬ v4 ≤ 0 → wp_X11_flag_114 q p S 36 v5 P))))) ∧ (v4 = 0 → ∀ x20 : Int32, x20 = v5 + 32 → wp_X11_flag_117 q p S x20 P))
set_option maxHeartbeats 4000000 in
set_option maxRecDepth 100000 in
theorem run_X11_flag_75 {f : Fx} {g : Gx} {T0 : List (Nat × Nat × Nat)} {S : St} {q : Int32} {p : Int32} {P : Int32 → St → Prop} (C : Cx f g cX11_flag 6 RX11) (hrt : (fmeth f).sig.returnType = (some .int))  {v4 : Int32} {v5 : Int32} (hT : S.2.2.1 = T0)  (h : wp_X11_flag_75 q p S v4 v5 P) : WW f rm_X11_flag g 6 0 0 (Qi f g 0 0 T0 P) S 75 [(4, .int v4), (5, .int v5)] [] := by
  unfold wp_X11_flag_75 at h
  refine ww_iload C dX11_flag_75 0 rfl ?_
  refine ww_if_ne (tgt := 90) C dX11_flag_77 (by decide) (fun q17 => ?_) (fun q17 => ?_)
  · replace h := h.1 q17
    refine ww_iload C dX11_flag_90 0 rfl ?_
    refine ww_cSf (As := [.int v4]) (rest := []) C ok_X11_abs bw_1117 dX11_flag_92 cm_X11_abs rfl ⟨Nat.le_of_ble_eq_true rfl, Nat.le_of_ble_eq_true rfl⟩ (Nat.le_of_ble_eq_true rfl) (c2 := 0) (s2 := 0) rfl rfl ⟨Nat.le_of_ble_eq_true rfl, Nat.le_of_ble_eq_true rfl⟩ rfl ?_
    refine ww_sipush (v := 256) C dX11_flag_95 (by decide) ?_
    refine ww_icmp_ge (tgt := 117) C dX11_flag_98 (by decide) (fun q18 => ?_) (fun q18 => ?_)
    · replace h := h.1 q18
      exact ww_sub [1] rfl (run_X11_flag_117 C hrt  hT  h)
    · replace h := h.2 q18
      refine ww_iload C dX11_flag_101 1 rfl ?_
      refine ww_iload C dX11_flag_103 0 rfl ?_
      refine ww_if_le (tgt := 113) C dX11_flag_105 (by decide) (fun q19 => ?_) (fun q19 => ?_)
      · replace h := h.1 q19
        refine ww_iconst (v := 4) C dX11_flag_113 (by decide) ?_
        exact ww_sub [] rfl (run_X11_flag_114 C hrt  hT  h)
      · replace h := h.2 q19
        refine ww_bipush (v := 36) C dX11_flag_108 (by decide) ?_
        refine ww_goto (tgt := 114) C dX11_flag_110 (by decide) ?_
        exact ww_sub [] rfl (run_X11_flag_114 C hrt  hT  h)
  · replace h := h.2 q17
    refine ww_iload C dX11_flag_80 1 rfl ?_
    refine ww_bipush (v := 32) C dX11_flag_82 (by decide) ?_
    refine ww_iadd C dX11_flag_84 ?_
    refine ww_topi (fun x20 e_x20 => ?_)
    replace h := h x20 e_x20
    refine ww_istore (lv2 := [(5, .int x20), (4, .int v4)]) C dX11_flag_85 (Nat.le_of_ble_eq_true rfl) rfl ?_
    refine ww_goto (tgt := 117) C dX11_flag_87 (by decide) ?_
    exact ww_sub [0] rfl (run_X11_flag_117 C hrt  hT  h)
def wp_X11_flag_72 (q : Int32) (p : Int32) (S : St) (v4 : Int32) (s0 : Int32) (s1 : Int32) (P : Int32 → St → Prop) : Prop :=
  ∀ x21 : Int32, x21 = s1 + s0 → wp_X11_flag_75 q p S v4 x21 P
set_option maxHeartbeats 4000000 in
set_option maxRecDepth 100000 in
theorem run_X11_flag_72 {f : Fx} {g : Gx} {T0 : List (Nat × Nat × Nat)} {S : St} {q : Int32} {p : Int32} {P : Int32 → St → Prop} (C : Cx f g cX11_flag 6 RX11) (hrt : (fmeth f).sig.returnType = (some .int))  {v4 : Int32} {s0 : Int32} {s1 : Int32} (hT : S.2.2.1 = T0)  (h : wp_X11_flag_72 q p S v4 s0 s1 P) : WW f rm_X11_flag g 6 0 0 (Qi f g 0 0 T0 P) S 72 [(4, .int v4)] [.int s0, .int s1] := by
  unfold wp_X11_flag_72 at h
  refine ww_iadd C dX11_flag_72 ?_
  refine ww_topi (fun x21 e_x21 => ?_)
  replace h := h x21 e_x21
  refine ww_istore (lv2 := [(5, .int x21), (4, .int v4)]) C dX11_flag_73 (Nat.le_of_ble_eq_true rfl) rfl ?_
  exact ww_sub [1, 0] rfl (run_X11_flag_75 C hrt  hT  h)
def wp_X11_flag_34 (q : Int32) (p : Int32) (S : St) (v3 : Int32) (v4 : Int32) (s0 : Int32) (P : Int32 → St → Prop) : Prop :=
  ((¬ v3 = 0 → ((256 ≤ (fv_X11_abs S v3) → wp_X11_flag_75 q p S v4 s0 P) ∧ (¬ 256 ≤ (fv_X11_abs S v3) → ((v3 ≤ 0 → wp_X11_flag_72 q p S v4 2 s0 P) ∧ (¬ v3 ≤ 0 → wp_X11_flag_72 q p S v4 18 s0 P))))) ∧ (v3 = 0 → ∀ x25 : Int32, x25 = s0 + 16 → wp_X11_flag_75 q p S v4 x25 P))
set_option maxHeartbeats 4000000 in
set_option maxRecDepth 100000 in
theorem run_X11_flag_34 {f : Fx} {g : Gx} {T0 : List (Nat × Nat × Nat)} {S : St} {q : Int32} {p : Int32} {P : Int32 → St → Prop} (C : Cx f g cX11_flag 6 RX11) (hrt : (fmeth f).sig.returnType = (some .int))  {v3 : Int32} {v4 : Int32} {s0 : Int32} (hT : S.2.2.1 = T0)  (h : wp_X11_flag_34 q p S v3 v4 s0 P) : WW f rm_X11_flag g 6 0 0 (Qi f g 0 0 T0 P) S 34 [(3, .int v3), (4, .int v4)] [.int s0] := by
  unfold wp_X11_flag_34 at h
  refine ww_istore (lv2 := [(5, .int s0), (3, .int v3), (4, .int v4)]) C dX11_flag_34 (Nat.le_of_ble_eq_true rfl) rfl ?_
  refine ww_iload_n C dX11_flag_36 1 rfl ?_
  refine ww_if_ne (tgt := 50) C dX11_flag_37 (by decide) (fun q22 => ?_) (fun q22 => ?_)
  · replace h := h.1 q22
    refine ww_iload_n C dX11_flag_50 1 rfl ?_
    refine ww_cSf (As := [.int v3]) (rest := []) C ok_X11_abs bw_1117 dX11_flag_51 cm_X11_abs rfl ⟨Nat.le_of_ble_eq_true rfl, Nat.le_of_ble_eq_true rfl⟩ (Nat.le_of_ble_eq_true rfl) (c2 := 0) (s2 := 0) rfl rfl ⟨Nat.le_of_ble_eq_true rfl, Nat.le_of_ble_eq_true rfl⟩ rfl ?_
    refine ww_sipush (v := 256) C dX11_flag_54 (by decide) ?_
    refine ww_icmp_ge (tgt := 75) C dX11_flag_57 (by decide) (fun q23 => ?_) (fun q23 => ?_)
    · replace h := h.1 q23
      exact ww_sub [2, 0] rfl (run_X11_flag_75 C hrt  hT  h)
    · replace h := h.2 q23
      refine ww_iload C dX11_flag_60 0 rfl ?_
      refine ww_iload_n C dX11_flag_62 1 rfl ?_
      refine ww_if_le (tgt := 71) C dX11_flag_63 (by decide) (fun q24 => ?_) (fun q24 => ?_)
      · replace h := h.1 q24
        refine ww_iconst (v := 2) C dX11_flag_71 (by decide) ?_
        exact ww_sub [2] rfl (run_X11_flag_72 C hrt  hT  h)
      · replace h := h.2 q24
        refine ww_bipush (v := 18) C dX11_flag_66 (by decide) ?_
        refine ww_goto (tgt := 72) C dX11_flag_68 (by decide) ?_
        exact ww_sub [2] rfl (run_X11_flag_72 C hrt  hT  h)
  · replace h := h.2 q22
    refine ww_iload C dX11_flag_40 0 rfl ?_
    refine ww_bipush (v := 16) C dX11_flag_42 (by decide) ?_
    refine ww_iadd C dX11_flag_44 ?_
    refine ww_topi (fun x25 e_x25 => ?_)
    replace h := h x25 e_x25
    refine ww_istore (lv2 := [(5, .int x25), (3, .int v3), (4, .int v4)]) C dX11_flag_45 (Nat.le_of_ble_eq_true rfl) rfl ?_
    refine ww_goto (tgt := 75) C dX11_flag_47 (by decide) ?_
    exact ww_sub [2, 0] rfl (run_X11_flag_75 C hrt  hT  h)
def wp_X11_flag (S : St) (q : Int32) (p : Int32) (P : Int32 → St → Prop) : Prop :=
  wp_X11_stepX S q p (fun r27 S26 => wp_X11_stepY S26 q p (fun r29 S28 => (vp_in ((16 * q) + p) (gw_ml 5) ∧ (((S28.2.1 15 ((16 * q) + p).toNatClampNeg) = 0 → wp_X11_flag_34 q p S28 r27 r29 0 P) ∧ (¬ (S28.2.1 15 ((16 * q) + p).toNatClampNeg) = 0 → wp_X11_flag_34 q p S28 r27 r29 1 P)))))
set_option maxHeartbeats 4000000 in
set_option maxRecDepth 100000 in
theorem run_X11_flag {l : Launch} {g : Gx} {S : St} {q : Int32} {p : Int32} {P : Int32 → St → Prop}  (h : rowsLe S → wp_X11_flag S q p P) : CMi g l yX11_flag cX11_flag 6 (some .int) rm_X11_flag [.ref (gad g 158), .int q, .int p] S P := cm_entry (own := RX11) (plainFor_of_name (by decide)) rfl (Nat.le_of_ble_eq_true rfl) rfl (fun hle f hf C hrt => by
  subst hf
  replace h := h hle
  obtain ⟨T0, hT⟩ : ∃ T, S.2.2.1 = T := ⟨_, rfl⟩
  rw [hT]
  unfold wp_X11_flag at h
  refine ww_aload_n C dX11_flag_0 0 rfl ?_
  refine ww_iload_n C dX11_flag_1 1 rfl ?_
  refine ww_iload_n C dX11_flag_2 2 rfl ?_
  refine ww_cVi (As := [.int q, .int p]) (rest := []) C ok_X11_stepX bw_1109 dX11_flag_3 (run_X11_stepX  (fun _ => h)) rc_Model rfl ⟨Nat.le_of_ble_eq_true rfl, Nat.le_of_ble_eq_true rfl⟩ (Nat.le_of_ble_eq_true rfl) (c2 := 0) (s2 := 0) rfl rfl ⟨Nat.le_of_ble_eq_true rfl, Nat.le_of_ble_eq_true rfl⟩ rfl (fun r27 S26 hp hTg => ?_)
  replace h := hp
  have hT_S26 : S26.2.2.1 = T0 := by rw [hTg]; exact hT
  refine ww_istore_n (lv2 := [(3, .int r27), (0, .ref (gad g 158)), (1, .int q), (2, .int p)]) C dX11_flag_6 rfl (Nat.le_of_ble_eq_true rfl) rfl ?_
  refine ww_aload_n C dX11_flag_7 1 rfl ?_
  refine ww_iload_n C dX11_flag_8 2 rfl ?_
  refine ww_iload_n C dX11_flag_9 3 rfl ?_
  refine ww_cVi (As := [.int q, .int p]) (rest := []) C ok_X11_stepY bw_1113 dX11_flag_10 (run_X11_stepY  (fun _ => h)) rc_Model rfl ⟨Nat.le_of_ble_eq_true rfl, Nat.le_of_ble_eq_true rfl⟩ (Nat.le_of_ble_eq_true rfl) (c2 := 0) (s2 := 0) rfl rfl ⟨Nat.le_of_ble_eq_true rfl, Nat.le_of_ble_eq_true rfl⟩ rfl (fun r29 S28 hp hTg => ?_)
  replace h := hp
  have hT_S28 : S28.2.2.1 = T0 := by rw [hTg]; exact hT_S26
  refine ww_istore (lv2 := [(4, .int r29), (3, .int r27), (0, .ref (gad g 158)), (1, .int q), (2, .int p)]) C dX11_flag_13 (Nat.le_of_ble_eq_true rfl) rfl ?_
  refine ww_aload_n C dX11_flag_15 2 rfl ?_
  refine gf_Model_on C bw_930 dX11_flag_16 ?_
  refine ww_bipush (v := 16) C dX11_flag_19 (by decide) ?_
  refine ww_iload_n C dX11_flag_21 3 rfl ?_
  refine ww_imul C dX11_flag_22 ?_
  refine ww_iload_n C dX11_flag_23 4 rfl ?_
  refine ww_iadd C dX11_flag_24 ?_
  refine ia_on C h.1 dX11_flag_25 ?_
  replace h := h.2
  refine ww_if_eq (tgt := 33) C dX11_flag_26 (by decide) (fun q30 => ?_) (fun q30 => ?_)
  · replace h := h.1 q30
    refine ww_iconst (v := 0) C dX11_flag_33 (by decide) ?_
    exact ww_sub [1, 0] rfl (run_X11_flag_34 C hrt  hT_S28  h)
  · replace h := h.2 q30
    refine ww_iconst (v := 1) C dX11_flag_29 (by decide) ?_
    refine ww_goto (tgt := 34) C dX11_flag_30 (by decide) ?_
    exact ww_sub [1, 0] rfl (run_X11_flag_34 C hrt  hT_S28  h))
abbrev rm_X11_layStep : Room := { frames := 1, cells := 0, slots := 0, locals := 21 }
theorem ok_X11_layStep : MOK yX11_layStep RX11 cX11_layStep 2 none 1 := ⟨bw_1142, bw_32, bw_69, bw_1143, by decide +kernel⟩
def wp_X11_layStep_42 (d : Int32) (S : St) (s0 : Int32) (P : St → Prop) : Prop :=
  wp_X11_lay S s0 (fun S8 => P S8)
set_option maxHeartbeats 4000000 in
set_option maxRecDepth 100000 in
theorem run_X11_layStep_42 {f : Fx} {g : Gx} {T0 : List (Nat × Nat × Nat)} {S : St} {d : Int32} {P : St → Prop} (C : Cx f g cX11_layStep 2 RX11) (hrt : (fmeth f).sig.returnType = none)  {s0 : Int32} (hT : S.2.2.1 = T0)  (h : wp_X11_layStep_42 d S s0 P) : WW f rm_X11_layStep g 2 0 0 (Qv f g 0 0 T0 P) S 42 [] [.int s0, .ref (gad g 158)] := by
  unfold wp_X11_layStep_42 at h
  refine ww_cVv (As := [.int s0]) (rest := []) C ok_X11_lay bw_1128 dX11_layStep_42 (run_X11_lay  (fun _ => h)) rc_Model rfl ⟨Nat.le_of_ble_eq_true rfl, Nat.le_of_ble_eq_true rfl⟩ (Nat.le_of_ble_eq_true rfl) (c2 := 0) (s2 := 0) rfl rfl ⟨Nat.le_of_ble_eq_true rfl, Nat.le_of_ble_eq_true rfl⟩ rfl (fun S8 hp hTg => ?_)
  replace h := hp
  have hT_S8 : S8.2.2.1 = T0 := by rw [hTg]; exact hT
  exact ww_vret C hrt dX11_layStep_45 hT_S8 h
def wp_X11_layStep_23 (d : Int32) (S : St)  (P : St → Prop) : Prop :=
  (((fv_X11_abs S d) ≤ 255 → wp_X11_layStep_42 d S (fv_X11_abs S d) P) ∧ (¬ (fv_X11_abs S d) ≤ 255 → wp_X11_layStep_42 d S d P))
set_option maxHeartbeats 4000000 in
set_option maxRecDepth 100000 in
theorem run_X11_layStep_23 {f : Fx} {g : Gx} {T0 : List (Nat × Nat × Nat)} {S : St} {d : Int32} {P : St → Prop} (C : Cx f g cX11_layStep 2 RX11) (hrt : (fmeth f).sig.returnType = none)   (hT : S.2.2.1 = T0)  (h : wp_X11_layStep_23 d S  P) : WW f rm_X11_layStep g 2 0 0 (Qv f g 0 0 T0 P) S 23 [(0, .ref (gad g 158)), (1, .int d)] [] := by
  unfold wp_X11_layStep_23 at h
  refine ww_aload_n C dX11_layStep_23 0 rfl ?_
  refine ww_iload_n C dX11_layStep_24 1 rfl ?_
  refine ww_cSf (As := [.int d]) (rest := [.ref (gad g 158)]) C ok_X11_abs bw_1117 dX11_layStep_25 cm_X11_abs rfl ⟨Nat.le_of_ble_eq_true rfl, Nat.le_of_ble_eq_true rfl⟩ (Nat.le_of_ble_eq_true rfl) (c2 := 0) (s2 := 0) rfl rfl ⟨Nat.le_of_ble_eq_true rfl, Nat.le_of_ble_eq_true rfl⟩ rfl ?_
  refine ww_sipush (v := 255) C dX11_layStep_28 (by decide) ?_
  refine ww_icmp_le (tgt := 38) C dX11_layStep_31 (by decide) (fun q10 => ?_) (fun q10 => ?_)
  · replace h := h.1 q10
    refine ww_iload_n C dX11_layStep_38 1 rfl ?_
    refine ww_cSf (As := [.int d]) (rest := [.ref (gad g 158)]) C ok_X11_abs bw_1117 dX11_layStep_39 cm_X11_abs rfl ⟨Nat.le_of_ble_eq_true rfl, Nat.le_of_ble_eq_true rfl⟩ (Nat.le_of_ble_eq_true rfl) (c2 := 0) (s2 := 0) rfl rfl ⟨Nat.le_of_ble_eq_true rfl, Nat.le_of_ble_eq_true rfl⟩ rfl ?_
    exact ww_sub [] rfl (run_X11_layStep_42 C hrt  hT  h)
  · replace h := h.2 q10
    refine ww_iload_n C dX11_layStep_34 1 rfl ?_
    refine ww_goto (tgt := 42) C dX11_layStep_35 (by decide) ?_
    exact ww_sub [] rfl (run_X11_layStep_42 C hrt  hT  h)
def wp_X11_layStep (S : St) (d : Int32) (P : St → Prop) : Prop :=
  ((¬ d = 0 → (((fv_X11_abs S d) ≤ 255 → wp_X11_layStep_23 d S  P) ∧ (¬ (fv_X11_abs S d) ≤ 255 → wp_X11_lay S (d >>> (8 &&& 31)) (fun S13 => wp_X11_layStep_23 d S13  P)))) ∧ (d = 0 → P S))
set_option maxHeartbeats 4000000 in
set_option maxRecDepth 100000 in
theorem run_X11_layStep {l : Launch} {g : Gx} {S : St} {d : Int32} {P : St → Prop}  (h : rowsLe S → wp_X11_layStep S d P) : CMv g l yX11_layStep cX11_layStep 2 none rm_X11_layStep [.ref (gad g 158), .int d] S P := cm_entry (own := RX11) (plainFor_of_name (by decide)) rfl (Nat.le_of_ble_eq_true rfl) rfl (fun hle f hf C hrt => by
  subst hf
  replace h := h hle
  obtain ⟨T0, hT⟩ : ∃ T, S.2.2.1 = T := ⟨_, rfl⟩
  rw [hT]
  unfold wp_X11_layStep at h
  refine ww_iload_n C dX11_layStep_0 1 rfl ?_
  refine ww_if_ne (tgt := 5) C dX11_layStep_1 (by decide) (fun q11 => ?_) (fun q11 => ?_)
  · replace h := h.1 q11
    refine ww_iload_n C dX11_layStep_5 1 rfl ?_
    refine ww_cSf (As := [.int d]) (rest := []) C ok_X11_abs bw_1117 dX11_layStep_6 cm_X11_abs rfl ⟨Nat.le_of_ble_eq_true rfl, Nat.le_of_ble_eq_true rfl⟩ (Nat.le_of_ble_eq_true rfl) (c2 := 0) (s2 := 0) rfl rfl ⟨Nat.le_of_ble_eq_true rfl, Nat.le_of_ble_eq_true rfl⟩ rfl ?_
    refine ww_sipush (v := 255) C dX11_layStep_9 (by decide) ?_
    refine ww_icmp_le (tgt := 23) C dX11_layStep_12 (by decide) (fun q12 => ?_) (fun q12 => ?_)
    · replace h := h.1 q12
      exact ww_sub [0, 1] rfl (run_X11_layStep_23 C hrt  hT  h)
    · replace h := h.2 q12
      refine ww_aload_n C dX11_layStep_15 0 rfl ?_
      refine ww_iload_n C dX11_layStep_16 1 rfl ?_
      refine ww_bipush (v := 8) C dX11_layStep_17 (by decide) ?_
      refine ww_ishr C dX11_layStep_19 ?_
      refine ww_cVv (As := [.int (d >>> (8 &&& 31))]) (rest := []) C ok_X11_lay bw_1128 dX11_layStep_20 (run_X11_lay  (fun _ => h)) rc_Model rfl ⟨Nat.le_of_ble_eq_true rfl, Nat.le_of_ble_eq_true rfl⟩ (Nat.le_of_ble_eq_true rfl) (c2 := 0) (s2 := 0) rfl rfl ⟨Nat.le_of_ble_eq_true rfl, Nat.le_of_ble_eq_true rfl⟩ rfl (fun S13 hp hTg => ?_)
      replace h := hp
      have hT_S13 : S13.2.2.1 = T0 := by rw [hTg]; exact hT
      exact ww_sub [0, 1] rfl (run_X11_layStep_23 C hrt  hT_S13  h)
  · replace h := h.2 q11
    exact ww_vret C hrt dX11_layStep_4 hT h)
abbrev rm_X11_layGlyph : Room := { frames := 2, cells := 0, slots := 0, locals := 47 }
theorem ok_X11_layGlyph : MOK yX11_layGlyph RX11 cX11_layGlyph 7 none 1 := ⟨bw_1134, bw_30, bw_69, bw_1135, by decide +kernel⟩
def st_X11_layGlyph_35 (q : Int32) (P : St → Prop) (X35 : St → Int32 → Int32 → Int32 → Prop) (X78 : St → Int32 → Int32 → Int32 → Prop) (X84 : St → Int32 → Int32 → Int32 → Prop) (X96 : St → Int32 → Int32 → Int32 → Int32 → Prop) (X139 : St → Int32 → Int32 → Int32 → Int32 → Int32 → Prop) (X183 : St → Int32 → Int32 → Int32 → Prop) (X186 : St → Int32 → Int32 → Int32 → Int32 → Prop) (X195 : St → Int32 → Int32 → Int32 → Prop) (X221 : St → Int32 → Int32 → Int32 → Prop) (X260 : St → Prop) (S : St) (v2 : Int32) (v3 : Int32) (v4 : Int32) : Prop :=
  ((v3 ≤ v4 → X96 S v2 v3 0 0) ∧ (¬ v3 ≤ v4 → (((v4 + 1) = v3 → X78 S v2 v3 v4) ∧ (¬ (v4 + 1) = v3 → (vp_in (((16 * q) + v4) + 1) (gw_ml 6) ∧ (vp_in ((16 * q) + v4) (gw_ml 6) ∧ (((S.2.1 16 (((16 * q) + v4) + 1).toNatClampNeg) ≤ (S.2.1 16 ((16 * q) + v4).toNatClampNeg) → X84 S v2 v3 v4) ∧ (¬ (S.2.1 16 (((16 * q) + v4) + 1).toNatClampNeg) ≤ (S.2.1 16 ((16 * q) + v4).toNatClampNeg) → X78 S v2 v3 v4))))))))
def st_X11_layGlyph_78 (q : Int32) (P : St → Prop) (X35 : St → Int32 → Int32 → Int32 → Prop) (X78 : St → Int32 → Int32 → Int32 → Prop) (X84 : St → Int32 → Int32 → Int32 → Prop) (X96 : St → Int32 → Int32 → Int32 → Int32 → Prop) (X139 : St → Int32 → Int32 → Int32 → Int32 → Int32 → Prop) (X183 : St → Int32 → Int32 → Int32 → Prop) (X186 : St → Int32 → Int32 → Int32 → Int32 → Prop) (X195 : St → Int32 → Int32 → Int32 → Prop) (X221 : St → Int32 → Int32 → Int32 → Prop) (X260 : St → Prop) (S : St) (v2 : Int32) (v3 : Int32) (v4 : Int32) : Prop :=
  wp_X11_lay S v4 (fun S49 => X84 S49 v2 v3 v4)
def st_X11_layGlyph_84 (q : Int32) (P : St → Prop) (X35 : St → Int32 → Int32 → Int32 → Prop) (X78 : St → Int32 → Int32 → Int32 → Prop) (X84 : St → Int32 → Int32 → Int32 → Prop) (X96 : St → Int32 → Int32 → Int32 → Int32 → Prop) (X139 : St → Int32 → Int32 → Int32 → Int32 → Int32 → Prop) (X183 : St → Int32 → Int32 → Int32 → Prop) (X186 : St → Int32 → Int32 → Int32 → Int32 → Prop) (X195 : St → Int32 → Int32 → Int32 → Prop) (X221 : St → Int32 → Int32 → Int32 → Prop) (X260 : St → Prop) (S : St) (v2 : Int32) (v3 : Int32) (v4 : Int32) : Prop :=
  ∀ x51 : Int32, x51 = v4 + 1 → X35 S v2 v3 x51
def st_X11_layGlyph_96 (q : Int32) (P : St → Prop) (X35 : St → Int32 → Int32 → Int32 → Prop) (X78 : St → Int32 → Int32 → Int32 → Prop) (X84 : St → Int32 → Int32 → Int32 → Prop) (X96 : St → Int32 → Int32 → Int32 → Int32 → Prop) (X139 : St → Int32 → Int32 → Int32 → Int32 → Int32 → Prop) (X183 : St → Int32 → Int32 → Int32 → Prop) (X186 : St → Int32 → Int32 → Int32 → Int32 → Prop) (X195 : St → Int32 → Int32 → Int32 → Prop) (X221 : St → Int32 → Int32 → Int32 → Prop) (X260 : St → Prop) (S : St) (v2 : Int32) (v3 : Int32) (v4 : Int32) (v5 : Int32) : Prop :=
  ((v3 ≤ v5 → X195 S v2 v3 0) ∧ (¬ v3 ≤ v5 → wp_X11_flag S q v5 (fun r54 S53 => ∀ x55 : Int32, x55 = v4 + 1 → (((v5 + 1) = v3 → X139 S53 v2 v3 x55 v5 r54) ∧ (¬ (v5 + 1) = v3 → wp_X11_flag S53 q (v5 + 1) (fun r58 S57 => ((r58 = r54 → X186 S57 v2 v3 x55 v5) ∧ (¬ r58 = r54 → X139 S57 v2 v3 x55 v5 r54))))))))
def st_X11_layGlyph_139 (q : Int32) (P : St → Prop) (X35 : St → Int32 → Int32 → Int32 → Prop) (X78 : St → Int32 → Int32 → Int32 → Prop) (X84 : St → Int32 → Int32 → Int32 → Prop) (X96 : St → Int32 → Int32 → Int32 → Int32 → Prop) (X139 : St → Int32 → Int32 → Int32 → Int32 → Int32 → Prop) (X183 : St → Int32 → Int32 → Int32 → Prop) (X186 : St → Int32 → Int32 → Int32 → Int32 → Prop) (X195 : St → Int32 → Int32 → Int32 → Prop) (X221 : St → Int32 → Int32 → Int32 → Prop) (X260 : St → Prop) (S : St) (v2 : Int32) (v3 : Int32) (v4 : Int32) (v5 : Int32) (v6 : Int32) : Prop :=
  ((v4 ≤ 2 → wp_X11_lay S v6 (fun S61 => ((¬ v4 = 2 → X183 S61 v2 v3 v5) ∧ (v4 = 2 → wp_X11_lay S61 v6 (fun S64 => X183 S64 v2 v3 v5))))) ∧ (¬ v4 ≤ 2 → wp_X11_lay S (v6 + 8) (fun S66 => wp_X11_lay S66 (v4 - 1) (fun S68 => X183 S68 v2 v3 v5))))
def st_X11_layGlyph_183 (q : Int32) (P : St → Prop) (X35 : St → Int32 → Int32 → Int32 → Prop) (X78 : St → Int32 → Int32 → Int32 → Prop) (X84 : St → Int32 → Int32 → Int32 → Prop) (X96 : St → Int32 → Int32 → Int32 → Int32 → Prop) (X139 : St → Int32 → Int32 → Int32 → Int32 → Int32 → Prop) (X183 : St → Int32 → Int32 → Int32 → Prop) (X186 : St → Int32 → Int32 → Int32 → Int32 → Prop) (X195 : St → Int32 → Int32 → Int32 → Prop) (X221 : St → Int32 → Int32 → Int32 → Prop) (X260 : St → Prop) (S : St) (v2 : Int32) (v3 : Int32) (v5 : Int32) : Prop :=
  X186 S v2 v3 0 v5
def st_X11_layGlyph_186 (q : Int32) (P : St → Prop) (X35 : St → Int32 → Int32 → Int32 → Prop) (X78 : St → Int32 → Int32 → Int32 → Prop) (X84 : St → Int32 → Int32 → Int32 → Prop) (X96 : St → Int32 → Int32 → Int32 → Int32 → Prop) (X139 : St → Int32 → Int32 → Int32 → Int32 → Int32 → Prop) (X183 : St → Int32 → Int32 → Int32 → Prop) (X186 : St → Int32 → Int32 → Int32 → Int32 → Prop) (X195 : St → Int32 → Int32 → Int32 → Prop) (X221 : St → Int32 → Int32 → Int32 → Prop) (X260 : St → Prop) (S : St) (v2 : Int32) (v3 : Int32) (v4 : Int32) (v5 : Int32) : Prop :=
  ∀ x70 : Int32, x70 = v5 + 1 → X96 S v2 v3 v4 x70
def st_X11_layGlyph_195 (q : Int32) (P : St → Prop) (X35 : St → Int32 → Int32 → Int32 → Prop) (X78 : St → Int32 → Int32 → Int32 → Prop) (X84 : St → Int32 → Int32 → Int32 → Prop) (X96 : St → Int32 → Int32 → Int32 → Int32 → Prop) (X139 : St → Int32 → Int32 → Int32 → Int32 → Int32 → Prop) (X183 : St → Int32 → Int32 → Int32 → Prop) (X186 : St → Int32 → Int32 → Int32 → Int32 → Prop) (X195 : St → Int32 → Int32 → Int32 → Prop) (X221 : St → Int32 → Int32 → Int32 → Prop) (X260 : St → Prop) (S : St) (v2 : Int32) (v3 : Int32) (v5 : Int32) : Prop :=
  ((v3 ≤ v5 → X221 S v2 v3 0) ∧ (¬ v3 ≤ v5 → wp_X11_stepX S q v5 (fun r73 S72 => wp_X11_layStep S72 r73 (fun S74 => ∀ x76 : Int32, x76 = v5 + 1 → X195 S74 v2 v3 x76))))
def st_X11_layGlyph_221 (q : Int32) (P : St → Prop) (X35 : St → Int32 → Int32 → Int32 → Prop) (X78 : St → Int32 → Int32 → Int32 → Prop) (X84 : St → Int32 → Int32 → Int32 → Prop) (X96 : St → Int32 → Int32 → Int32 → Int32 → Prop) (X139 : St → Int32 → Int32 → Int32 → Int32 → Int32 → Prop) (X183 : St → Int32 → Int32 → Int32 → Prop) (X186 : St → Int32 → Int32 → Int32 → Int32 → Prop) (X195 : St → Int32 → Int32 → Int32 → Prop) (X221 : St → Int32 → Int32 → Int32 → Prop) (X260 : St → Prop) (S : St) (v2 : Int32) (v3 : Int32) (v5 : Int32) : Prop :=
  ((v3 ≤ v5 → (((((S.2.1 9 5) - v2) - ((S.2.1 9 5) - v2) / 2 * 2) = 0 → X260 S) ∧ (¬ (((S.2.1 9 5) - v2) - ((S.2.1 9 5) - v2) / 2 * 2) = 0 → wp_X11_lay S 0 (fun S79 => X260 S79)))) ∧ (¬ v3 ≤ v5 → wp_X11_stepY S q v5 (fun r82 S81 => wp_X11_layStep S81 r82 (fun S83 => ∀ x85 : Int32, x85 = v5 + 1 → X221 S83 v2 v3 x85))))
def st_X11_layGlyph_260 (q : Int32) (P : St → Prop) (X35 : St → Int32 → Int32 → Int32 → Prop) (X78 : St → Int32 → Int32 → Int32 → Prop) (X84 : St → Int32 → Int32 → Int32 → Prop) (X96 : St → Int32 → Int32 → Int32 → Int32 → Prop) (X139 : St → Int32 → Int32 → Int32 → Int32 → Int32 → Prop) (X183 : St → Int32 → Int32 → Int32 → Prop) (X186 : St → Int32 → Int32 → Int32 → Int32 → Prop) (X195 : St → Int32 → Int32 → Int32 → Prop) (X221 : St → Int32 → Int32 → Int32 → Prop) (X260 : St → Prop) (S : St)  : Prop :=
  P S
def at_X11_layGlyph_35 (f : Fx) (g : Gx) (T0 : List (Nat × Nat × Nat)) (q : Int32) (P : St → Prop) (S : St) (v2 : Int32) (v3 : Int32) (v4 : Int32) : Prop := S.2.2.1 = T0 → WW f rm_X11_layGlyph g 7 0 0 (Qv f g 0 0 T0 P) S 35 [(0, .ref (gad g 158)), (1, .int q), (2, .int v2), (3, .int v3), (4, .int v4)] []
def at_X11_layGlyph_78 (f : Fx) (g : Gx) (T0 : List (Nat × Nat × Nat)) (q : Int32) (P : St → Prop) (S : St) (v2 : Int32) (v3 : Int32) (v4 : Int32) : Prop := S.2.2.1 = T0 → WW f rm_X11_layGlyph g 7 0 0 (Qv f g 0 0 T0 P) S 78 [(0, .ref (gad g 158)), (1, .int q), (2, .int v2), (3, .int v3), (4, .int v4)] []
def at_X11_layGlyph_84 (f : Fx) (g : Gx) (T0 : List (Nat × Nat × Nat)) (q : Int32) (P : St → Prop) (S : St) (v2 : Int32) (v3 : Int32) (v4 : Int32) : Prop := S.2.2.1 = T0 → WW f rm_X11_layGlyph g 7 0 0 (Qv f g 0 0 T0 P) S 84 [(0, .ref (gad g 158)), (1, .int q), (2, .int v2), (3, .int v3), (4, .int v4)] []
def at_X11_layGlyph_96 (f : Fx) (g : Gx) (T0 : List (Nat × Nat × Nat)) (q : Int32) (P : St → Prop) (S : St) (v2 : Int32) (v3 : Int32) (v4 : Int32) (v5 : Int32) : Prop := S.2.2.1 = T0 → WW f rm_X11_layGlyph g 7 0 0 (Qv f g 0 0 T0 P) S 96 [(0, .ref (gad g 158)), (1, .int q), (2, .int v2), (3, .int v3), (4, .int v4), (5, .int v5)] []
def at_X11_layGlyph_139 (f : Fx) (g : Gx) (T0 : List (Nat × Nat × Nat)) (q : Int32) (P : St → Prop) (S : St) (v2 : Int32) (v3 : Int32) (v4 : Int32) (v5 : Int32) (v6 : Int32) : Prop := S.2.2.1 = T0 → WW f rm_X11_layGlyph g 7 0 0 (Qv f g 0 0 T0 P) S 139 [(0, .ref (gad g 158)), (1, .int q), (2, .int v2), (3, .int v3), (4, .int v4), (5, .int v5), (6, .int v6)] []
def at_X11_layGlyph_183 (f : Fx) (g : Gx) (T0 : List (Nat × Nat × Nat)) (q : Int32) (P : St → Prop) (S : St) (v2 : Int32) (v3 : Int32) (v5 : Int32) : Prop := S.2.2.1 = T0 → WW f rm_X11_layGlyph g 7 0 0 (Qv f g 0 0 T0 P) S 183 [(0, .ref (gad g 158)), (1, .int q), (2, .int v2), (3, .int v3), (5, .int v5)] []
def at_X11_layGlyph_186 (f : Fx) (g : Gx) (T0 : List (Nat × Nat × Nat)) (q : Int32) (P : St → Prop) (S : St) (v2 : Int32) (v3 : Int32) (v4 : Int32) (v5 : Int32) : Prop := S.2.2.1 = T0 → WW f rm_X11_layGlyph g 7 0 0 (Qv f g 0 0 T0 P) S 186 [(0, .ref (gad g 158)), (1, .int q), (2, .int v2), (3, .int v3), (4, .int v4), (5, .int v5)] []
def at_X11_layGlyph_195 (f : Fx) (g : Gx) (T0 : List (Nat × Nat × Nat)) (q : Int32) (P : St → Prop) (S : St) (v2 : Int32) (v3 : Int32) (v5 : Int32) : Prop := S.2.2.1 = T0 → WW f rm_X11_layGlyph g 7 0 0 (Qv f g 0 0 T0 P) S 195 [(0, .ref (gad g 158)), (1, .int q), (2, .int v2), (3, .int v3), (5, .int v5)] []
def at_X11_layGlyph_221 (f : Fx) (g : Gx) (T0 : List (Nat × Nat × Nat)) (q : Int32) (P : St → Prop) (S : St) (v2 : Int32) (v3 : Int32) (v5 : Int32) : Prop := S.2.2.1 = T0 → WW f rm_X11_layGlyph g 7 0 0 (Qv f g 0 0 T0 P) S 221 [(0, .ref (gad g 158)), (1, .int q), (2, .int v2), (3, .int v3), (5, .int v5)] []
def at_X11_layGlyph_260 (f : Fx) (g : Gx) (T0 : List (Nat × Nat × Nat)) (q : Int32) (P : St → Prop) (S : St)  : Prop := S.2.2.1 = T0 → WW f rm_X11_layGlyph g 7 0 0 (Qv f g 0 0 T0 P) S 260 [] []
set_option maxHeartbeats 4000000 in
set_option maxRecDepth 100000 in
theorem run_X11_layGlyph_35 {f : Fx} {g : Gx} {T0 : List (Nat × Nat × Nat)} {S : St} {q : Int32} {P : St → Prop} (C : Cx f g cX11_layGlyph 7 RX11) (hrt : (fmeth f).sig.returnType = none)  {v2 : Int32} {v3 : Int32} {v4 : Int32} (h : st_X11_layGlyph_35 q P (at_X11_layGlyph_35 f g T0 q P) (at_X11_layGlyph_78 f g T0 q P) (at_X11_layGlyph_84 f g T0 q P) (at_X11_layGlyph_96 f g T0 q P) (at_X11_layGlyph_139 f g T0 q P) (at_X11_layGlyph_183 f g T0 q P) (at_X11_layGlyph_186 f g T0 q P) (at_X11_layGlyph_195 f g T0 q P) (at_X11_layGlyph_221 f g T0 q P) (at_X11_layGlyph_260 f g T0 q P) S v2 v3 v4) : at_X11_layGlyph_35 f g T0 q P S v2 v3 v4 := by
  intro hT 
  unfold st_X11_layGlyph_35 at h
  refine ww_iload C dX11_layGlyph_35 4 rfl ?_
  refine ww_iload_n C dX11_layGlyph_37 3 rfl ?_
  refine ww_icmp_ge (tgt := 90) C dX11_layGlyph_38 (by decide) (fun q46 => ?_) (fun q46 => ?_)
  · replace h := h.1 q46
    refine ww_iconst (v := 0) C dX11_layGlyph_90 (by decide) ?_
    refine ww_istore (lv2 := [(4, .int 0), (0, .ref (gad g 158)), (1, .int q), (2, .int v2), (3, .int v3)]) C dX11_layGlyph_91 (Nat.le_of_ble_eq_true rfl) rfl ?_
    refine ww_iconst (v := 0) C dX11_layGlyph_93 (by decide) ?_
    refine ww_istore (lv2 := [(5, .int 0), (4, .int 0), (0, .ref (gad g 158)), (1, .int q), (2, .int v2), (3, .int v3)]) C dX11_layGlyph_94 (Nat.le_of_ble_eq_true rfl) rfl ?_
    exact ww_sub [2, 3, 4, 5, 1, 0] rfl (h hT)
  · replace h := h.2 q46
    refine ww_iload C dX11_layGlyph_41 4 rfl ?_
    refine ww_iconst (v := 1) C dX11_layGlyph_43 (by decide) ?_
    refine ww_iadd C dX11_layGlyph_44 ?_
    refine ww_iload_n C dX11_layGlyph_45 3 rfl ?_
    refine ww_icmp_eq (tgt := 78) C dX11_layGlyph_46 (by decide) (fun q47 => ?_) (fun q47 => ?_)
    · replace h := h.1 q47
      exact ww_sub [0, 1, 2, 3, 4] rfl (h hT)
    · replace h := h.2 q47
      refine ww_aload_n C dX11_layGlyph_49 0 rfl ?_
      refine gf_Model_contourOf C bw_931 dX11_layGlyph_50 ?_
      refine ww_bipush (v := 16) C dX11_layGlyph_53 (by decide) ?_
      refine ww_iload_n C dX11_layGlyph_55 1 rfl ?_
      refine ww_imul C dX11_layGlyph_56 ?_
      refine ww_iload C dX11_layGlyph_57 4 rfl ?_
      refine ww_iadd C dX11_layGlyph_59 ?_
      refine ww_iconst (v := 1) C dX11_layGlyph_60 (by decide) ?_
      refine ww_iadd C dX11_layGlyph_61 ?_
      refine ia_m (a := 6) C (by decide) (by decide) h.1 dX11_layGlyph_62 ?_
      replace h := h.2
      refine ww_aload_n C dX11_layGlyph_63 0 rfl ?_
      refine gf_Model_contourOf C bw_931 dX11_layGlyph_64 ?_
      refine ww_bipush (v := 16) C dX11_layGlyph_67 (by decide) ?_
      refine ww_iload_n C dX11_layGlyph_69 1 rfl ?_
      refine ww_imul C dX11_layGlyph_70 ?_
      refine ww_iload C dX11_layGlyph_71 4 rfl ?_
      refine ww_iadd C dX11_layGlyph_73 ?_
      refine ia_m (a := 6) C (by decide) (by decide) h.1 dX11_layGlyph_74 ?_
      replace h := h.2
      refine ww_icmp_le (tgt := 84) C dX11_layGlyph_75 (by decide) (fun q48 => ?_) (fun q48 => ?_)
      · replace h := h.1 q48
        exact ww_sub [0, 1, 2, 3, 4] rfl (h hT)
      · replace h := h.2 q48
        exact ww_sub [0, 1, 2, 3, 4] rfl (h hT)
set_option maxHeartbeats 4000000 in
set_option maxRecDepth 100000 in
theorem run_X11_layGlyph_78 {f : Fx} {g : Gx} {T0 : List (Nat × Nat × Nat)} {S : St} {q : Int32} {P : St → Prop} (C : Cx f g cX11_layGlyph 7 RX11) (hrt : (fmeth f).sig.returnType = none)  {v2 : Int32} {v3 : Int32} {v4 : Int32} (h : st_X11_layGlyph_78 q P (at_X11_layGlyph_35 f g T0 q P) (at_X11_layGlyph_78 f g T0 q P) (at_X11_layGlyph_84 f g T0 q P) (at_X11_layGlyph_96 f g T0 q P) (at_X11_layGlyph_139 f g T0 q P) (at_X11_layGlyph_183 f g T0 q P) (at_X11_layGlyph_186 f g T0 q P) (at_X11_layGlyph_195 f g T0 q P) (at_X11_layGlyph_221 f g T0 q P) (at_X11_layGlyph_260 f g T0 q P) S v2 v3 v4) : at_X11_layGlyph_78 f g T0 q P S v2 v3 v4 := by
  intro hT 
  unfold st_X11_layGlyph_78 at h
  refine ww_aload_n C dX11_layGlyph_78 0 rfl ?_
  refine ww_iload C dX11_layGlyph_79 4 rfl ?_
  refine ww_cVv (As := [.int v4]) (rest := []) C ok_X11_lay bw_1128 dX11_layGlyph_81 (run_X11_lay  (fun _ => h)) rc_Model rfl ⟨Nat.le_of_ble_eq_true rfl, Nat.le_of_ble_eq_true rfl⟩ (Nat.le_of_ble_eq_true rfl) (c2 := 0) (s2 := 0) rfl rfl ⟨Nat.le_of_ble_eq_true rfl, Nat.le_of_ble_eq_true rfl⟩ rfl (fun S49 hp hTg => ?_)
  replace h := hp
  have hT_S49 : S49.2.2.1 = T0 := by rw [hTg]; exact hT
  exact ww_sub [0, 1, 2, 3, 4] rfl (h hT_S49)
set_option maxHeartbeats 4000000 in
set_option maxRecDepth 100000 in
theorem run_X11_layGlyph_84 {f : Fx} {g : Gx} {T0 : List (Nat × Nat × Nat)} {S : St} {q : Int32} {P : St → Prop} (C : Cx f g cX11_layGlyph 7 RX11) (hrt : (fmeth f).sig.returnType = none)  {v2 : Int32} {v3 : Int32} {v4 : Int32} (h : st_X11_layGlyph_84 q P (at_X11_layGlyph_35 f g T0 q P) (at_X11_layGlyph_78 f g T0 q P) (at_X11_layGlyph_84 f g T0 q P) (at_X11_layGlyph_96 f g T0 q P) (at_X11_layGlyph_139 f g T0 q P) (at_X11_layGlyph_183 f g T0 q P) (at_X11_layGlyph_186 f g T0 q P) (at_X11_layGlyph_195 f g T0 q P) (at_X11_layGlyph_221 f g T0 q P) (at_X11_layGlyph_260 f g T0 q P) S v2 v3 v4) : at_X11_layGlyph_84 f g T0 q P S v2 v3 v4 := by
  intro hT 
  unfold st_X11_layGlyph_84 at h
  obtain ⟨x51, e_x51⟩ : ∃ z : Int32, z = v4 + 1 := ⟨_, rfl⟩
  replace h := h x51 e_x51
  refine ww_iinc (v := x51) (lv2 := [(4, .int x51), (0, .ref (gad g 158)), (1, .int q), (2, .int v2), (3, .int v3)]) C dX11_layGlyph_84 4 rfl (by rw [e_x51]; rfl) (Nat.le_of_ble_eq_true rfl) rfl ?_
  refine ww_goto (tgt := 35) C dX11_layGlyph_87 (by decide) ?_
  exact ww_sub [1, 2, 3, 4, 0] rfl (h hT)
set_option maxHeartbeats 4000000 in
set_option maxRecDepth 100000 in
theorem run_X11_layGlyph_96 {f : Fx} {g : Gx} {T0 : List (Nat × Nat × Nat)} {S : St} {q : Int32} {P : St → Prop} (C : Cx f g cX11_layGlyph 7 RX11) (hrt : (fmeth f).sig.returnType = none)  {v2 : Int32} {v3 : Int32} {v4 : Int32} {v5 : Int32} (h : st_X11_layGlyph_96 q P (at_X11_layGlyph_35 f g T0 q P) (at_X11_layGlyph_78 f g T0 q P) (at_X11_layGlyph_84 f g T0 q P) (at_X11_layGlyph_96 f g T0 q P) (at_X11_layGlyph_139 f g T0 q P) (at_X11_layGlyph_183 f g T0 q P) (at_X11_layGlyph_186 f g T0 q P) (at_X11_layGlyph_195 f g T0 q P) (at_X11_layGlyph_221 f g T0 q P) (at_X11_layGlyph_260 f g T0 q P) S v2 v3 v4 v5) : at_X11_layGlyph_96 f g T0 q P S v2 v3 v4 v5 := by
  intro hT 
  unfold st_X11_layGlyph_96 at h
  refine ww_iload C dX11_layGlyph_96 5 rfl ?_
  refine ww_iload_n C dX11_layGlyph_98 3 rfl ?_
  refine ww_icmp_ge (tgt := 192) C dX11_layGlyph_99 (by decide) (fun q52 => ?_) (fun q52 => ?_)
  · replace h := h.1 q52
    refine ww_iconst (v := 0) C dX11_layGlyph_192 (by decide) ?_
    refine ww_istore (lv2 := [(5, .int 0), (0, .ref (gad g 158)), (1, .int q), (2, .int v2), (3, .int v3), (4, .int v4)]) C dX11_layGlyph_193 (Nat.le_of_ble_eq_true rfl) rfl ?_
    exact ww_sub [1, 2, 3, 4, 0] rfl (h hT)
  · replace h := h.2 q52
    refine ww_aload_n C dX11_layGlyph_102 0 rfl ?_
    refine ww_iload_n C dX11_layGlyph_103 1 rfl ?_
    refine ww_iload C dX11_layGlyph_104 5 rfl ?_
    refine ww_cVi (As := [.int q, .int v5]) (rest := []) C ok_X11_flag bw_1136 dX11_layGlyph_106 (run_X11_flag  (fun _ => h)) rc_Model rfl ⟨Nat.le_of_ble_eq_true rfl, Nat.le_of_ble_eq_true rfl⟩ (Nat.le_of_ble_eq_true rfl) (c2 := 0) (s2 := 0) rfl rfl ⟨Nat.le_of_ble_eq_true rfl, Nat.le_of_ble_eq_true rfl⟩ rfl (fun r54 S53 hp hTg => ?_)
    replace h := hp
    have hT_S53 : S53.2.2.1 = T0 := by rw [hTg]; exact hT
    refine ww_istore (lv2 := [(6, .int r54), (0, .ref (gad g 158)), (1, .int q), (2, .int v2), (3, .int v3), (4, .int v4), (5, .int v5)]) C dX11_layGlyph_109 (Nat.le_of_ble_eq_true rfl) rfl ?_
    refine ww_iload C dX11_layGlyph_111 5 rfl ?_
    refine ww_iconst (v := 1) C dX11_layGlyph_113 (by decide) ?_
    refine ww_iadd C dX11_layGlyph_114 ?_
    refine ww_topi (fun x55 e_x55 => ?_)
    replace h := h x55 e_x55
    refine ww_istore (lv2 := [(4, .int x55), (6, .int r54), (0, .ref (gad g 158)), (1, .int q), (2, .int v2), (3, .int v3), (5, .int v5)]) C dX11_layGlyph_115 (Nat.le_of_ble_eq_true rfl) rfl ?_
    refine ww_iload C dX11_layGlyph_117 6 rfl ?_
    refine ww_iconst (v := 1) C dX11_layGlyph_119 (by decide) ?_
    refine ww_iadd C dX11_layGlyph_120 ?_
    refine ww_iload_n C dX11_layGlyph_121 5 rfl ?_
    refine ww_icmp_eq (tgt := 139) C dX11_layGlyph_122 (by decide) (fun q56 => ?_) (fun q56 => ?_)
    · replace h := h.1 q56
      exact ww_sub [2, 3, 4, 5, 0, 6, 1] rfl (h hT_S53)
    · replace h := h.2 q56
      refine ww_aload_n C dX11_layGlyph_125 2 rfl ?_
      refine ww_iload_n C dX11_layGlyph_126 3 rfl ?_
      refine ww_iload C dX11_layGlyph_127 6 rfl ?_
      refine ww_iconst (v := 1) C dX11_layGlyph_129 (by decide) ?_
      refine ww_iadd C dX11_layGlyph_130 ?_
      refine ww_cVi (As := [.int q, .int (v5 + 1)]) (rest := []) C ok_X11_flag bw_1136 dX11_layGlyph_131 (run_X11_flag  (fun _ => h)) rc_Model rfl ⟨Nat.le_of_ble_eq_true rfl, Nat.le_of_ble_eq_true rfl⟩ (Nat.le_of_ble_eq_true rfl) (c2 := 0) (s2 := 0) rfl rfl ⟨Nat.le_of_ble_eq_true rfl, Nat.le_of_ble_eq_true rfl⟩ rfl (fun r58 S57 hp hTg => ?_)
      replace h := hp
      have hT_S57 : S57.2.2.1 = T0 := by rw [hTg]; exact hT_S53
      refine ww_iload C dX11_layGlyph_134 1 rfl ?_
      refine ww_icmp_eq (tgt := 186) C dX11_layGlyph_136 (by decide) (fun q59 => ?_) (fun q59 => ?_)
      · replace h := h.1 q59
        exact ww_sub [2, 3, 4, 5, 0, 6] rfl (h hT_S57)
      · replace h := h.2 q59
        exact ww_sub [2, 3, 4, 5, 0, 6, 1] rfl (h hT_S57)
set_option maxHeartbeats 4000000 in
set_option maxRecDepth 100000 in
theorem run_X11_layGlyph_139 {f : Fx} {g : Gx} {T0 : List (Nat × Nat × Nat)} {S : St} {q : Int32} {P : St → Prop} (C : Cx f g cX11_layGlyph 7 RX11) (hrt : (fmeth f).sig.returnType = none)  {v2 : Int32} {v3 : Int32} {v4 : Int32} {v5 : Int32} {v6 : Int32} (h : st_X11_layGlyph_139 q P (at_X11_layGlyph_35 f g T0 q P) (at_X11_layGlyph_78 f g T0 q P) (at_X11_layGlyph_84 f g T0 q P) (at_X11_layGlyph_96 f g T0 q P) (at_X11_layGlyph_139 f g T0 q P) (at_X11_layGlyph_183 f g T0 q P) (at_X11_layGlyph_186 f g T0 q P) (at_X11_layGlyph_195 f g T0 q P) (at_X11_layGlyph_221 f g T0 q P) (at_X11_layGlyph_260 f g T0 q P) S v2 v3 v4 v5 v6) : at_X11_layGlyph_139 f g T0 q P S v2 v3 v4 v5 v6 := by
  intro hT 
  unfold st_X11_layGlyph_139 at h
  refine ww_iload C dX11_layGlyph_139 4 rfl ?_
  refine ww_iconst (v := 2) C dX11_layGlyph_141 (by decide) ?_
  refine ww_icmp_le (tgt := 165) C dX11_layGlyph_142 (by decide) (fun q60 => ?_) (fun q60 => ?_)
  · replace h := h.1 q60
    refine ww_aload_n C dX11_layGlyph_165 0 rfl ?_
    refine ww_iload C dX11_layGlyph_166 6 rfl ?_
    refine ww_cVv (As := [.int v6]) (rest := []) C ok_X11_lay bw_1128 dX11_layGlyph_168 (run_X11_lay  (fun _ => h)) rc_Model rfl ⟨Nat.le_of_ble_eq_true rfl, Nat.le_of_ble_eq_true rfl⟩ (Nat.le_of_ble_eq_true rfl) (c2 := 0) (s2 := 0) rfl rfl ⟨Nat.le_of_ble_eq_true rfl, Nat.le_of_ble_eq_true rfl⟩ rfl (fun S61 hp hTg => ?_)
    replace h := hp
    have hT_S61 : S61.2.2.1 = T0 := by rw [hTg]; exact hT
    refine ww_iload C dX11_layGlyph_171 4 rfl ?_
    refine ww_iconst (v := 2) C dX11_layGlyph_173 (by decide) ?_
    refine ww_icmp_ne (tgt := 183) C dX11_layGlyph_174 (by decide) (fun q63 => ?_) (fun q63 => ?_)
    · replace h := h.1 q63
      exact ww_sub [0, 1, 2, 3, 5] rfl (h hT_S61)
    · replace h := h.2 q63
      refine ww_aload_n C dX11_layGlyph_177 0 rfl ?_
      refine ww_iload C dX11_layGlyph_178 6 rfl ?_
      refine ww_cVv (As := [.int v6]) (rest := []) C ok_X11_lay bw_1128 dX11_layGlyph_180 (run_X11_lay  (fun _ => h)) rc_Model rfl ⟨Nat.le_of_ble_eq_true rfl, Nat.le_of_ble_eq_true rfl⟩ (Nat.le_of_ble_eq_true rfl) (c2 := 0) (s2 := 0) rfl rfl ⟨Nat.le_of_ble_eq_true rfl, Nat.le_of_ble_eq_true rfl⟩ rfl (fun S64 hp hTg => ?_)
      replace h := hp
      have hT_S64 : S64.2.2.1 = T0 := by rw [hTg]; exact hT_S61
      exact ww_sub [0, 1, 2, 3, 5] rfl (h hT_S64)
  · replace h := h.2 q60
    refine ww_aload_n C dX11_layGlyph_145 0 rfl ?_
    refine ww_iload C dX11_layGlyph_146 6 rfl ?_
    refine ww_bipush (v := 8) C dX11_layGlyph_148 (by decide) ?_
    refine ww_iadd C dX11_layGlyph_150 ?_
    refine ww_cVv (As := [.int (v6 + 8)]) (rest := []) C ok_X11_lay bw_1128 dX11_layGlyph_151 (run_X11_lay  (fun _ => h)) rc_Model rfl ⟨Nat.le_of_ble_eq_true rfl, Nat.le_of_ble_eq_true rfl⟩ (Nat.le_of_ble_eq_true rfl) (c2 := 0) (s2 := 0) rfl rfl ⟨Nat.le_of_ble_eq_true rfl, Nat.le_of_ble_eq_true rfl⟩ rfl (fun S66 hp hTg => ?_)
    replace h := hp
    have hT_S66 : S66.2.2.1 = T0 := by rw [hTg]; exact hT
    refine ww_aload_n C dX11_layGlyph_154 0 rfl ?_
    refine ww_iload C dX11_layGlyph_155 4 rfl ?_
    refine ww_iconst (v := 1) C dX11_layGlyph_157 (by decide) ?_
    refine ww_isub C dX11_layGlyph_158 ?_
    refine ww_cVv (As := [.int (v4 - 1)]) (rest := []) C ok_X11_lay bw_1128 dX11_layGlyph_159 (run_X11_lay  (fun _ => h)) rc_Model rfl ⟨Nat.le_of_ble_eq_true rfl, Nat.le_of_ble_eq_true rfl⟩ (Nat.le_of_ble_eq_true rfl) (c2 := 0) (s2 := 0) rfl rfl ⟨Nat.le_of_ble_eq_true rfl, Nat.le_of_ble_eq_true rfl⟩ rfl (fun S68 hp hTg => ?_)
    replace h := hp
    have hT_S68 : S68.2.2.1 = T0 := by rw [hTg]; exact hT_S66
    refine ww_goto (tgt := 183) C dX11_layGlyph_162 (by decide) ?_
    exact ww_sub [0, 1, 2, 3, 5] rfl (h hT_S68)
set_option maxHeartbeats 4000000 in
set_option maxRecDepth 100000 in
theorem run_X11_layGlyph_183 {f : Fx} {g : Gx} {T0 : List (Nat × Nat × Nat)} {S : St} {q : Int32} {P : St → Prop} (C : Cx f g cX11_layGlyph 7 RX11) (hrt : (fmeth f).sig.returnType = none)  {v2 : Int32} {v3 : Int32} {v5 : Int32} (h : st_X11_layGlyph_183 q P (at_X11_layGlyph_35 f g T0 q P) (at_X11_layGlyph_78 f g T0 q P) (at_X11_layGlyph_84 f g T0 q P) (at_X11_layGlyph_96 f g T0 q P) (at_X11_layGlyph_139 f g T0 q P) (at_X11_layGlyph_183 f g T0 q P) (at_X11_layGlyph_186 f g T0 q P) (at_X11_layGlyph_195 f g T0 q P) (at_X11_layGlyph_221 f g T0 q P) (at_X11_layGlyph_260 f g T0 q P) S v2 v3 v5) : at_X11_layGlyph_183 f g T0 q P S v2 v3 v5 := by
  intro hT 
  unfold st_X11_layGlyph_183 at h
  refine ww_iconst (v := 0) C dX11_layGlyph_183 (by decide) ?_
  refine ww_istore (lv2 := [(4, .int 0), (0, .ref (gad g 158)), (1, .int q), (2, .int v2), (3, .int v3), (5, .int v5)]) C dX11_layGlyph_184 (Nat.le_of_ble_eq_true rfl) rfl ?_
  exact ww_sub [1, 2, 3, 4, 0, 5] rfl (h hT)
set_option maxHeartbeats 4000000 in
set_option maxRecDepth 100000 in
theorem run_X11_layGlyph_186 {f : Fx} {g : Gx} {T0 : List (Nat × Nat × Nat)} {S : St} {q : Int32} {P : St → Prop} (C : Cx f g cX11_layGlyph 7 RX11) (hrt : (fmeth f).sig.returnType = none)  {v2 : Int32} {v3 : Int32} {v4 : Int32} {v5 : Int32} (h : st_X11_layGlyph_186 q P (at_X11_layGlyph_35 f g T0 q P) (at_X11_layGlyph_78 f g T0 q P) (at_X11_layGlyph_84 f g T0 q P) (at_X11_layGlyph_96 f g T0 q P) (at_X11_layGlyph_139 f g T0 q P) (at_X11_layGlyph_183 f g T0 q P) (at_X11_layGlyph_186 f g T0 q P) (at_X11_layGlyph_195 f g T0 q P) (at_X11_layGlyph_221 f g T0 q P) (at_X11_layGlyph_260 f g T0 q P) S v2 v3 v4 v5) : at_X11_layGlyph_186 f g T0 q P S v2 v3 v4 v5 := by
  intro hT 
  unfold st_X11_layGlyph_186 at h
  obtain ⟨x70, e_x70⟩ : ∃ z : Int32, z = v5 + 1 := ⟨_, rfl⟩
  replace h := h x70 e_x70
  refine ww_iinc (v := x70) (lv2 := [(5, .int x70), (0, .ref (gad g 158)), (1, .int q), (2, .int v2), (3, .int v3), (4, .int v4)]) C dX11_layGlyph_186 5 rfl (by rw [e_x70]; rfl) (Nat.le_of_ble_eq_true rfl) rfl ?_
  refine ww_goto (tgt := 96) C dX11_layGlyph_189 (by decide) ?_
  exact ww_sub [1, 2, 3, 4, 5, 0] rfl (h hT)
set_option maxHeartbeats 4000000 in
set_option maxRecDepth 100000 in
theorem run_X11_layGlyph_195 {f : Fx} {g : Gx} {T0 : List (Nat × Nat × Nat)} {S : St} {q : Int32} {P : St → Prop} (C : Cx f g cX11_layGlyph 7 RX11) (hrt : (fmeth f).sig.returnType = none)  {v2 : Int32} {v3 : Int32} {v5 : Int32} (h : st_X11_layGlyph_195 q P (at_X11_layGlyph_35 f g T0 q P) (at_X11_layGlyph_78 f g T0 q P) (at_X11_layGlyph_84 f g T0 q P) (at_X11_layGlyph_96 f g T0 q P) (at_X11_layGlyph_139 f g T0 q P) (at_X11_layGlyph_183 f g T0 q P) (at_X11_layGlyph_186 f g T0 q P) (at_X11_layGlyph_195 f g T0 q P) (at_X11_layGlyph_221 f g T0 q P) (at_X11_layGlyph_260 f g T0 q P) S v2 v3 v5) : at_X11_layGlyph_195 f g T0 q P S v2 v3 v5 := by
  intro hT 
  unfold st_X11_layGlyph_195 at h
  refine ww_iload C dX11_layGlyph_195 4 rfl ?_
  refine ww_iload_n C dX11_layGlyph_197 3 rfl ?_
  refine ww_icmp_ge (tgt := 218) C dX11_layGlyph_198 (by decide) (fun q71 => ?_) (fun q71 => ?_)
  · replace h := h.1 q71
    refine ww_iconst (v := 0) C dX11_layGlyph_218 (by decide) ?_
    refine ww_istore (lv2 := [(5, .int 0), (0, .ref (gad g 158)), (1, .int q), (2, .int v2), (3, .int v3)]) C dX11_layGlyph_219 (Nat.le_of_ble_eq_true rfl) rfl ?_
    exact ww_sub [1, 2, 3, 4, 0] rfl (h hT)
  · replace h := h.2 q71
    refine ww_aload_n C dX11_layGlyph_201 0 rfl ?_
    refine ww_aload_n C dX11_layGlyph_202 0 rfl ?_
    refine ww_iload_n C dX11_layGlyph_203 1 rfl ?_
    refine ww_iload C dX11_layGlyph_204 4 rfl ?_
    refine ww_cVi (As := [.int q, .int v5]) (rest := [.ref (gad g 158)]) C ok_X11_stepX bw_1109 dX11_layGlyph_206 (run_X11_stepX  (fun _ => h)) rc_Model rfl ⟨Nat.le_of_ble_eq_true rfl, Nat.le_of_ble_eq_true rfl⟩ (Nat.le_of_ble_eq_true rfl) (c2 := 0) (s2 := 0) rfl rfl ⟨Nat.le_of_ble_eq_true rfl, Nat.le_of_ble_eq_true rfl⟩ rfl (fun r73 S72 hp hTg => ?_)
    replace h := hp
    have hT_S72 : S72.2.2.1 = T0 := by rw [hTg]; exact hT
    refine ww_cVv (As := [.int r73]) (rest := []) C ok_X11_layStep bw_1140 dX11_layGlyph_209 (run_X11_layStep  (fun _ => h)) rc_Model rfl ⟨Nat.le_of_ble_eq_true rfl, Nat.le_of_ble_eq_true rfl⟩ (Nat.le_of_ble_eq_true rfl) (c2 := 0) (s2 := 0) rfl rfl ⟨Nat.le_of_ble_eq_true rfl, Nat.le_of_ble_eq_true rfl⟩ rfl (fun S74 hp hTg => ?_)
    replace h := hp
    have hT_S74 : S74.2.2.1 = T0 := by rw [hTg]; exact hT_S72
    obtain ⟨x76, e_x76⟩ : ∃ z : Int32, z = v5 + 1 := ⟨_, rfl⟩
    replace h := h x76 e_x76
    refine ww_iinc (v := x76) (lv2 := [(5, .int x76), (0, .ref (gad g 158)), (1, .int q), (2, .int v2), (3, .int v3)]) C dX11_layGlyph_212 4 rfl (by rw [e_x76]; rfl) (Nat.le_of_ble_eq_true rfl) rfl ?_
    refine ww_goto (tgt := 195) C dX11_layGlyph_215 (by decide) ?_
    exact ww_sub [1, 2, 3, 4, 0] rfl (h hT_S74)
set_option maxHeartbeats 4000000 in
set_option maxRecDepth 100000 in
theorem run_X11_layGlyph_221 {f : Fx} {g : Gx} {T0 : List (Nat × Nat × Nat)} {S : St} {q : Int32} {P : St → Prop} (C : Cx f g cX11_layGlyph 7 RX11) (hrt : (fmeth f).sig.returnType = none)  {v2 : Int32} {v3 : Int32} {v5 : Int32} (h : st_X11_layGlyph_221 q P (at_X11_layGlyph_35 f g T0 q P) (at_X11_layGlyph_78 f g T0 q P) (at_X11_layGlyph_84 f g T0 q P) (at_X11_layGlyph_96 f g T0 q P) (at_X11_layGlyph_139 f g T0 q P) (at_X11_layGlyph_183 f g T0 q P) (at_X11_layGlyph_186 f g T0 q P) (at_X11_layGlyph_195 f g T0 q P) (at_X11_layGlyph_221 f g T0 q P) (at_X11_layGlyph_260 f g T0 q P) S v2 v3 v5) : at_X11_layGlyph_221 f g T0 q P S v2 v3 v5 := by
  intro hT 
  unfold st_X11_layGlyph_221 at h
  refine ww_iload C dX11_layGlyph_221 4 rfl ?_
  refine ww_iload_n C dX11_layGlyph_223 3 rfl ?_
  refine ww_icmp_ge (tgt := 244) C dX11_layGlyph_224 (by decide) (fun q77 => ?_) (fun q77 => ?_)
  · replace h := h.1 q77
    refine ww_aload_n C dX11_layGlyph_244 0 rfl ?_
    refine gf_Model_parted C bw_949 dX11_layGlyph_245 ?_
    refine ww_iload_n C dX11_layGlyph_248 2 rfl ?_
    refine ww_isub C dX11_layGlyph_249 ?_
    refine ww_iconst (v := 2) C dX11_layGlyph_250 (by decide) ?_
    refine ww_irem C dX11_layGlyph_251 (by decide) ?_
    refine ww_if_eq (tgt := 260) C dX11_layGlyph_252 (by decide) (fun q78 => ?_) (fun q78 => ?_)
    · replace h := h.1 q78
      exact ww_sub [] rfl (h hT)
    · replace h := h.2 q78
      refine ww_aload_n C dX11_layGlyph_255 0 rfl ?_
      refine ww_iconst (v := 0) C dX11_layGlyph_256 (by decide) ?_
      refine ww_cVv (As := [.int 0]) (rest := []) C ok_X11_lay bw_1128 dX11_layGlyph_257 (run_X11_lay  (fun _ => h)) rc_Model rfl ⟨Nat.le_of_ble_eq_true rfl, Nat.le_of_ble_eq_true rfl⟩ (Nat.le_of_ble_eq_true rfl) (c2 := 0) (s2 := 0) rfl rfl ⟨Nat.le_of_ble_eq_true rfl, Nat.le_of_ble_eq_true rfl⟩ rfl (fun S79 hp hTg => ?_)
      replace h := hp
      have hT_S79 : S79.2.2.1 = T0 := by rw [hTg]; exact hT
      exact ww_sub [] rfl (h hT_S79)
  · replace h := h.2 q77
    refine ww_aload_n C dX11_layGlyph_227 0 rfl ?_
    refine ww_aload_n C dX11_layGlyph_228 0 rfl ?_
    refine ww_iload_n C dX11_layGlyph_229 1 rfl ?_
    refine ww_iload C dX11_layGlyph_230 4 rfl ?_
    refine ww_cVi (As := [.int q, .int v5]) (rest := [.ref (gad g 158)]) C ok_X11_stepY bw_1113 dX11_layGlyph_232 (run_X11_stepY  (fun _ => h)) rc_Model rfl ⟨Nat.le_of_ble_eq_true rfl, Nat.le_of_ble_eq_true rfl⟩ (Nat.le_of_ble_eq_true rfl) (c2 := 0) (s2 := 0) rfl rfl ⟨Nat.le_of_ble_eq_true rfl, Nat.le_of_ble_eq_true rfl⟩ rfl (fun r82 S81 hp hTg => ?_)
    replace h := hp
    have hT_S81 : S81.2.2.1 = T0 := by rw [hTg]; exact hT
    refine ww_cVv (As := [.int r82]) (rest := []) C ok_X11_layStep bw_1140 dX11_layGlyph_235 (run_X11_layStep  (fun _ => h)) rc_Model rfl ⟨Nat.le_of_ble_eq_true rfl, Nat.le_of_ble_eq_true rfl⟩ (Nat.le_of_ble_eq_true rfl) (c2 := 0) (s2 := 0) rfl rfl ⟨Nat.le_of_ble_eq_true rfl, Nat.le_of_ble_eq_true rfl⟩ rfl (fun S83 hp hTg => ?_)
    replace h := hp
    have hT_S83 : S83.2.2.1 = T0 := by rw [hTg]; exact hT_S81
    obtain ⟨x85, e_x85⟩ : ∃ z : Int32, z = v5 + 1 := ⟨_, rfl⟩
    replace h := h x85 e_x85
    refine ww_iinc (v := x85) (lv2 := [(5, .int x85), (0, .ref (gad g 158)), (1, .int q), (2, .int v2), (3, .int v3)]) C dX11_layGlyph_238 4 rfl (by rw [e_x85]; rfl) (Nat.le_of_ble_eq_true rfl) rfl ?_
    refine ww_goto (tgt := 221) C dX11_layGlyph_241 (by decide) ?_
    exact ww_sub [1, 2, 3, 4, 0] rfl (h hT_S83)
set_option maxHeartbeats 4000000 in
set_option maxRecDepth 100000 in
theorem run_X11_layGlyph_260 {f : Fx} {g : Gx} {T0 : List (Nat × Nat × Nat)} {S : St} {q : Int32} {P : St → Prop} (C : Cx f g cX11_layGlyph 7 RX11) (hrt : (fmeth f).sig.returnType = none)   (h : st_X11_layGlyph_260 q P (at_X11_layGlyph_35 f g T0 q P) (at_X11_layGlyph_78 f g T0 q P) (at_X11_layGlyph_84 f g T0 q P) (at_X11_layGlyph_96 f g T0 q P) (at_X11_layGlyph_139 f g T0 q P) (at_X11_layGlyph_183 f g T0 q P) (at_X11_layGlyph_186 f g T0 q P) (at_X11_layGlyph_195 f g T0 q P) (at_X11_layGlyph_221 f g T0 q P) (at_X11_layGlyph_260 f g T0 q P) S ) : at_X11_layGlyph_260 f g T0 q P S  := by
  intro hT 
  unfold st_X11_layGlyph_260 at h
  exact ww_vret C hrt dX11_layGlyph_260 hT h
def wp_X11_layGlyph (S : St) (q : Int32) (P : St → Prop) : Prop :=
  ∀ (X35 : St → Int32 → Int32 → Int32 → Prop) (X78 : St → Int32 → Int32 → Int32 → Prop) (X84 : St → Int32 → Int32 → Int32 → Prop) (X96 : St → Int32 → Int32 → Int32 → Int32 → Prop) (X139 : St → Int32 → Int32 → Int32 → Int32 → Int32 → Prop) (X183 : St → Int32 → Int32 → Int32 → Prop) (X186 : St → Int32 → Int32 → Int32 → Int32 → Prop) (X195 : St → Int32 → Int32 → Int32 → Prop) (X221 : St → Int32 → Int32 → Int32 → Prop) (X260 : St → Prop), (∀ S v2 v3 v4, st_X11_layGlyph_35 q P X35 X78 X84 X96 X139 X183 X186 X195 X221 X260 S v2 v3 v4 → X35 S v2 v3 v4) → (∀ S v2 v3 v4, st_X11_layGlyph_78 q P X35 X78 X84 X96 X139 X183 X186 X195 X221 X260 S v2 v3 v4 → X78 S v2 v3 v4) → (∀ S v2 v3 v4, st_X11_layGlyph_84 q P X35 X78 X84 X96 X139 X183 X186 X195 X221 X260 S v2 v3 v4 → X84 S v2 v3 v4) → (∀ S v2 v3 v4 v5, st_X11_layGlyph_96 q P X35 X78 X84 X96 X139 X183 X186 X195 X221 X260 S v2 v3 v4 v5 → X96 S v2 v3 v4 v5) → (∀ S v2 v3 v4 v5 v6, st_X11_layGlyph_139 q P X35 X78 X84 X96 X139 X183 X186 X195 X221 X260 S v2 v3 v4 v5 v6 → X139 S v2 v3 v4 v5 v6) → (∀ S v2 v3 v5, st_X11_layGlyph_183 q P X35 X78 X84 X96 X139 X183 X186 X195 X221 X260 S v2 v3 v5 → X183 S v2 v3 v5) → (∀ S v2 v3 v4 v5, st_X11_layGlyph_186 q P X35 X78 X84 X96 X139 X183 X186 X195 X221 X260 S v2 v3 v4 v5 → X186 S v2 v3 v4 v5) → (∀ S v2 v3 v5, st_X11_layGlyph_195 q P X35 X78 X84 X96 X139 X183 X186 X195 X221 X260 S v2 v3 v5 → X195 S v2 v3 v5) → (∀ S v2 v3 v5, st_X11_layGlyph_221 q P X35 X78 X84 X96 X139 X183 X186 X195 X221 X260 S v2 v3 v5 → X221 S v2 v3 v5) → (∀ S , st_X11_layGlyph_260 q P X35 X78 X84 X96 X139 X183 X186 X195 X221 X260 S  → X260 S ) → (vp_in q (gw_ml 1) ∧ ((¬ (S.2.1 11 q.toNatClampNeg) = 0 → ∀ x87 : Int32, x87 = S.2.1 9 5 → (vp_in q (gw_ml 1) ∧ wp_X11_lay S (S.2.1 11 q.toNatClampNeg) (fun S88 => (vp_in q (gw_ml 2) ∧ ∀ x90 : Int32, x90 = S88.2.1 12 q.toNatClampNeg → X35 S88 x87 x90 0)))) ∧ ((S.2.1 11 q.toNatClampNeg) = 0 → P S)))
set_option maxHeartbeats 4000000 in
set_option maxRecDepth 100000 in
theorem run_X11_layGlyph {l : Launch} {g : Gx} {S : St} {q : Int32} {P : St → Prop}  (h : rowsLe S → wp_X11_layGlyph S q P) : CMv g l yX11_layGlyph cX11_layGlyph 7 none rm_X11_layGlyph [.ref (gad g 158), .int q] S P := cm_entry (own := RX11) (plainFor_of_name (by decide)) rfl (Nat.le_of_ble_eq_true rfl) rfl (fun hle f hf C hrt => by
  subst hf
  replace h := h hle
  obtain ⟨T0, hT⟩ : ∃ T, S.2.2.1 = T := ⟨_, rfl⟩
  rw [hT]
  replace h := h (at_X11_layGlyph_35 f g T0 q P) (at_X11_layGlyph_78 f g T0 q P) (at_X11_layGlyph_84 f g T0 q P) (at_X11_layGlyph_96 f g T0 q P) (at_X11_layGlyph_139 f g T0 q P) (at_X11_layGlyph_183 f g T0 q P) (at_X11_layGlyph_186 f g T0 q P) (at_X11_layGlyph_195 f g T0 q P) (at_X11_layGlyph_221 f g T0 q P) (at_X11_layGlyph_260 f g T0 q P) (fun S v2 v3 v4 h => run_X11_layGlyph_35 C hrt  h) (fun S v2 v3 v4 h => run_X11_layGlyph_78 C hrt  h) (fun S v2 v3 v4 h => run_X11_layGlyph_84 C hrt  h) (fun S v2 v3 v4 v5 h => run_X11_layGlyph_96 C hrt  h) (fun S v2 v3 v4 v5 v6 h => run_X11_layGlyph_139 C hrt  h) (fun S v2 v3 v5 h => run_X11_layGlyph_183 C hrt  h) (fun S v2 v3 v4 v5 h => run_X11_layGlyph_186 C hrt  h) (fun S v2 v3 v5 h => run_X11_layGlyph_195 C hrt  h) (fun S v2 v3 v5 h => run_X11_layGlyph_221 C hrt  h) (fun S  h => run_X11_layGlyph_260 C hrt  h)
  refine ww_aload_n C dX11_layGlyph_0 0 rfl ?_
  refine gf_Model_contours C bw_926 dX11_layGlyph_1 ?_
  refine ww_iload_n C dX11_layGlyph_4 1 rfl ?_
  refine ia_m (a := 1) C (by decide) (by decide) h.1 dX11_layGlyph_5 ?_
  replace h := h.2
  refine ww_if_ne (tgt := 10) C dX11_layGlyph_6 (by decide) (fun q86 => ?_) (fun q86 => ?_)
  · replace h := h.1 q86
    refine ww_aload_n C dX11_layGlyph_10 0 rfl ?_
    refine gf_Model_parted C bw_949 dX11_layGlyph_11 ?_
    refine ww_topi (fun x87 e_x87 => ?_)
    replace h := h x87 e_x87
    refine ww_istore_n (lv2 := [(2, .int x87), (0, .ref (gad g 158)), (1, .int q)]) C dX11_layGlyph_14 rfl (Nat.le_of_ble_eq_true rfl) rfl ?_
    refine ww_aload_n C dX11_layGlyph_15 1 rfl ?_
    refine ww_aload_n C dX11_layGlyph_16 1 rfl ?_
    refine gf_Model_contours C bw_926 dX11_layGlyph_17 ?_
    refine ww_iload_n C dX11_layGlyph_20 2 rfl ?_
    refine ia_m (a := 1) C (by decide) (by decide) h.1 dX11_layGlyph_21 ?_
    replace h := h.2
    refine ww_cVv (As := [.int (S.2.1 11 q.toNatClampNeg)]) (rest := []) C ok_X11_lay bw_1128 dX11_layGlyph_22 (run_X11_lay  (fun _ => h)) rc_Model rfl ⟨Nat.le_of_ble_eq_true rfl, Nat.le_of_ble_eq_true rfl⟩ (Nat.le_of_ble_eq_true rfl) (c2 := 0) (s2 := 0) rfl rfl ⟨Nat.le_of_ble_eq_true rfl, Nat.le_of_ble_eq_true rfl⟩ rfl (fun S88 hp hTg => ?_)
    replace h := hp
    have hT_S88 : S88.2.2.1 = T0 := by rw [hTg]; exact hT
    refine ww_aload_n C dX11_layGlyph_25 1 rfl ?_
    refine gf_Model_points C bw_927 dX11_layGlyph_26 ?_
    refine ww_iload_n C dX11_layGlyph_29 2 rfl ?_
    refine ia_m (a := 2) C (by decide) (by decide) h.1 dX11_layGlyph_30 ?_
    replace h := h.2
    refine ww_topi (fun x90 e_x90 => ?_)
    replace h := h x90 e_x90
    refine ww_istore_n (lv2 := [(3, .int x90), (2, .int x87), (0, .ref (gad g 158)), (1, .int q)]) C dX11_layGlyph_31 rfl (Nat.le_of_ble_eq_true rfl) rfl ?_
    refine ww_iconst (v := 0) C dX11_layGlyph_32 (by decide) ?_
    refine ww_istore (lv2 := [(4, .int 0), (3, .int x90), (2, .int x87), (0, .ref (gad g 158)), (1, .int q)]) C dX11_layGlyph_33 (Nat.le_of_ble_eq_true rfl) rfl ?_
    exact ww_sub [3, 4, 2, 1, 0] rfl (h hT_S88)
  · replace h := h.2 q86
    exact ww_vret C hrt dX11_layGlyph_9 hT h)
abbrev rm_X11_sizeBefore : Room := { frames := 3, cells := 0, slots := 0, locals := 73 }
theorem ok_X11_sizeBefore : MOK yX11_sizeBefore RX11 cX11_sizeBefore 3 (some .int) 1 := ⟨bw_1146, bw_33, bw_69, bw_1147, by decide +kernel⟩
def st_X11_sizeBefore_8 (q : Int32) (P : Int32 → St → Prop) (X8 : St → Int32 → Prop) (S : St) (v2 : Int32) : Prop :=
  ((q ≤ v2 → P ((S.2.1 9 5) - 100) S) ∧ (¬ q ≤ v2 → wp_X11_layGlyph S v2 (fun S7 => ∀ x9 : Int32, x9 = v2 + 1 → X8 S7 x9)))
def at_X11_sizeBefore_8 (f : Fx) (g : Gx) (T0 : List (Nat × Nat × Nat)) (q : Int32) (P : Int32 → St → Prop) (S : St) (v2 : Int32) : Prop := S.2.2.1 = T0 → WW f rm_X11_sizeBefore g 3 0 0 (Qi f g 0 0 T0 P) S 8 [(0, .ref (gad g 158)), (1, .int q), (2, .int v2)] []
set_option maxHeartbeats 4000000 in
set_option maxRecDepth 100000 in
theorem run_X11_sizeBefore_8 {f : Fx} {g : Gx} {T0 : List (Nat × Nat × Nat)} {S : St} {q : Int32} {P : Int32 → St → Prop} (C : Cx f g cX11_sizeBefore 3 RX11) (hrt : (fmeth f).sig.returnType = (some .int))  {v2 : Int32} (h : st_X11_sizeBefore_8 q P (at_X11_sizeBefore_8 f g T0 q P) S v2) : at_X11_sizeBefore_8 f g T0 q P S v2 := by
  intro hT 
  unfold st_X11_sizeBefore_8 at h
  refine ww_iload_n C dX11_sizeBefore_8 2 rfl ?_
  refine ww_iload_n C dX11_sizeBefore_9 1 rfl ?_
  refine ww_icmp_ge (tgt := 24) C dX11_sizeBefore_10 (by decide) (fun q6 => ?_) (fun q6 => ?_)
  · replace h := h.1 q6
    refine ww_aload_n C dX11_sizeBefore_24 0 rfl ?_
    refine gf_Model_parted C bw_949 dX11_sizeBefore_25 ?_
    refine ww_bipush (v := 100) C dX11_sizeBefore_28 (by decide) ?_
    refine ww_isub C dX11_sizeBefore_30 ?_
    exact ww_iret C hrt dX11_sizeBefore_31 hT h
  · replace h := h.2 q6
    refine ww_aload_n C dX11_sizeBefore_13 0 rfl ?_
    refine ww_iload_n C dX11_sizeBefore_14 2 rfl ?_
    refine ww_cVv (As := [.int v2]) (rest := []) C ok_X11_layGlyph bw_1132 dX11_sizeBefore_15 (run_X11_layGlyph  (fun _ => h)) rc_Model rfl ⟨Nat.le_of_ble_eq_true rfl, Nat.le_of_ble_eq_true rfl⟩ (Nat.le_of_ble_eq_true rfl) (c2 := 0) (s2 := 0) rfl rfl ⟨Nat.le_of_ble_eq_true rfl, Nat.le_of_ble_eq_true rfl⟩ rfl (fun S7 hp hTg => ?_)
    replace h := hp
    have hT_S7 : S7.2.2.1 = T0 := by rw [hTg]; exact hT
    obtain ⟨x9, e_x9⟩ : ∃ z : Int32, z = v2 + 1 := ⟨_, rfl⟩
    replace h := h x9 e_x9
    refine ww_iinc (v := x9) (lv2 := [(2, .int x9), (0, .ref (gad g 158)), (1, .int q)]) C dX11_sizeBefore_18 2 rfl (by rw [e_x9]; rfl) (Nat.le_of_ble_eq_true rfl) rfl ?_
    refine ww_goto (tgt := 8) C dX11_sizeBefore_21 (by decide) ?_
    exact ww_sub [1, 2, 0] rfl (h hT_S7)
def wp_X11_sizeBefore (S : St) (q : Int32) (P : Int32 → St → Prop) : Prop :=
  ∀ (X8 : St → Int32 → Prop), (∀ S v2, st_X11_sizeBefore_8 q P X8 S v2 → X8 S v2) → ∀ S10 : St, S10 = stM S 9 5 100 → X8 S10 0
set_option maxHeartbeats 4000000 in
set_option maxRecDepth 100000 in
theorem run_X11_sizeBefore {l : Launch} {g : Gx} {S : St} {q : Int32} {P : Int32 → St → Prop}  (h : rowsLe S → wp_X11_sizeBefore S q P) : CMi g l yX11_sizeBefore cX11_sizeBefore 3 (some .int) rm_X11_sizeBefore [.ref (gad g 158), .int q] S P := cm_entry (own := RX11) (plainFor_of_name (by decide)) rfl (Nat.le_of_ble_eq_true rfl) rfl (fun hle f hf C hrt => by
  subst hf
  replace h := h hle
  obtain ⟨T0, hT⟩ : ∃ T, S.2.2.1 = T := ⟨_, rfl⟩
  rw [hT]
  replace h := h (at_X11_sizeBefore_8 f g T0 q P) (fun S v2 h => run_X11_sizeBefore_8 C hrt  h)
  refine ww_aload_n C dX11_sizeBefore_0 0 rfl ?_
  refine ww_bipush (v := 100) C dX11_sizeBefore_1 (by decide) ?_
  refine pf_Model_parted C bw_949 dX11_sizeBefore_3 ?_
  refine ww_nm (fun S10 e_S10 => ?_)
  replace h := h S10 e_S10
  have hT_S10 : S10.2.2.1 = T0 := by rw [e_S10]; exact hT
  refine ww_iconst (v := 0) C dX11_sizeBefore_6 (by decide) ?_
  refine ww_istore_n (lv2 := [(2, .int 0), (0, .ref (gad g 158)), (1, .int q)]) C dX11_sizeBefore_7 rfl (Nat.le_of_ble_eq_true rfl) rfl ?_
  exact ww_sub [1, 2, 0] rfl (h hT_S10))
abbrev rm_X11_layTable : Room := { frames := 4, cells := 0, slots := 0, locals := 95 }
theorem ok_X11_layTable : MOK yX11_layTable RX11 cX11_layTable 4 none 1 := ⟨bw_1126, bw_28, bw_69, bw_1127, by decide +kernel⟩
def st_X11_layTable_7 (t : Int32) (P : St → Prop) (X7 : St → Int32 → Prop) (X40 : St → Int32 → Prop) (X63 : St → Prop) (X71 : St → Int32 → Prop) (S : St) (v2 : Int32) : Prop :=
  (vp_in t (gw_ml 7) ∧ (((S.2.1 17 t.toNatClampNeg) ≤ v2 → X40 S 0) ∧ (¬ (S.2.1 17 t.toNatClampNeg) ≤ v2 → (vp_in ((20 * t) + v2) (gw_ml 8) ∧ wp_X11_lay S (S.2.1 18 ((20 * t) + v2).toNatClampNeg) (fun S26 => ∀ x28 : Int32, x28 = v2 + 1 → X7 S26 x28)))))
def st_X11_layTable_40 (t : Int32) (P : St → Prop) (X7 : St → Int32 → Prop) (X40 : St → Int32 → Prop) (X63 : St → Prop) (X71 : St → Int32 → Prop) (S : St) (v2 : Int32) : Prop :=
  (((S.2.1 9 1) ≤ v2 → X63 S) ∧ (¬ (S.2.1 9 1) ≤ v2 → ((¬ t = 0 → X63 S) ∧ (t = 0 → wp_X11_layGlyph S v2 (fun S31 => ∀ x33 : Int32, x33 = v2 + 1 → X40 S31 x33)))))
def st_X11_layTable_63 (t : Int32) (P : St → Prop) (X7 : St → Int32 → Prop) (X40 : St → Int32 → Prop) (X63 : St → Prop) (X71 : St → Int32 → Prop) (S : St)  : Prop :=
  ((t = 1 → X71 S 0) ∧ (¬ t = 1 → P S))
def st_X11_layTable_71 (t : Int32) (P : St → Prop) (X7 : St → Int32 → Prop) (X40 : St → Int32 → Prop) (X63 : St → Prop) (X71 : St → Int32 → Prop) (S : St) (v2 : Int32) : Prop :=
  (((S.2.1 9 1) ≤ v2 → P S) ∧ (¬ (S.2.1 9 1) ≤ v2 → wp_X11_sizeBefore S v2 (fun r37 S36 => ∀ S38 : St, S38 = stM S36 9 5 (4 * v2) → (vp_in v2 (gw_ml 0) ∧ wp_X11_lay S38 ((S38.2.1 10 v2.toNatClampNeg) >>> (8 &&& 31)) (fun S39 => (vp_in v2 (gw_ml 0) ∧ wp_X11_lay S39 (S39.2.1 10 v2.toNatClampNeg) (fun S41 => wp_X11_lay S41 (r37 >>> (8 &&& 31)) (fun S43 => wp_X11_lay S43 r37 (fun S45 => ∀ x47 : Int32, x47 = v2 + 1 → X71 S45 x47)))))))))
def at_X11_layTable_7 (f : Fx) (g : Gx) (T0 : List (Nat × Nat × Nat)) (t : Int32) (P : St → Prop) (S : St) (v2 : Int32) : Prop := S.2.2.1 = T0 → WW f rm_X11_layTable g 4 0 0 (Qv f g 0 0 T0 P) S 7 [(0, .ref (gad g 158)), (1, .int t), (2, .int v2)] []
def at_X11_layTable_40 (f : Fx) (g : Gx) (T0 : List (Nat × Nat × Nat)) (t : Int32) (P : St → Prop) (S : St) (v2 : Int32) : Prop := S.2.2.1 = T0 → WW f rm_X11_layTable g 4 0 0 (Qv f g 0 0 T0 P) S 40 [(0, .ref (gad g 158)), (1, .int t), (2, .int v2)] []
def at_X11_layTable_63 (f : Fx) (g : Gx) (T0 : List (Nat × Nat × Nat)) (t : Int32) (P : St → Prop) (S : St)  : Prop := S.2.2.1 = T0 → WW f rm_X11_layTable g 4 0 0 (Qv f g 0 0 T0 P) S 63 [(0, .ref (gad g 158)), (1, .int t)] []
def at_X11_layTable_71 (f : Fx) (g : Gx) (T0 : List (Nat × Nat × Nat)) (t : Int32) (P : St → Prop) (S : St) (v2 : Int32) : Prop := S.2.2.1 = T0 → WW f rm_X11_layTable g 4 0 0 (Qv f g 0 0 T0 P) S 71 [(0, .ref (gad g 158)), (2, .int v2)] []
set_option maxHeartbeats 4000000 in
set_option maxRecDepth 100000 in
theorem run_X11_layTable_7 {f : Fx} {g : Gx} {T0 : List (Nat × Nat × Nat)} {S : St} {t : Int32} {P : St → Prop} (C : Cx f g cX11_layTable 4 RX11) (hrt : (fmeth f).sig.returnType = none)  {v2 : Int32} (h : st_X11_layTable_7 t P (at_X11_layTable_7 f g T0 t P) (at_X11_layTable_40 f g T0 t P) (at_X11_layTable_63 f g T0 t P) (at_X11_layTable_71 f g T0 t P) S v2) : at_X11_layTable_7 f g T0 t P S v2 := by
  intro hT 
  unfold st_X11_layTable_7 at h
  refine ww_iload_n C dX11_layTable_7 2 rfl ?_
  refine ww_aload_n C dX11_layTable_8 0 rfl ?_
  refine gf_Model_rowSize C bw_932 dX11_layTable_9 ?_
  refine ww_iload_n C dX11_layTable_12 1 rfl ?_
  refine ia_m (a := 7) C (by decide) (by decide) h.1 dX11_layTable_13 ?_
  replace h := h.2
  refine ww_icmp_ge (tgt := 38) C dX11_layTable_14 (by decide) (fun q25 => ?_) (fun q25 => ?_)
  · replace h := h.1 q25
    refine ww_iconst (v := 0) C dX11_layTable_38 (by decide) ?_
    refine ww_istore_n (lv2 := [(2, .int 0), (0, .ref (gad g 158)), (1, .int t)]) C dX11_layTable_39 rfl (Nat.le_of_ble_eq_true rfl) rfl ?_
    exact ww_sub [1, 2, 0] rfl (h hT)
  · replace h := h.2 q25
    refine ww_aload_n C dX11_layTable_17 0 rfl ?_
    refine ww_aload_n C dX11_layTable_18 0 rfl ?_
    refine gf_Model_row C bw_933 dX11_layTable_19 ?_
    refine ww_bipush (v := 20) C dX11_layTable_22 (by decide) ?_
    refine ww_iload_n C dX11_layTable_24 1 rfl ?_
    refine ww_imul C dX11_layTable_25 ?_
    refine ww_iload_n C dX11_layTable_26 2 rfl ?_
    refine ww_iadd C dX11_layTable_27 ?_
    refine ia_m (a := 8) C (by decide) (by decide) h.1 dX11_layTable_28 ?_
    replace h := h.2
    refine ww_cVv (As := [.int (S.2.1 18 ((20 * t) + v2).toNatClampNeg)]) (rest := []) C ok_X11_lay bw_1128 dX11_layTable_29 (run_X11_lay  (fun _ => h)) rc_Model rfl ⟨Nat.le_of_ble_eq_true rfl, Nat.le_of_ble_eq_true rfl⟩ (Nat.le_of_ble_eq_true rfl) (c2 := 0) (s2 := 0) rfl rfl ⟨Nat.le_of_ble_eq_true rfl, Nat.le_of_ble_eq_true rfl⟩ rfl (fun S26 hp hTg => ?_)
    replace h := hp
    have hT_S26 : S26.2.2.1 = T0 := by rw [hTg]; exact hT
    obtain ⟨x28, e_x28⟩ : ∃ z : Int32, z = v2 + 1 := ⟨_, rfl⟩
    replace h := h x28 e_x28
    refine ww_iinc (v := x28) (lv2 := [(2, .int x28), (0, .ref (gad g 158)), (1, .int t)]) C dX11_layTable_32 2 rfl (by rw [e_x28]; rfl) (Nat.le_of_ble_eq_true rfl) rfl ?_
    refine ww_goto (tgt := 7) C dX11_layTable_35 (by decide) ?_
    exact ww_sub [1, 2, 0] rfl (h hT_S26)
set_option maxHeartbeats 4000000 in
set_option maxRecDepth 100000 in
theorem run_X11_layTable_40 {f : Fx} {g : Gx} {T0 : List (Nat × Nat × Nat)} {S : St} {t : Int32} {P : St → Prop} (C : Cx f g cX11_layTable 4 RX11) (hrt : (fmeth f).sig.returnType = none)  {v2 : Int32} (h : st_X11_layTable_40 t P (at_X11_layTable_7 f g T0 t P) (at_X11_layTable_40 f g T0 t P) (at_X11_layTable_63 f g T0 t P) (at_X11_layTable_71 f g T0 t P) S v2) : at_X11_layTable_40 f g T0 t P S v2 := by
  intro hT 
  unfold st_X11_layTable_40 at h
  refine ww_iload_n C dX11_layTable_40 2 rfl ?_
  refine ww_aload_n C dX11_layTable_41 0 rfl ?_
  refine gf_Model_glyphs C bw_924 dX11_layTable_42 ?_
  refine ww_icmp_ge (tgt := 63) C dX11_layTable_45 (by decide) (fun q29 => ?_) (fun q29 => ?_)
  · replace h := h.1 q29
    exact ww_sub [0, 1] rfl (h hT)
  · replace h := h.2 q29
    refine ww_iload_n C dX11_layTable_48 1 rfl ?_
    refine ww_if_ne (tgt := 63) C dX11_layTable_49 (by decide) (fun q30 => ?_) (fun q30 => ?_)
    · replace h := h.1 q30
      exact ww_sub [0, 1] rfl (h hT)
    · replace h := h.2 q30
      refine ww_aload_n C dX11_layTable_52 0 rfl ?_
      refine ww_iload_n C dX11_layTable_53 2 rfl ?_
      refine ww_cVv (As := [.int v2]) (rest := []) C ok_X11_layGlyph bw_1132 dX11_layTable_54 (run_X11_layGlyph  (fun _ => h)) rc_Model rfl ⟨Nat.le_of_ble_eq_true rfl, Nat.le_of_ble_eq_true rfl⟩ (Nat.le_of_ble_eq_true rfl) (c2 := 0) (s2 := 0) rfl rfl ⟨Nat.le_of_ble_eq_true rfl, Nat.le_of_ble_eq_true rfl⟩ rfl (fun S31 hp hTg => ?_)
      replace h := hp
      have hT_S31 : S31.2.2.1 = T0 := by rw [hTg]; exact hT
      obtain ⟨x33, e_x33⟩ : ∃ z : Int32, z = v2 + 1 := ⟨_, rfl⟩
      replace h := h x33 e_x33
      refine ww_iinc (v := x33) (lv2 := [(2, .int x33), (0, .ref (gad g 158)), (1, .int t)]) C dX11_layTable_57 2 rfl (by rw [e_x33]; rfl) (Nat.le_of_ble_eq_true rfl) rfl ?_
      refine ww_goto (tgt := 40) C dX11_layTable_60 (by decide) ?_
      exact ww_sub [1, 2, 0] rfl (h hT_S31)
set_option maxHeartbeats 4000000 in
set_option maxRecDepth 100000 in
theorem run_X11_layTable_63 {f : Fx} {g : Gx} {T0 : List (Nat × Nat × Nat)} {S : St} {t : Int32} {P : St → Prop} (C : Cx f g cX11_layTable 4 RX11) (hrt : (fmeth f).sig.returnType = none)   (h : st_X11_layTable_63 t P (at_X11_layTable_7 f g T0 t P) (at_X11_layTable_40 f g T0 t P) (at_X11_layTable_63 f g T0 t P) (at_X11_layTable_71 f g T0 t P) S ) : at_X11_layTable_63 f g T0 t P S  := by
  intro hT 
  unfold st_X11_layTable_63 at h
  refine ww_iload_n C dX11_layTable_63 1 rfl ?_
  refine ww_iconst (v := 1) C dX11_layTable_64 (by decide) ?_
  refine ww_icmp_eq (tgt := 69) C dX11_layTable_65 (by decide) (fun q34 => ?_) (fun q34 => ?_)
  · replace h := h.1 q34
    refine ww_iconst (v := 0) C dX11_layTable_69 (by decide) ?_
    refine ww_istore_n (lv2 := [(2, .int 0), (0, .ref (gad g 158)), (1, .int t)]) C dX11_layTable_70 rfl (Nat.le_of_ble_eq_true rfl) rfl ?_
    exact ww_sub [1, 0] rfl (h hT)
  · replace h := h.2 q34
    exact ww_vret C hrt dX11_layTable_68 hT h
set_option maxHeartbeats 4000000 in
set_option maxRecDepth 100000 in
theorem run_X11_layTable_71 {f : Fx} {g : Gx} {T0 : List (Nat × Nat × Nat)} {S : St} {t : Int32} {P : St → Prop} (C : Cx f g cX11_layTable 4 RX11) (hrt : (fmeth f).sig.returnType = none)  {v2 : Int32} (h : st_X11_layTable_71 t P (at_X11_layTable_7 f g T0 t P) (at_X11_layTable_40 f g T0 t P) (at_X11_layTable_63 f g T0 t P) (at_X11_layTable_71 f g T0 t P) S v2) : at_X11_layTable_71 f g T0 t P S v2 := by
  intro hT 
  unfold st_X11_layTable_71 at h
  refine ww_iload_n C dX11_layTable_71 1 rfl ?_
  refine ww_aload_n C dX11_layTable_72 0 rfl ?_
  refine gf_Model_glyphs C bw_924 dX11_layTable_73 ?_
  refine ww_icmp_ge (tgt := 134) C dX11_layTable_76 (by decide) (fun q35 => ?_) (fun q35 => ?_)
  · replace h := h.1 q35
    exact ww_vret C hrt dX11_layTable_134 hT h
  · replace h := h.2 q35
    refine ww_aload_n C dX11_layTable_79 0 rfl ?_
    refine ww_iload_n C dX11_layTable_80 1 rfl ?_
    refine ww_cVi (As := [.int v2]) (rest := []) C ok_X11_sizeBefore bw_1144 dX11_layTable_81 (run_X11_sizeBefore  (fun _ => h)) rc_Model rfl ⟨Nat.le_of_ble_eq_true rfl, Nat.le_of_ble_eq_true rfl⟩ (Nat.le_of_ble_eq_true rfl) (c2 := 0) (s2 := 0) rfl rfl ⟨Nat.le_of_ble_eq_true rfl, Nat.le_of_ble_eq_true rfl⟩ rfl (fun r37 S36 hp hTg => ?_)
    replace h := hp
    have hT_S36 : S36.2.2.1 = T0 := by rw [hTg]; exact hT
    refine ww_istore_n (lv2 := [(3, .int r37), (0, .ref (gad g 158)), (2, .int v2)]) C dX11_layTable_84 rfl (Nat.le_of_ble_eq_true rfl) rfl ?_
    refine ww_aload_n C dX11_layTable_85 1 rfl ?_
    refine ww_iconst (v := 4) C dX11_layTable_86 (by decide) ?_
    refine ww_iload_n C dX11_layTable_87 2 rfl ?_
    refine ww_imul C dX11_layTable_88 ?_
    refine pf_Model_parted C bw_949 dX11_layTable_89 ?_
    refine ww_nm (fun S38 e_S38 => ?_)
    replace h := h S38 e_S38
    have hT_S38 : S38.2.2.1 = T0 := by rw [e_S38]; exact hT_S36
    refine ww_aload_n C dX11_layTable_92 1 rfl ?_
    refine ww_aload_n C dX11_layTable_93 1 rfl ?_
    refine gf_Model_advance C bw_925 dX11_layTable_94 ?_
    refine ww_iload_n C dX11_layTable_97 2 rfl ?_
    refine ia_m (a := 0) C (by decide) (by decide) h.1 dX11_layTable_98 ?_
    replace h := h.2
    refine ww_bipush (v := 8) C dX11_layTable_99 (by decide) ?_
    refine ww_ishr C dX11_layTable_101 ?_
    refine ww_cVv (As := [.int ((S38.2.1 10 v2.toNatClampNeg) >>> (8 &&& 31))]) (rest := []) C ok_X11_lay bw_1128 dX11_layTable_102 (run_X11_lay  (fun _ => h)) rc_Model rfl ⟨Nat.le_of_ble_eq_true rfl, Nat.le_of_ble_eq_true rfl⟩ (Nat.le_of_ble_eq_true rfl) (c2 := 0) (s2 := 0) rfl rfl ⟨Nat.le_of_ble_eq_true rfl, Nat.le_of_ble_eq_true rfl⟩ rfl (fun S39 hp hTg => ?_)
    replace h := hp
    have hT_S39 : S39.2.2.1 = T0 := by rw [hTg]; exact hT_S38
    refine ww_aload_n C dX11_layTable_105 1 rfl ?_
    refine ww_aload_n C dX11_layTable_106 1 rfl ?_
    refine gf_Model_advance C bw_925 dX11_layTable_107 ?_
    refine ww_iload_n C dX11_layTable_110 2 rfl ?_
    refine ia_m (a := 0) C (by decide) (by decide) h.1 dX11_layTable_111 ?_
    replace h := h.2
    refine ww_cVv (As := [.int (S39.2.1 10 v2.toNatClampNeg)]) (rest := []) C ok_X11_lay bw_1128 dX11_layTable_112 (run_X11_lay  (fun _ => h)) rc_Model rfl ⟨Nat.le_of_ble_eq_true rfl, Nat.le_of_ble_eq_true rfl⟩ (Nat.le_of_ble_eq_true rfl) (c2 := 0) (s2 := 0) rfl rfl ⟨Nat.le_of_ble_eq_true rfl, Nat.le_of_ble_eq_true rfl⟩ rfl (fun S41 hp hTg => ?_)
    replace h := hp
    have hT_S41 : S41.2.2.1 = T0 := by rw [hTg]; exact hT_S39
    refine ww_aload_n C dX11_layTable_115 1 rfl ?_
    refine ww_iload_n C dX11_layTable_116 0 rfl ?_
    refine ww_bipush (v := 8) C dX11_layTable_117 (by decide) ?_
    refine ww_ishr C dX11_layTable_119 ?_
    refine ww_cVv (As := [.int (r37 >>> (8 &&& 31))]) (rest := []) C ok_X11_lay bw_1128 dX11_layTable_120 (run_X11_lay  (fun _ => h)) rc_Model rfl ⟨Nat.le_of_ble_eq_true rfl, Nat.le_of_ble_eq_true rfl⟩ (Nat.le_of_ble_eq_true rfl) (c2 := 0) (s2 := 0) rfl rfl ⟨Nat.le_of_ble_eq_true rfl, Nat.le_of_ble_eq_true rfl⟩ rfl (fun S43 hp hTg => ?_)
    replace h := hp
    have hT_S43 : S43.2.2.1 = T0 := by rw [hTg]; exact hT_S41
    refine ww_aload_n C dX11_layTable_123 1 rfl ?_
    refine ww_iload_n C dX11_layTable_124 0 rfl ?_
    refine ww_cVv (As := [.int r37]) (rest := []) C ok_X11_lay bw_1128 dX11_layTable_125 (run_X11_lay  (fun _ => h)) rc_Model rfl ⟨Nat.le_of_ble_eq_true rfl, Nat.le_of_ble_eq_true rfl⟩ (Nat.le_of_ble_eq_true rfl) (c2 := 0) (s2 := 0) rfl rfl ⟨Nat.le_of_ble_eq_true rfl, Nat.le_of_ble_eq_true rfl⟩ rfl (fun S45 hp hTg => ?_)
    replace h := hp
    have hT_S45 : S45.2.2.1 = T0 := by rw [hTg]; exact hT_S43
    obtain ⟨x47, e_x47⟩ : ∃ z : Int32, z = v2 + 1 := ⟨_, rfl⟩
    replace h := h x47 e_x47
    refine ww_iinc (v := x47) (lv2 := [(2, .int x47), (3, .int r37), (0, .ref (gad g 158))]) C dX11_layTable_128 2 rfl (by rw [e_x47]; rfl) (Nat.le_of_ble_eq_true rfl) rfl ?_
    refine ww_goto (tgt := 71) C dX11_layTable_131 (by decide) ?_
    exact ww_sub [2, 0] rfl (h hT_S45)
def wp_X11_layTable (S : St) (t : Int32) (P : St → Prop) : Prop :=
  ∀ (X7 : St → Int32 → Prop) (X40 : St → Int32 → Prop) (X63 : St → Prop) (X71 : St → Int32 → Prop), (∀ S v2, st_X11_layTable_7 t P X7 X40 X63 X71 S v2 → X7 S v2) → (∀ S v2, st_X11_layTable_40 t P X7 X40 X63 X71 S v2 → X40 S v2) → (∀ S , st_X11_layTable_63 t P X7 X40 X63 X71 S  → X63 S ) → (∀ S v2, st_X11_layTable_71 t P X7 X40 X63 X71 S v2 → X71 S v2) → ∀ S48 : St, S48 = stM S 9 5 0 → X7 S48 0
set_option maxHeartbeats 4000000 in
set_option maxRecDepth 100000 in
theorem run_X11_layTable {l : Launch} {g : Gx} {S : St} {t : Int32} {P : St → Prop}  (h : rowsLe S → wp_X11_layTable S t P) : CMv g l yX11_layTable cX11_layTable 4 none rm_X11_layTable [.ref (gad g 158), .int t] S P := cm_entry (own := RX11) (plainFor_of_name (by decide)) rfl (Nat.le_of_ble_eq_true rfl) rfl (fun hle f hf C hrt => by
  subst hf
  replace h := h hle
  obtain ⟨T0, hT⟩ : ∃ T, S.2.2.1 = T := ⟨_, rfl⟩
  rw [hT]
  replace h := h (at_X11_layTable_7 f g T0 t P) (at_X11_layTable_40 f g T0 t P) (at_X11_layTable_63 f g T0 t P) (at_X11_layTable_71 f g T0 t P) (fun S v2 h => run_X11_layTable_7 C hrt  h) (fun S v2 h => run_X11_layTable_40 C hrt  h) (fun S  h => run_X11_layTable_63 C hrt  h) (fun S v2 h => run_X11_layTable_71 C hrt  h)
  refine ww_aload_n C dX11_layTable_0 0 rfl ?_
  refine ww_iconst (v := 0) C dX11_layTable_1 (by decide) ?_
  refine pf_Model_parted C bw_949 dX11_layTable_2 ?_
  refine ww_nm (fun S48 e_S48 => ?_)
  replace h := h S48 e_S48
  have hT_S48 : S48.2.2.1 = T0 := by rw [e_S48]; exact hT
  refine ww_iconst (v := 0) C dX11_layTable_5 (by decide) ?_
  refine ww_istore_n (lv2 := [(2, .int 0), (0, .ref (gad g 158)), (1, .int t)]) C dX11_layTable_6 rfl (Nat.le_of_ble_eq_true rfl) rfl ?_
  exact ww_sub [1, 2, 0] rfl (h hT_S48))
