abbrev rm_X11_thrown : Room := { frames := 0, cells := 0, slots := 0, locals := 0 }
theorem ok_X11_thrown : MOK yX11_thrown RX11 cX11_thrown 1 (some .int) 0 := ⟨bw_1043, bw_1044, bw_69, bw_1045, by decide +kernel⟩
def wp_X11_thrown (S : St)  (P : Int32 → St → Prop) : Prop :=
  P (S.2.1 9 0) S
set_option maxHeartbeats 4000000 in
set_option maxRecDepth 100000 in
theorem run_X11_thrown {l : Launch} {g : Gx} {S : St}  {P : Int32 → St → Prop}  (h : rowsLe S → wp_X11_thrown S  P) : CMi g l yX11_thrown cX11_thrown 1 (some .int) rm_X11_thrown [.ref (gad g 158)] S P := cm_entry (own := RX11) (plainFor_of_name (by decide)) rfl (Nat.le_of_ble_eq_true rfl) rfl (fun hle f hf C hrt => by
  subst hf
  replace h := h hle
  obtain ⟨T0, hT⟩ : ∃ T, S.2.2.1 = T := ⟨_, rfl⟩
  rw [hT]
  unfold wp_X11_thrown at h
  refine ww_aload_n C dX11_thrown_0 0 rfl ?_
  refine gf_Model_thrown C bw_923 dX11_thrown_1 ?_
  exact ww_iret C hrt dX11_thrown_4 hT h)
def fv_X11_thrown (S : St)   : Int32 := (S.2.1 9 0)
set_option maxHeartbeats 4000000 in
set_option maxRecDepth 100000 in
theorem sp_X11_thrown {S : St}   {P : Int32 → St → Prop} (h : P (fv_X11_thrown S  ) S) : wp_X11_thrown S  P := by
  unfold wp_X11_thrown
  unfold fv_X11_thrown at h
  exact h
theorem cm_X11_thrown {l : Launch} {g : Gx} {S : St}   : CMi g l yX11_thrown cX11_thrown 1 (some .int) rm_X11_thrown [.ref (gad g 158)] S (fun v S2 => v = fv_X11_thrown S  ∧ S2 = S) := run_X11_thrown  (fun _ => sp_X11_thrown ⟨rfl, rfl⟩)
abbrev rm_X11_out : Room := { frames := 0, cells := 0, slots := 0, locals := 0 }
theorem ok_X11_out : SOK yX11_out cX11_out 2 (some .boolean) 2 := ⟨bw_1051, bw_69, bw_1052, by decide +kernel⟩
def wp_X11_out_14 (a : Int32) (b : Int32) (S : St) (s0 : Int32) (P : Int32 → St → Prop) : Prop :=
  ((s0 = 0 ∨ s0 = 1) ∧ P s0 S)
set_option maxHeartbeats 4000000 in
set_option maxRecDepth 100000 in
theorem run_X11_out_14 {f : Fx} {g : Gx} {T0 : List (Nat × Nat × Nat)} {S : St} {a : Int32} {b : Int32} {P : Int32 → St → Prop} (C : Cx f g cX11_out 2 RX11) (hrt : (fmeth f).sig.returnType = (some .boolean))  {s0 : Int32} (hT : S.2.2.1 = T0)  (h : wp_X11_out_14 a b S s0 P) : WW f rm_X11_out g 2 0 0 (Qi f g 0 0 T0 P) S 14 [] [.int s0] := by
  unfold wp_X11_out_14 at h
  exact ww_zret C hrt dX11_out_14 hT h.1 h.2
def wp_X11_out_9 (a : Int32) (b : Int32) (S : St)  (P : Int32 → St → Prop) : Prop :=
  wp_X11_out_14 a b S 1 P
set_option maxHeartbeats 4000000 in
set_option maxRecDepth 100000 in
theorem run_X11_out_9 {f : Fx} {g : Gx} {T0 : List (Nat × Nat × Nat)} {S : St} {a : Int32} {b : Int32} {P : Int32 → St → Prop} (C : Cx f g cX11_out 2 RX11) (hrt : (fmeth f).sig.returnType = (some .boolean))   (hT : S.2.2.1 = T0)  (h : wp_X11_out_9 a b S  P) : WW f rm_X11_out g 2 0 0 (Qi f g 0 0 T0 P) S 9 [] [] := by
  unfold wp_X11_out_9 at h
  refine ww_iconst (v := 1) C dX11_out_9 (by decide) ?_
  refine ww_goto (tgt := 14) C dX11_out_10 (by decide) ?_
  exact ww_sub [] rfl (run_X11_out_14 C hrt  hT  h)
def wp_X11_out (S : St) (a : Int32) (b : Int32) (P : Int32 → St → Prop) : Prop :=
  ((a < 0 → wp_X11_out_9 a b S  P) ∧ (¬ a < 0 → ((a < b → wp_X11_out_14 a b S 0 P) ∧ (¬ a < b → wp_X11_out_9 a b S  P))))
set_option maxHeartbeats 4000000 in
set_option maxRecDepth 100000 in
theorem run_X11_out {l : Launch} {g : Gx} {S : St} {a : Int32} {b : Int32} {P : Int32 → St → Prop}  (h : rowsLe S → wp_X11_out S a b P) : CMi g l yX11_out cX11_out 2 (some .boolean) rm_X11_out [.int a, .int b] S P := cm_entry (own := RX11) (plainFor_of_name (by decide)) rfl (Nat.le_of_ble_eq_true rfl) rfl (fun hle f hf C hrt => by
  subst hf
  replace h := h hle
  obtain ⟨T0, hT⟩ : ∃ T, S.2.2.1 = T := ⟨_, rfl⟩
  rw [hT]
  unfold wp_X11_out at h
  refine ww_iload_n C dX11_out_0 0 rfl ?_
  refine ww_if_lt (tgt := 9) C dX11_out_1 (by decide) (fun q3 => ?_) (fun q3 => ?_)
  · replace h := h.1 q3
    exact ww_sub [] rfl (run_X11_out_9 C hrt  hT  h)
  · replace h := h.2 q3
    refine ww_iload_n C dX11_out_4 0 rfl ?_
    refine ww_iload_n C dX11_out_5 1 rfl ?_
    refine ww_icmp_lt (tgt := 13) C dX11_out_6 (by decide) (fun q4 => ?_) (fun q4 => ?_)
    · replace h := h.1 q4
      refine ww_iconst (v := 0) C dX11_out_13 (by decide) ?_
      exact ww_sub [] rfl (run_X11_out_14 C hrt  hT  h)
    · replace h := h.2 q4
      exact ww_sub [] rfl (run_X11_out_9 C hrt  hT  h))
abbrev rm_X11_fail : Room := { frames := 0, cells := 0, slots := 0, locals := 0 }
theorem ok_X11_fail : MOK yX11_fail RX11 cX11_fail 2 (some .int) 1 := ⟨bw_1288, bw_59, bw_69, bw_1289, by decide +kernel⟩
def wp_X11_fail (S : St) (a : Int32) (P : Int32 → St → Prop) : Prop :=
  ∀ S2 : St, S2 = stM S 9 0 a → P 0 S2
set_option maxHeartbeats 4000000 in
set_option maxRecDepth 100000 in
theorem run_X11_fail {l : Launch} {g : Gx} {S : St} {a : Int32} {P : Int32 → St → Prop}  (h : rowsLe S → wp_X11_fail S a P) : CMi g l yX11_fail cX11_fail 2 (some .int) rm_X11_fail [.ref (gad g 158), .int a] S P := cm_entry (own := RX11) (plainFor_of_name (by decide)) rfl (Nat.le_of_ble_eq_true rfl) rfl (fun hle f hf C hrt => by
  subst hf
  replace h := h hle
  obtain ⟨T0, hT⟩ : ∃ T, S.2.2.1 = T := ⟨_, rfl⟩
  rw [hT]
  unfold wp_X11_fail at h
  refine ww_aload_n C dX11_fail_0 0 rfl ?_
  refine ww_iload_n C dX11_fail_1 1 rfl ?_
  refine pf_Model_thrown C bw_923 dX11_fail_2 ?_
  refine ww_nm (fun S2 e_S2 => ?_)
  replace h := h S2 e_S2
  have hT_S2 : S2.2.2.1 = T0 := by rw [e_S2]; exact hT
  refine ww_iconst (v := 0) C dX11_fail_5 (by decide) ?_
  exact ww_iret C hrt dX11_fail_6 hT_S2 h)
def fv_X11_fail (S : St) (a : Int32)  : Int32 := 0
def fs_X11_fail (S : St) (a : Int32)  : St := ((stM S 9 0 a))
set_option maxHeartbeats 4000000 in
set_option maxRecDepth 100000 in
theorem sp_X11_fail {S : St} {a : Int32}  {P : Int32 → St → Prop} (h : P (fv_X11_fail S a ) (fs_X11_fail S a )) : wp_X11_fail S a P := by
  unfold wp_X11_fail
  unfold fv_X11_fail fs_X11_fail at h
  intro S2 e_S2
  subst e_S2
  exact h
theorem cm_X11_fail {l : Launch} {g : Gx} {S : St} {a : Int32}  : CMi g l yX11_fail cX11_fail 2 (some .int) rm_X11_fail [.ref (gad g 158), .int a] S (fun v S2 => v = fv_X11_fail S a ∧ S2 = fs_X11_fail S a) := run_X11_fail  (fun _ => sp_X11_fail ⟨rfl, rfl⟩)
abbrev rm_X11_abs : Room := { frames := 0, cells := 0, slots := 0, locals := 0 }
theorem ok_X11_abs : SOK yX11_abs cX11_abs 1 (some .int) 1 := ⟨bw_1118, bw_69, bw_1119, by decide +kernel⟩
def wp_X11_abs_10 (a : Int32) (S : St) (s0 : Int32) (P : Int32 → St → Prop) : Prop :=
  P s0 S
set_option maxHeartbeats 4000000 in
set_option maxRecDepth 100000 in
theorem run_X11_abs_10 {f : Fx} {g : Gx} {T0 : List (Nat × Nat × Nat)} {S : St} {a : Int32} {P : Int32 → St → Prop} (C : Cx f g cX11_abs 1 RX11) (hrt : (fmeth f).sig.returnType = (some .int))  {s0 : Int32} (hT : S.2.2.1 = T0)  (h : wp_X11_abs_10 a S s0 P) : WW f rm_X11_abs g 1 0 0 (Qi f g 0 0 T0 P) S 10 [] [.int s0] := by
  unfold wp_X11_abs_10 at h
  exact ww_iret C hrt dX11_abs_10 hT h
def wp_X11_abs (S : St) (a : Int32) (P : Int32 → St → Prop) : Prop :=
  ((0 ≤ a → wp_X11_abs_10 a S a P) ∧ (¬ 0 ≤ a → wp_X11_abs_10 a S (-a) P))
set_option maxHeartbeats 4000000 in
set_option maxRecDepth 100000 in
theorem run_X11_abs {l : Launch} {g : Gx} {S : St} {a : Int32} {P : Int32 → St → Prop}  (h : rowsLe S → wp_X11_abs S a P) : CMi g l yX11_abs cX11_abs 1 (some .int) rm_X11_abs [.int a] S P := cm_entry (own := RX11) (plainFor_of_name (by decide)) rfl (Nat.le_of_ble_eq_true rfl) rfl (fun hle f hf C hrt => by
  subst hf
  replace h := h hle
  obtain ⟨T0, hT⟩ : ∃ T, S.2.2.1 = T := ⟨_, rfl⟩
  rw [hT]
  unfold wp_X11_abs at h
  refine ww_iload_n C dX11_abs_0 0 rfl ?_
  refine ww_if_ge (tgt := 9) C dX11_abs_1 (by decide) (fun q2 => ?_) (fun q2 => ?_)
  · replace h := h.1 q2
    refine ww_iload_n C dX11_abs_9 0 rfl ?_
    exact ww_sub [] rfl (run_X11_abs_10 C hrt  hT  h)
  · replace h := h.2 q2
    refine ww_iload_n C dX11_abs_4 0 rfl ?_
    refine ww_ineg C dX11_abs_5 ?_
    refine ww_goto (tgt := 10) C dX11_abs_6 (by decide) ?_
    exact ww_sub [] rfl (run_X11_abs_10 C hrt  hT  h))
def fv_X11_abs_10 (S : St) (a : Int32) (s0 : Int32) : Int32 := s0
set_option maxHeartbeats 4000000 in
set_option maxRecDepth 100000 in
theorem sp_X11_abs_10 {S : St} {a : Int32} {s0 : Int32} {P : Int32 → St → Prop} (h : P (fv_X11_abs_10 S a s0) S) : wp_X11_abs_10 a S s0 P := by
  unfold wp_X11_abs_10
  unfold fv_X11_abs_10 at h
  exact h
def fv_X11_abs (S : St) (a : Int32)  : Int32 := (if 0 ≤ a then (fv_X11_abs_10 S a a) else (fv_X11_abs_10 S a ((-a))))
set_option maxHeartbeats 4000000 in
set_option maxRecDepth 100000 in
theorem sp_X11_abs {S : St} {a : Int32}  {P : Int32 → St → Prop} (h : P (fv_X11_abs S a ) S) : wp_X11_abs S a P := by
  unfold wp_X11_abs
  unfold fv_X11_abs at h
  refine ⟨fun q2 => ?_, fun q2 => ?_⟩
  · simp only [if_pos q2] at h
    exact sp_X11_abs_10 h
  · simp only [if_neg q2] at h
    exact sp_X11_abs_10 h
theorem cm_X11_abs {l : Launch} {g : Gx} {S : St} {a : Int32}  : CMi g l yX11_abs cX11_abs 1 (some .int) rm_X11_abs [.int a] S (fun v S2 => v = fv_X11_abs S a ∧ S2 = S) := run_X11_abs  (fun _ => sp_X11_abs ⟨rfl, rfl⟩)
abbrev rm_X11_open : Room := { frames := 0, cells := 0, slots := 0, locals := 0 }
theorem ok_X11_open : MOK yX11_open RX11 cX11_open 2 (some .boolean) 0 := ⟨bw_1055, bw_17, bw_69, bw_1056, by decide +kernel⟩
def wp_X11_open_68  (S : St) (s0 : Int32) (P : Int32 → St → Prop) : Prop :=
  ((s0 = 0 ∨ s0 = 1) ∧ P s0 S)
set_option maxHeartbeats 4000000 in
set_option maxRecDepth 100000 in
theorem run_X11_open_68 {f : Fx} {g : Gx} {T0 : List (Nat × Nat × Nat)} {S : St}  {P : Int32 → St → Prop} (C : Cx f g cX11_open 2 RX11) (hrt : (fmeth f).sig.returnType = (some .boolean))  {s0 : Int32} (hT : S.2.2.1 = T0)  (h : wp_X11_open_68  S s0 P) : WW f rm_X11_open g 2 0 0 (Qi f g 0 0 T0 P) S 68 [] [.int s0] := by
  unfold wp_X11_open_68 at h
  exact ww_zret C hrt dX11_open_68 hT h.1 h.2
def wp_X11_open_67  (S : St)  (P : Int32 → St → Prop) : Prop :=
  wp_X11_open_68  S 0 P
set_option maxHeartbeats 4000000 in
set_option maxRecDepth 100000 in
theorem run_X11_open_67 {f : Fx} {g : Gx} {T0 : List (Nat × Nat × Nat)} {S : St}  {P : Int32 → St → Prop} (C : Cx f g cX11_open 2 RX11) (hrt : (fmeth f).sig.returnType = (some .boolean))   (hT : S.2.2.1 = T0)  (h : wp_X11_open_67  S  P) : WW f rm_X11_open g 2 0 0 (Qi f g 0 0 T0 P) S 67 [] [] := by
  unfold wp_X11_open_67 at h
  refine ww_iconst (v := 0) C dX11_open_67 (by decide) ?_
  exact ww_sub [] rfl (run_X11_open_68 C hrt  hT  h)
def wp_X11_open_63  (S : St)  (P : Int32 → St → Prop) : Prop :=
  wp_X11_open_68  S 1 P
set_option maxHeartbeats 4000000 in
set_option maxRecDepth 100000 in
theorem run_X11_open_63 {f : Fx} {g : Gx} {T0 : List (Nat × Nat × Nat)} {S : St}  {P : Int32 → St → Prop} (C : Cx f g cX11_open 2 RX11) (hrt : (fmeth f).sig.returnType = (some .boolean))   (hT : S.2.2.1 = T0)  (h : wp_X11_open_63  S  P) : WW f rm_X11_open g 2 0 0 (Qi f g 0 0 T0 P) S 63 [] [] := by
  unfold wp_X11_open_63 at h
  refine ww_iconst (v := 1) C dX11_open_63 (by decide) ?_
  refine ww_goto (tgt := 68) C dX11_open_64 (by decide) ?_
  exact ww_sub [] rfl (run_X11_open_68 C hrt  hT  h)
def wp_X11_open (S : St)  (P : Int32 → St → Prop) : Prop :=
  ((¬ (S.2.1 9 1) = 0 → ∀ x7 : Int32, x7 = (S.2.1 9 1) - 1 → (vp_in x7 (gw_ml 1) ∧ (((S.2.1 11 x7.toNatClampNeg) ≤ 0 → wp_X11_open_67  S  P) ∧ (¬ (S.2.1 11 x7.toNatClampNeg) ≤ 0 → (vp_in x7 (gw_ml 2) ∧ (((S.2.1 12 x7.toNatClampNeg) = 0 → wp_X11_open_63  S  P) ∧ (¬ (S.2.1 12 x7.toNatClampNeg) = 0 → (vp_in x7 (gw_ml 2) ∧ (vp_in (((16 * x7) + (S.2.1 12 x7.toNatClampNeg)) - 1) (gw_ml 6) ∧ (vp_in x7 (gw_ml 1) ∧ ((((S.2.1 11 x7.toNatClampNeg) - 1) ≤ (S.2.1 16 (((16 * x7) + (S.2.1 12 x7.toNatClampNeg)) - 1).toNatClampNeg) → wp_X11_open_67  S  P) ∧ (¬ ((S.2.1 11 x7.toNatClampNeg) - 1) ≤ (S.2.1 16 (((16 * x7) + (S.2.1 12 x7.toNatClampNeg)) - 1).toNatClampNeg) → wp_X11_open_63  S  P)))))))))))) ∧ ((S.2.1 9 1) = 0 → P 0 S))
set_option maxHeartbeats 4000000 in
set_option maxRecDepth 100000 in
theorem run_X11_open {l : Launch} {g : Gx} {S : St}  {P : Int32 → St → Prop}  (h : rowsLe S → wp_X11_open S  P) : CMi g l yX11_open cX11_open 2 (some .boolean) rm_X11_open [.ref (gad g 158)] S P := cm_entry (own := RX11) (plainFor_of_name (by decide)) rfl (Nat.le_of_ble_eq_true rfl) rfl (fun hle f hf C hrt => by
  subst hf
  replace h := h hle
  obtain ⟨T0, hT⟩ : ∃ T, S.2.2.1 = T := ⟨_, rfl⟩
  rw [hT]
  unfold wp_X11_open at h
  refine ww_aload_n C dX11_open_0 0 rfl ?_
  refine gf_Model_glyphs C bw_924 dX11_open_1 ?_
  refine ww_if_ne (tgt := 9) C dX11_open_4 (by decide) (fun q6 => ?_) (fun q6 => ?_)
  · replace h := h.1 q6
    refine ww_aload_n C dX11_open_9 0 rfl ?_
    refine gf_Model_glyphs C bw_924 dX11_open_10 ?_
    refine ww_iconst (v := 1) C dX11_open_13 (by decide) ?_
    refine ww_isub C dX11_open_14 ?_
    refine ww_topi (fun x7 e_x7 => ?_)
    replace h := h x7 e_x7
    refine ww_istore_n (lv2 := [(1, .int x7), (0, .ref (gad g 158))]) C dX11_open_15 rfl (Nat.le_of_ble_eq_true rfl) rfl ?_
    refine ww_aload_n C dX11_open_16 1 rfl ?_
    refine gf_Model_contours C bw_926 dX11_open_17 ?_
    refine ww_iload_n C dX11_open_20 0 rfl ?_
    refine ia_m (a := 1) C (by decide) (by decide) h.1 dX11_open_21 ?_
    replace h := h.2
    refine ww_if_le (tgt := 67) C dX11_open_22 (by decide) (fun q8 => ?_) (fun q8 => ?_)
    · replace h := h.1 q8
      exact ww_sub [] rfl (run_X11_open_67 C hrt  hT  h)
    · replace h := h.2 q8
      refine ww_aload_n C dX11_open_25 1 rfl ?_
      refine gf_Model_points C bw_927 dX11_open_26 ?_
      refine ww_iload_n C dX11_open_29 0 rfl ?_
      refine ia_m (a := 2) C (by decide) (by decide) h.1 dX11_open_30 ?_
      replace h := h.2
      refine ww_if_eq (tgt := 63) C dX11_open_31 (by decide) (fun q9 => ?_) (fun q9 => ?_)
      · replace h := h.1 q9
        exact ww_sub [] rfl (run_X11_open_63 C hrt  hT  h)
      · replace h := h.2 q9
        refine ww_aload_n C dX11_open_34 1 rfl ?_
        refine gf_Model_contourOf C bw_931 dX11_open_35 ?_
        refine ww_bipush (v := 16) C dX11_open_38 (by decide) ?_
        refine ww_iload_n C dX11_open_40 0 rfl ?_
        refine ww_imul C dX11_open_41 ?_
        refine ww_aload_n C dX11_open_42 1 rfl ?_
        refine gf_Model_points C bw_927 dX11_open_43 ?_
        refine ww_iload_n C dX11_open_46 0 rfl ?_
        refine ia_m (a := 2) C (by decide) (by decide) h.1 dX11_open_47 ?_
        replace h := h.2
        refine ww_iadd C dX11_open_48 ?_
        refine ww_iconst (v := 1) C dX11_open_49 (by decide) ?_
        refine ww_isub C dX11_open_50 ?_
        refine ia_m (a := 6) C (by decide) (by decide) h.1 dX11_open_51 ?_
        replace h := h.2
        refine ww_aload_n C dX11_open_52 1 rfl ?_
        refine gf_Model_contours C bw_926 dX11_open_53 ?_
        refine ww_iload_n C dX11_open_56 0 rfl ?_
        refine ia_m (a := 1) C (by decide) (by decide) h.1 dX11_open_57 ?_
        replace h := h.2
        refine ww_iconst (v := 1) C dX11_open_58 (by decide) ?_
        refine ww_isub C dX11_open_59 ?_
        refine ww_icmp_ge (tgt := 67) C dX11_open_60 (by decide) (fun q10 => ?_) (fun q10 => ?_)
        · replace h := h.1 q10
          exact ww_sub [] rfl (run_X11_open_67 C hrt  hT  h)
        · replace h := h.2 q10
          exact ww_sub [] rfl (run_X11_open_63 C hrt  hT  h)
  · replace h := h.2 q6
    refine ww_iconst (v := 0) C dX11_open_7 (by decide) ?_
    exact ww_zret C hrt dX11_open_8 hT (by decide) h)
abbrev rm_X11_glyph : Room := { frames := 1, cells := 0, slots := 0, locals := 21 }
theorem ok_X11_glyph : MOK yX11_glyph RX11 cX11_glyph 2 (some .int) 1 := ⟨bw_1047, bw_1048, bw_69, bw_1049, by decide +kernel⟩
def wp_X11_glyph_36 (a : Int32) (S : St) (s0 : Int32) (P : Int32 → St → Prop) : Prop :=
  ∀ S14 : St, S14 = stM S 9 0 s0 → (((S14.2.1 9 0) ≤ 0 → (vp_in (S14.2.1 9 1) (gw_ml 0) ∧ ∀ S16 : St, S16 = stM S14 10 (S14.2.1 9 1).toNatClampNeg a → (vp_in (S16.2.1 9 1) (gw_ml 1) ∧ ∀ S17 : St, S17 = stM S16 11 (S16.2.1 9 1).toNatClampNeg 0 → (vp_in (S17.2.1 9 1) (gw_ml 2) ∧ ∀ S18 : St, S18 = stM S17 12 (S17.2.1 9 1).toNatClampNeg 0 → ∀ S19 : St, S19 = stM S18 9 1 ((S18.2.1 9 1) + 1) → P ((S19.2.1 9 1) - 1) S19)))) ∧ (¬ (S14.2.1 9 0) ≤ 0 → P 0 S14))
set_option maxHeartbeats 4000000 in
set_option maxRecDepth 100000 in
theorem run_X11_glyph_36 {f : Fx} {g : Gx} {T0 : List (Nat × Nat × Nat)} {S : St} {a : Int32} {P : Int32 → St → Prop} (C : Cx f g cX11_glyph 2 RX11) (hrt : (fmeth f).sig.returnType = (some .int))  {s0 : Int32} (hT : S.2.2.1 = T0)  (h : wp_X11_glyph_36 a S s0 P) : WW f rm_X11_glyph g 2 0 0 (Qi f g 0 0 T0 P) S 36 [(0, .ref (gad g 158)), (1, .int a)] [.int s0, .ref (gad g 158)] := by
  unfold wp_X11_glyph_36 at h
  refine pf_Model_thrown C bw_923 dX11_glyph_36 ?_
  refine ww_nm (fun S14 e_S14 => ?_)
  replace h := h S14 e_S14
  have hT_S14 : S14.2.2.1 = T0 := by rw [e_S14]; exact hT
  refine ww_aload_n C dX11_glyph_39 0 rfl ?_
  refine gf_Model_thrown C bw_923 dX11_glyph_40 ?_
  refine ww_if_le (tgt := 48) C dX11_glyph_43 (by decide) (fun q15 => ?_) (fun q15 => ?_)
  · replace h := h.1 q15
    refine ww_aload_n C dX11_glyph_48 0 rfl ?_
    refine gf_Model_advance C bw_925 dX11_glyph_49 ?_
    refine ww_aload_n C dX11_glyph_52 0 rfl ?_
    refine gf_Model_glyphs C bw_924 dX11_glyph_53 ?_
    refine ww_iload_n C dX11_glyph_56 1 rfl ?_
    refine is_m (a := 0) C (by decide) (by decide) h.1 dX11_glyph_57 ?_
    replace h := h.2
    refine ww_nm (fun S16 e_S16 => ?_)
    replace h := h S16 e_S16
    have hT_S16 : S16.2.2.1 = T0 := by rw [e_S16]; exact hT_S14
    refine ww_aload_n C dX11_glyph_58 0 rfl ?_
    refine gf_Model_contours C bw_926 dX11_glyph_59 ?_
    refine ww_aload_n C dX11_glyph_62 0 rfl ?_
    refine gf_Model_glyphs C bw_924 dX11_glyph_63 ?_
    refine ww_iconst (v := 0) C dX11_glyph_66 (by decide) ?_
    refine is_m (a := 1) C (by decide) (by decide) h.1 dX11_glyph_67 ?_
    replace h := h.2
    refine ww_nm (fun S17 e_S17 => ?_)
    replace h := h S17 e_S17
    have hT_S17 : S17.2.2.1 = T0 := by rw [e_S17]; exact hT_S16
    refine ww_aload_n C dX11_glyph_68 0 rfl ?_
    refine gf_Model_points C bw_927 dX11_glyph_69 ?_
    refine ww_aload_n C dX11_glyph_72 0 rfl ?_
    refine gf_Model_glyphs C bw_924 dX11_glyph_73 ?_
    refine ww_iconst (v := 0) C dX11_glyph_76 (by decide) ?_
    refine is_m (a := 2) C (by decide) (by decide) h.1 dX11_glyph_77 ?_
    replace h := h.2
    refine ww_nm (fun S18 e_S18 => ?_)
    replace h := h S18 e_S18
    have hT_S18 : S18.2.2.1 = T0 := by rw [e_S18]; exact hT_S17
    refine ww_aload_n C dX11_glyph_78 0 rfl ?_
    refine ww_dup C dX11_glyph_79 rfl ?_
    refine gf_Model_glyphs C bw_924 dX11_glyph_80 ?_
    refine ww_iconst (v := 1) C dX11_glyph_83 (by decide) ?_
    refine ww_iadd C dX11_glyph_84 ?_
    refine pf_Model_glyphs C bw_924 dX11_glyph_85 ?_
    refine ww_nm (fun S19 e_S19 => ?_)
    replace h := h S19 e_S19
    have hT_S19 : S19.2.2.1 = T0 := by rw [e_S19]; exact hT_S18
    refine ww_aload_n C dX11_glyph_88 0 rfl ?_
    refine gf_Model_glyphs C bw_924 dX11_glyph_89 ?_
    refine ww_iconst (v := 1) C dX11_glyph_92 (by decide) ?_
    refine ww_isub C dX11_glyph_93 ?_
    exact ww_iret C hrt dX11_glyph_94 hT_S19 h
  · replace h := h.2 q15
    refine ww_iconst (v := 0) C dX11_glyph_46 (by decide) ?_
    exact ww_iret C hrt dX11_glyph_47 hT_S14 h
def wp_X11_glyph_31 (a : Int32) (S : St)  (P : Int32 → St → Prop) : Prop :=
  wp_X11_glyph_36 a S 2 P
set_option maxHeartbeats 4000000 in
set_option maxRecDepth 100000 in
theorem run_X11_glyph_31 {f : Fx} {g : Gx} {T0 : List (Nat × Nat × Nat)} {S : St} {a : Int32} {P : Int32 → St → Prop} (C : Cx f g cX11_glyph 2 RX11) (hrt : (fmeth f).sig.returnType = (some .int))   (hT : S.2.2.1 = T0)  (h : wp_X11_glyph_31 a S  P) : WW f rm_X11_glyph g 2 0 0 (Qi f g 0 0 T0 P) S 31 [(0, .ref (gad g 158)), (1, .int a)] [.ref (gad g 158)] := by
  unfold wp_X11_glyph_31 at h
  refine ww_iconst (v := 2) C dX11_glyph_31 (by decide) ?_
  refine ww_goto (tgt := 36) C dX11_glyph_32 (by decide) ?_
  exact ww_sub [0, 1] rfl (run_X11_glyph_36 C hrt  hT  h)
def wp_X11_glyph (S : St) (a : Int32) (P : Int32 → St → Prop) : Prop :=
  wp_X11_out S a 2001 (fun r21 S20 => ((r21 = 0 → (((S20.2.1 9 1) = 6 → wp_X11_glyph_31 a S20  P) ∧ (¬ (S20.2.1 9 1) = 6 → wp_X11_open S20 (fun r25 S24 => ((r25 = 0 → wp_X11_glyph_36 a S24 0 P) ∧ (¬ r25 = 0 → wp_X11_glyph_31 a S24  P)))))) ∧ (¬ r21 = 0 → wp_X11_glyph_36 a S20 1 P)))
set_option maxHeartbeats 4000000 in
set_option maxRecDepth 100000 in
theorem run_X11_glyph {l : Launch} {g : Gx} {S : St} {a : Int32} {P : Int32 → St → Prop}  (h : rowsLe S → wp_X11_glyph S a P) : CMi g l yX11_glyph cX11_glyph 2 (some .int) rm_X11_glyph [.ref (gad g 158), .int a] S P := cm_entry (own := RX11) (plainFor_of_name (by decide)) rfl (Nat.le_of_ble_eq_true rfl) rfl (fun hle f hf C hrt => by
  subst hf
  replace h := h hle
  obtain ⟨T0, hT⟩ : ∃ T, S.2.2.1 = T := ⟨_, rfl⟩
  rw [hT]
  unfold wp_X11_glyph at h
  refine ww_aload_n C dX11_glyph_0 0 rfl ?_
  refine ww_iload_n C dX11_glyph_1 1 rfl ?_
  refine ww_sipush (v := 2001) C dX11_glyph_2 (by decide) ?_
  refine ww_cSi (As := [.int a, .int 2001]) (rest := [.ref (gad g 158)]) C ok_X11_out bw_1050 dX11_glyph_5 (run_X11_out  (fun _ => h)) rfl ⟨Nat.le_of_ble_eq_true rfl, Nat.le_of_ble_eq_true rfl⟩ (Nat.le_of_ble_eq_true rfl) (c2 := 0) (s2 := 0) rfl rfl ⟨Nat.le_of_ble_eq_true rfl, Nat.le_of_ble_eq_true rfl⟩ rfl (fun r21 S20 hp hTg => ?_)
  replace h := hp
  have hT_S20 : S20.2.2.1 = T0 := by rw [hTg]; exact hT
  refine ww_if_eq (tgt := 15) C dX11_glyph_8 (by decide) (fun q22 => ?_) (fun q22 => ?_)
  · replace h := h.1 q22
    refine ww_aload_n C dX11_glyph_15 0 rfl ?_
    refine gf_Model_glyphs C bw_924 dX11_glyph_16 ?_
    refine ww_bipush (v := 6) C dX11_glyph_19 (by decide) ?_
    refine ww_icmp_eq (tgt := 31) C dX11_glyph_21 (by decide) (fun q23 => ?_) (fun q23 => ?_)
    · replace h := h.1 q23
      exact ww_sub [0, 1] rfl (run_X11_glyph_31 C hrt  hT_S20  h)
    · replace h := h.2 q23
      refine ww_aload_n C dX11_glyph_24 0 rfl ?_
      refine ww_cVi (As := []) (rest := [.ref (gad g 158)]) C ok_X11_open bw_1053 dX11_glyph_25 (run_X11_open  (fun _ => h)) rc_Model rfl ⟨Nat.le_of_ble_eq_true rfl, Nat.le_of_ble_eq_true rfl⟩ (Nat.le_of_ble_eq_true rfl) (c2 := 0) (s2 := 0) rfl rfl ⟨Nat.le_of_ble_eq_true rfl, Nat.le_of_ble_eq_true rfl⟩ rfl (fun r25 S24 hp hTg => ?_)
      replace h := hp
      have hT_S24 : S24.2.2.1 = T0 := by rw [hTg]; exact hT_S20
      refine ww_if_eq (tgt := 35) C dX11_glyph_28 (by decide) (fun q26 => ?_) (fun q26 => ?_)
      · replace h := h.1 q26
        refine ww_iconst (v := 0) C dX11_glyph_35 (by decide) ?_
        exact ww_sub [0, 1] rfl (run_X11_glyph_36 C hrt  hT_S24  h)
      · replace h := h.2 q26
        exact ww_sub [0, 1] rfl (run_X11_glyph_31 C hrt  hT_S24  h)
  · replace h := h.2 q22
    refine ww_iconst (v := 1) C dX11_glyph_11 (by decide) ?_
    refine ww_goto (tgt := 36) C dX11_glyph_12 (by decide) ?_
    exact ww_sub [0, 1] rfl (run_X11_glyph_36 C hrt  hT_S20  h))
abbrev rm_X11_contour : Room := { frames := 1, cells := 0, slots := 0, locals := 21 }
theorem ok_X11_contour : MOK yX11_contour RX11 cX11_contour 2 (some .int) 0 := ⟨bw_1058, bw_1059, bw_69, bw_1060, by decide +kernel⟩
def wp_X11_contour_45  (S : St) (v1 : Int32) (s0 : Int32) (P : Int32 → St → Prop) : Prop :=
  ∀ S11 : St, S11 = stM S 9 0 s0 → (((S11.2.1 9 0) ≤ 0 → (vp_in v1 (gw_ml 1) ∧ (vp_in v1 (gw_ml 1) ∧ ∀ S13 : St, S13 = stM S11 11 v1.toNatClampNeg ((S11.2.1 11 v1.toNatClampNeg) + 1) → (vp_in v1 (gw_ml 1) ∧ P ((S13.2.1 11 v1.toNatClampNeg) - 1) S13)))) ∧ (¬ (S11.2.1 9 0) ≤ 0 → P 0 S11))
set_option maxHeartbeats 4000000 in
set_option maxRecDepth 100000 in
theorem run_X11_contour_45 {f : Fx} {g : Gx} {T0 : List (Nat × Nat × Nat)} {S : St}  {P : Int32 → St → Prop} (C : Cx f g cX11_contour 2 RX11) (hrt : (fmeth f).sig.returnType = (some .int))  {v1 : Int32} {s0 : Int32} (hT : S.2.2.1 = T0)  (h : wp_X11_contour_45  S v1 s0 P) : WW f rm_X11_contour g 2 0 0 (Qi f g 0 0 T0 P) S 45 [(0, .ref (gad g 158)), (1, .int v1)] [.int s0, .ref (gad g 158)] := by
  unfold wp_X11_contour_45 at h
  refine pf_Model_thrown C bw_923 dX11_contour_45 ?_
  refine ww_nm (fun S11 e_S11 => ?_)
  replace h := h S11 e_S11
  have hT_S11 : S11.2.2.1 = T0 := by rw [e_S11]; exact hT
  refine ww_aload_n C dX11_contour_48 0 rfl ?_
  refine gf_Model_thrown C bw_923 dX11_contour_49 ?_
  refine ww_if_le (tgt := 57) C dX11_contour_52 (by decide) (fun q12 => ?_) (fun q12 => ?_)
  · replace h := h.1 q12
    refine ww_aload_n C dX11_contour_57 0 rfl ?_
    refine gf_Model_contours C bw_926 dX11_contour_58 ?_
    refine ww_iload_n C dX11_contour_61 1 rfl ?_
    refine ww_dup2 C dX11_contour_62 rfl rfl ?_
    refine ia_m (a := 1) C (by decide) (by decide) h.1 dX11_contour_63 ?_
    replace h := h.2
    refine ww_iconst (v := 1) C dX11_contour_64 (by decide) ?_
    refine ww_iadd C dX11_contour_65 ?_
    refine is_m (a := 1) C (by decide) (by decide) h.1 dX11_contour_66 ?_
    replace h := h.2
    refine ww_nm (fun S13 e_S13 => ?_)
    replace h := h S13 e_S13
    have hT_S13 : S13.2.2.1 = T0 := by rw [e_S13]; exact hT_S11
    refine ww_aload_n C dX11_contour_67 0 rfl ?_
    refine gf_Model_contours C bw_926 dX11_contour_68 ?_
    refine ww_iload_n C dX11_contour_71 1 rfl ?_
    refine ia_m (a := 1) C (by decide) (by decide) h.1 dX11_contour_72 ?_
    replace h := h.2
    refine ww_iconst (v := 1) C dX11_contour_73 (by decide) ?_
    refine ww_isub C dX11_contour_74 ?_
    exact ww_iret C hrt dX11_contour_75 hT_S13 h
  · replace h := h.2 q12
    refine ww_iconst (v := 0) C dX11_contour_55 (by decide) ?_
    exact ww_iret C hrt dX11_contour_56 hT_S11 h
def wp_X11_contour_40  (S : St) (v1 : Int32) (P : Int32 → St → Prop) : Prop :=
  wp_X11_contour_45  S v1 1 P
set_option maxHeartbeats 4000000 in
set_option maxRecDepth 100000 in
theorem run_X11_contour_40 {f : Fx} {g : Gx} {T0 : List (Nat × Nat × Nat)} {S : St}  {P : Int32 → St → Prop} (C : Cx f g cX11_contour 2 RX11) (hrt : (fmeth f).sig.returnType = (some .int))  {v1 : Int32} (hT : S.2.2.1 = T0)  (h : wp_X11_contour_40  S v1 P) : WW f rm_X11_contour g 2 0 0 (Qi f g 0 0 T0 P) S 40 [(0, .ref (gad g 158)), (1, .int v1)] [.ref (gad g 158)] := by
  unfold wp_X11_contour_40 at h
  refine ww_iconst (v := 1) C dX11_contour_40 (by decide) ?_
  refine ww_goto (tgt := 45) C dX11_contour_41 (by decide) ?_
  exact ww_sub [0, 1] rfl (run_X11_contour_45 C hrt  hT  h)
def wp_X11_contour (S : St)  (P : Int32 → St → Prop) : Prop :=
  ∀ x14 : Int32, x14 = (S.2.1 9 1) - 1 → ((x14 < 0 → wp_X11_contour_40  S x14 P) ∧ (¬ x14 < 0 → wp_X11_open S (fun r17 S16 => ((¬ r17 = 0 → wp_X11_contour_40  S16 x14 P) ∧ (r17 = 0 → (vp_in x14 (gw_ml 1) ∧ (((S16.2.1 11 x14.toNatClampNeg) = 4 → wp_X11_contour_40  S16 x14 P) ∧ (¬ (S16.2.1 11 x14.toNatClampNeg) = 4 → (vp_in x14 (gw_ml 2) ∧ ((¬ (S16.2.1 12 x14.toNatClampNeg) = 16 → wp_X11_contour_45  S16 x14 0 P) ∧ ((S16.2.1 12 x14.toNatClampNeg) = 16 → wp_X11_contour_40  S16 x14 P)))))))))))
set_option maxHeartbeats 4000000 in
set_option maxRecDepth 100000 in
theorem run_X11_contour {l : Launch} {g : Gx} {S : St}  {P : Int32 → St → Prop}  (h : rowsLe S → wp_X11_contour S  P) : CMi g l yX11_contour cX11_contour 2 (some .int) rm_X11_contour [.ref (gad g 158)] S P := cm_entry (own := RX11) (plainFor_of_name (by decide)) rfl (Nat.le_of_ble_eq_true rfl) rfl (fun hle f hf C hrt => by
  subst hf
  replace h := h hle
  obtain ⟨T0, hT⟩ : ∃ T, S.2.2.1 = T := ⟨_, rfl⟩
  rw [hT]
  unfold wp_X11_contour at h
  refine ww_aload_n C dX11_contour_0 0 rfl ?_
  refine gf_Model_glyphs C bw_924 dX11_contour_1 ?_
  refine ww_iconst (v := 1) C dX11_contour_4 (by decide) ?_
  refine ww_isub C dX11_contour_5 ?_
  refine ww_topi (fun x14 e_x14 => ?_)
  replace h := h x14 e_x14
  refine ww_istore_n (lv2 := [(1, .int x14), (0, .ref (gad g 158))]) C dX11_contour_6 rfl (Nat.le_of_ble_eq_true rfl) rfl ?_
  refine ww_aload_n C dX11_contour_7 1 rfl ?_
  refine ww_iload_n C dX11_contour_8 0 rfl ?_
  refine ww_if_lt (tgt := 40) C dX11_contour_9 (by decide) (fun q15 => ?_) (fun q15 => ?_)
  · replace h := h.1 q15
    exact ww_sub [1, 0] rfl (run_X11_contour_40 C hrt  hT  h)
  · replace h := h.2 q15
    refine ww_aload_n C dX11_contour_12 1 rfl ?_
    refine ww_cVi (As := []) (rest := [.ref (gad g 158)]) C ok_X11_open bw_1053 dX11_contour_13 (run_X11_open  (fun _ => h)) rc_Model rfl ⟨Nat.le_of_ble_eq_true rfl, Nat.le_of_ble_eq_true rfl⟩ (Nat.le_of_ble_eq_true rfl) (c2 := 0) (s2 := 0) rfl rfl ⟨Nat.le_of_ble_eq_true rfl, Nat.le_of_ble_eq_true rfl⟩ rfl (fun r17 S16 hp hTg => ?_)
    replace h := hp
    have hT_S16 : S16.2.2.1 = T0 := by rw [hTg]; exact hT
    refine ww_if_ne (tgt := 40) C dX11_contour_16 (by decide) (fun q18 => ?_) (fun q18 => ?_)
    · replace h := h.1 q18
      exact ww_sub [1, 0] rfl (run_X11_contour_40 C hrt  hT_S16  h)
    · replace h := h.2 q18
      refine ww_aload_n C dX11_contour_19 1 rfl ?_
      refine gf_Model_contours C bw_926 dX11_contour_20 ?_
      refine ww_iload_n C dX11_contour_23 0 rfl ?_
      refine ia_m (a := 1) C (by decide) (by decide) h.1 dX11_contour_24 ?_
      replace h := h.2
      refine ww_iconst (v := 4) C dX11_contour_25 (by decide) ?_
      refine ww_icmp_eq (tgt := 40) C dX11_contour_26 (by decide) (fun q19 => ?_) (fun q19 => ?_)
      · replace h := h.1 q19
        exact ww_sub [1, 0] rfl (run_X11_contour_40 C hrt  hT_S16  h)
      · replace h := h.2 q19
        refine ww_aload_n C dX11_contour_29 1 rfl ?_
        refine gf_Model_points C bw_927 dX11_contour_30 ?_
        refine ww_iload_n C dX11_contour_33 0 rfl ?_
        refine ia_m (a := 2) C (by decide) (by decide) h.1 dX11_contour_34 ?_
        replace h := h.2
        refine ww_bipush (v := 16) C dX11_contour_35 (by decide) ?_
        refine ww_icmp_ne (tgt := 44) C dX11_contour_37 (by decide) (fun q20 => ?_) (fun q20 => ?_)
        · replace h := h.1 q20
          refine ww_iconst (v := 0) C dX11_contour_44 (by decide) ?_
          exact ww_sub [1, 0] rfl (run_X11_contour_45 C hrt  hT_S16  h)
        · replace h := h.2 q20
          exact ww_sub [1, 0] rfl (run_X11_contour_40 C hrt  hT_S16  h))
abbrev rm_X11_far : Room := { frames := 0, cells := 0, slots := 0, locals := 0 }
theorem ok_X11_far : SOK yX11_far cX11_far 1 (some .boolean) 1 := ⟨bw_1066, bw_69, bw_1067, by decide +kernel⟩
def wp_X11_far_19 (a : Int32) (S : St) (s0 : Int32) (P : Int32 → St → Prop) : Prop :=
  ((s0 = 0 ∨ s0 = 1) ∧ P s0 S)
set_option maxHeartbeats 4000000 in
set_option maxRecDepth 100000 in
theorem run_X11_far_19 {f : Fx} {g : Gx} {T0 : List (Nat × Nat × Nat)} {S : St} {a : Int32} {P : Int32 → St → Prop} (C : Cx f g cX11_far 1 RX11) (hrt : (fmeth f).sig.returnType = (some .boolean))  {s0 : Int32} (hT : S.2.2.1 = T0)  (h : wp_X11_far_19 a S s0 P) : WW f rm_X11_far g 1 0 0 (Qi f g 0 0 T0 P) S 19 [] [.int s0] := by
  unfold wp_X11_far_19 at h
  exact ww_zret C hrt dX11_far_19 hT h.1 h.2
def wp_X11_far_14 (a : Int32) (S : St)  (P : Int32 → St → Prop) : Prop :=
  wp_X11_far_19 a S 1 P
set_option maxHeartbeats 4000000 in
set_option maxRecDepth 100000 in
theorem run_X11_far_14 {f : Fx} {g : Gx} {T0 : List (Nat × Nat × Nat)} {S : St} {a : Int32} {P : Int32 → St → Prop} (C : Cx f g cX11_far 1 RX11) (hrt : (fmeth f).sig.returnType = (some .boolean))   (hT : S.2.2.1 = T0)  (h : wp_X11_far_14 a S  P) : WW f rm_X11_far g 1 0 0 (Qi f g 0 0 T0 P) S 14 [] [] := by
  unfold wp_X11_far_14 at h
  refine ww_iconst (v := 1) C dX11_far_14 (by decide) ?_
  refine ww_goto (tgt := 19) C dX11_far_15 (by decide) ?_
  exact ww_sub [] rfl (run_X11_far_19 C hrt  hT  h)
def wp_X11_far (S : St) (a : Int32) (P : Int32 → St → Prop) : Prop :=
  ((a < ((-4000)) → wp_X11_far_14 a S  P) ∧ (¬ a < ((-4000)) → ((a ≤ 4000 → wp_X11_far_19 a S 0 P) ∧ (¬ a ≤ 4000 → wp_X11_far_14 a S  P))))
set_option maxHeartbeats 4000000 in
set_option maxRecDepth 100000 in
theorem run_X11_far {l : Launch} {g : Gx} {S : St} {a : Int32} {P : Int32 → St → Prop}  (h : rowsLe S → wp_X11_far S a P) : CMi g l yX11_far cX11_far 1 (some .boolean) rm_X11_far [.int a] S P := cm_entry (own := RX11) (plainFor_of_name (by decide)) rfl (Nat.le_of_ble_eq_true rfl) rfl (fun hle f hf C hrt => by
  subst hf
  replace h := h hle
  obtain ⟨T0, hT⟩ : ∃ T, S.2.2.1 = T := ⟨_, rfl⟩
  rw [hT]
  unfold wp_X11_far at h
  refine ww_iload_n C dX11_far_0 0 rfl ?_
  refine ww_sipush (v := (-4000)) C dX11_far_1 (by decide) ?_
  refine ww_icmp_lt (tgt := 14) C dX11_far_4 (by decide) (fun q3 => ?_) (fun q3 => ?_)
  · replace h := h.1 q3
    exact ww_sub [] rfl (run_X11_far_14 C hrt  hT  h)
  · replace h := h.2 q3
    refine ww_iload_n C dX11_far_7 0 rfl ?_
    refine ww_sipush (v := 4000) C dX11_far_8 (by decide) ?_
    refine ww_icmp_le (tgt := 18) C dX11_far_11 (by decide) (fun q4 => ?_) (fun q4 => ?_)
    · replace h := h.1 q4
      refine ww_iconst (v := 0) C dX11_far_18 (by decide) ?_
      exact ww_sub [] rfl (run_X11_far_19 C hrt  hT  h)
    · replace h := h.2 q4
      exact ww_sub [] rfl (run_X11_far_14 C hrt  hT  h))
abbrev rm_X11_point : Room := { frames := 1, cells := 0, slots := 0, locals := 20 }
theorem ok_X11_point : MOK yX11_point RX11 cX11_point 6 (some .int) 3 := ⟨bw_1062, bw_1063, bw_69, bw_1064, by decide +kernel⟩
def wp_X11_point_59 (x : Int32) (y : Int32) (o : Int32) (S : St) (v4 : Int32) (s0 : Int32) (P : Int32 → St → Prop) : Prop :=
  ∀ S19 : St, S19 = stM S 9 0 s0 → (((S19.2.1 9 0) ≤ 0 → (vp_in v4 (gw_ml 2) ∧ ∀ x21 : Int32, x21 = (16 * v4) + (S19.2.1 12 v4.toNatClampNeg) → (vp_in x21 (gw_ml 3) ∧ ∀ S22 : St, S22 = stM S19 13 x21.toNatClampNeg x → (vp_in x21 (gw_ml 4) ∧ ∀ S23 : St, S23 = stM S22 14 x21.toNatClampNeg y → (vp_in x21 (gw_ml 5) ∧ ((o = 0 ∨ o = 1) ∧ ∀ S24 : St, S24 = stM S23 15 x21.toNatClampNeg o → (vp_in v4 (gw_ml 1) ∧ (vp_in x21 (gw_ml 6) ∧ ∀ S25 : St, S25 = stM S24 16 x21.toNatClampNeg ((S24.2.1 11 v4.toNatClampNeg) - 1) → (vp_in v4 (gw_ml 2) ∧ (vp_in v4 (gw_ml 2) ∧ ∀ S26 : St, S26 = stM S25 12 v4.toNatClampNeg ((S25.2.1 12 v4.toNatClampNeg) + 1) → (vp_in v4 (gw_ml 2) ∧ P ((S26.2.1 12 v4.toNatClampNeg) - 1) S26))))))))))) ∧ (¬ (S19.2.1 9 0) ≤ 0 → P 0 S19))
set_option maxHeartbeats 4000000 in
set_option maxRecDepth 100000 in
theorem run_X11_point_59 {f : Fx} {g : Gx} {T0 : List (Nat × Nat × Nat)} {S : St} {x : Int32} {y : Int32} {o : Int32} {P : Int32 → St → Prop} (C : Cx f g cX11_point 6 RX11) (hrt : (fmeth f).sig.returnType = (some .int))  {v4 : Int32} {s0 : Int32} (hT : S.2.2.1 = T0)  (h : wp_X11_point_59 x y o S v4 s0 P) : WW f rm_X11_point g 6 0 0 (Qi f g 0 0 T0 P) S 59 [(0, .ref (gad g 158)), (1, .int x), (2, .int y), (3, .int o), (4, .int v4)] [.int s0, .ref (gad g 158)] := by
  unfold wp_X11_point_59 at h
  refine pf_Model_thrown C bw_923 dX11_point_59 ?_
  refine ww_nm (fun S19 e_S19 => ?_)
  replace h := h S19 e_S19
  have hT_S19 : S19.2.2.1 = T0 := by rw [e_S19]; exact hT
  refine ww_aload_n C dX11_point_62 0 rfl ?_
  refine gf_Model_thrown C bw_923 dX11_point_63 ?_
  refine ww_if_le (tgt := 71) C dX11_point_66 (by decide) (fun q20 => ?_) (fun q20 => ?_)
  · replace h := h.1 q20
    refine ww_bipush (v := 16) C dX11_point_71 (by decide) ?_
    refine ww_iload C dX11_point_73 4 rfl ?_
    refine ww_imul C dX11_point_75 ?_
    refine ww_aload_n C dX11_point_76 0 rfl ?_
    refine gf_Model_points C bw_927 dX11_point_77 ?_
    refine ww_iload C dX11_point_80 4 rfl ?_
    refine ia_m (a := 2) C (by decide) (by decide) h.1 dX11_point_82 ?_
    replace h := h.2
    refine ww_iadd C dX11_point_83 ?_
    refine ww_topi (fun x21 e_x21 => ?_)
    replace h := h x21 e_x21
    refine ww_istore (lv2 := [(5, .int x21), (0, .ref (gad g 158)), (1, .int x), (2, .int y), (3, .int o), (4, .int v4)]) C dX11_point_84 (Nat.le_of_ble_eq_true rfl) rfl ?_
    refine ww_aload_n C dX11_point_86 1 rfl ?_
    refine gf_Model_px C bw_928 dX11_point_87 ?_
    refine ww_iload C dX11_point_90 0 rfl ?_
    refine ww_iload_n C dX11_point_92 2 rfl ?_
    refine is_m (a := 3) C (by decide) (by decide) h.1 dX11_point_93 ?_
    replace h := h.2
    refine ww_nm (fun S22 e_S22 => ?_)
    replace h := h S22 e_S22
    have hT_S22 : S22.2.2.1 = T0 := by rw [e_S22]; exact hT_S19
    refine ww_aload_n C dX11_point_94 1 rfl ?_
    refine gf_Model_py C bw_929 dX11_point_95 ?_
    refine ww_iload C dX11_point_98 0 rfl ?_
    refine ww_iload_n C dX11_point_100 3 rfl ?_
    refine is_m (a := 4) C (by decide) (by decide) h.1 dX11_point_101 ?_
    replace h := h.2
    refine ww_nm (fun S23 e_S23 => ?_)
    replace h := h S23 e_S23
    have hT_S23 : S23.2.2.1 = T0 := by rw [e_S23]; exact hT_S22
    refine ww_aload_n C dX11_point_102 1 rfl ?_
    refine gf_Model_on C bw_930 dX11_point_103 ?_
    refine ww_iload C dX11_point_106 0 rfl ?_
    refine ww_iload_n C dX11_point_108 4 rfl ?_
    refine is_on C h.1 h.2.1 dX11_point_109 ?_
    replace h := h.2.2
    refine ww_nm (fun S24 e_S24 => ?_)
    replace h := h S24 e_S24
    have hT_S24 : S24.2.2.1 = T0 := by rw [e_S24]; exact hT_S23
    refine ww_aload_n C dX11_point_110 1 rfl ?_
    refine gf_Model_contourOf C bw_931 dX11_point_111 ?_
    refine ww_iload C dX11_point_114 0 rfl ?_
    refine ww_aload_n C dX11_point_116 1 rfl ?_
    refine gf_Model_contours C bw_926 dX11_point_117 ?_
    refine ww_iload C dX11_point_120 5 rfl ?_
    refine ia_m (a := 1) C (by decide) (by decide) h.1 dX11_point_122 ?_
    replace h := h.2
    refine ww_iconst (v := 1) C dX11_point_123 (by decide) ?_
    refine ww_isub C dX11_point_124 ?_
    refine is_m (a := 6) C (by decide) (by decide) h.1 dX11_point_125 ?_
    replace h := h.2
    refine ww_nm (fun S25 e_S25 => ?_)
    replace h := h S25 e_S25
    have hT_S25 : S25.2.2.1 = T0 := by rw [e_S25]; exact hT_S24
    refine ww_aload_n C dX11_point_126 1 rfl ?_
    refine gf_Model_points C bw_927 dX11_point_127 ?_
    refine ww_iload C dX11_point_130 5 rfl ?_
    refine ww_dup2 C dX11_point_132 rfl rfl ?_
    refine ia_m (a := 2) C (by decide) (by decide) h.1 dX11_point_133 ?_
    replace h := h.2
    refine ww_iconst (v := 1) C dX11_point_134 (by decide) ?_
    refine ww_iadd C dX11_point_135 ?_
    refine is_m (a := 2) C (by decide) (by decide) h.1 dX11_point_136 ?_
    replace h := h.2
    refine ww_nm (fun S26 e_S26 => ?_)
    replace h := h S26 e_S26
    have hT_S26 : S26.2.2.1 = T0 := by rw [e_S26]; exact hT_S25
    refine ww_aload_n C dX11_point_137 1 rfl ?_
    refine gf_Model_points C bw_927 dX11_point_138 ?_
    refine ww_iload C dX11_point_141 5 rfl ?_
    refine ia_m (a := 2) C (by decide) (by decide) h.1 dX11_point_143 ?_
    replace h := h.2
    refine ww_iconst (v := 1) C dX11_point_144 (by decide) ?_
    refine ww_isub C dX11_point_145 ?_
    exact ww_iret C hrt dX11_point_146 hT_S26 h
  · replace h := h.2 q20
    refine ww_iconst (v := 0) C dX11_point_69 (by decide) ?_
    exact ww_iret C hrt dX11_point_70 hT_S19 h
def wp_X11_point_54 (x : Int32) (y : Int32) (o : Int32) (S : St) (v4 : Int32) (P : Int32 → St → Prop) : Prop :=
  wp_X11_point_59 x y o S v4 2 P
set_option maxHeartbeats 4000000 in
set_option maxRecDepth 100000 in
theorem run_X11_point_54 {f : Fx} {g : Gx} {T0 : List (Nat × Nat × Nat)} {S : St} {x : Int32} {y : Int32} {o : Int32} {P : Int32 → St → Prop} (C : Cx f g cX11_point 6 RX11) (hrt : (fmeth f).sig.returnType = (some .int))  {v4 : Int32} (hT : S.2.2.1 = T0)  (h : wp_X11_point_54 x y o S v4 P) : WW f rm_X11_point g 6 0 0 (Qi f g 0 0 T0 P) S 54 [(0, .ref (gad g 158)), (1, .int x), (2, .int y), (3, .int o), (4, .int v4)] [.ref (gad g 158)] := by
  unfold wp_X11_point_54 at h
  refine ww_iconst (v := 2) C dX11_point_54 (by decide) ?_
  refine ww_goto (tgt := 59) C dX11_point_55 (by decide) ?_
  exact ww_sub [0, 1, 2, 3, 4] rfl (run_X11_point_59 C hrt  hT  h)
def wp_X11_point_23 (x : Int32) (y : Int32) (o : Int32) (S : St) (v4 : Int32) (P : Int32 → St → Prop) : Prop :=
  wp_X11_point_59 x y o S v4 1 P
set_option maxHeartbeats 4000000 in
set_option maxRecDepth 100000 in
theorem run_X11_point_23 {f : Fx} {g : Gx} {T0 : List (Nat × Nat × Nat)} {S : St} {x : Int32} {y : Int32} {o : Int32} {P : Int32 → St → Prop} (C : Cx f g cX11_point 6 RX11) (hrt : (fmeth f).sig.returnType = (some .int))  {v4 : Int32} (hT : S.2.2.1 = T0)  (h : wp_X11_point_23 x y o S v4 P) : WW f rm_X11_point g 6 0 0 (Qi f g 0 0 T0 P) S 23 [(0, .ref (gad g 158)), (1, .int x), (2, .int y), (3, .int o), (4, .int v4)] [.ref (gad g 158)] := by
  unfold wp_X11_point_23 at h
  refine ww_iconst (v := 1) C dX11_point_23 (by decide) ?_
  refine ww_goto (tgt := 59) C dX11_point_24 (by decide) ?_
  exact ww_sub [0, 1, 2, 3, 4] rfl (run_X11_point_59 C hrt  hT  h)
def wp_X11_point (S : St) (x : Int32) (y : Int32) (o : Int32) (P : Int32 → St → Prop) : Prop :=
  ∀ x27 : Int32, x27 = (S.2.1 9 1) - 1 → wp_X11_far S x (fun r29 S28 => ((¬ r29 = 0 → wp_X11_point_23 x y o S28 x27 P) ∧ (r29 = 0 → wp_X11_far S28 y (fun r32 S31 => ((r32 = 0 → ((x27 < 0 → wp_X11_point_54 x y o S31 x27 P) ∧ (¬ x27 < 0 → (vp_in x27 (gw_ml 1) ∧ (((S31.2.1 11 x27.toNatClampNeg) = 0 → wp_X11_point_54 x y o S31 x27 P) ∧ (¬ (S31.2.1 11 x27.toNatClampNeg) = 0 → (vp_in x27 (gw_ml 2) ∧ ((¬ (S31.2.1 12 x27.toNatClampNeg) = 16 → wp_X11_point_59 x y o S31 x27 0 P) ∧ ((S31.2.1 12 x27.toNatClampNeg) = 16 → wp_X11_point_54 x y o S31 x27 P))))))))) ∧ (¬ r32 = 0 → wp_X11_point_23 x y o S31 x27 P))))))
set_option maxHeartbeats 4000000 in
set_option maxRecDepth 100000 in
theorem run_X11_point {l : Launch} {g : Gx} {S : St} {x : Int32} {y : Int32} {o : Int32} {P : Int32 → St → Prop}  (h : rowsLe S → wp_X11_point S x y o P) : CMi g l yX11_point cX11_point 6 (some .int) rm_X11_point [.ref (gad g 158), .int x, .int y, .int o] S P := cm_entry (own := RX11) (plainFor_of_name (by decide)) rfl (Nat.le_of_ble_eq_true rfl) rfl (fun hle f hf C hrt => by
  subst hf
  replace h := h hle
  obtain ⟨T0, hT⟩ : ∃ T, S.2.2.1 = T := ⟨_, rfl⟩
  rw [hT]
  unfold wp_X11_point at h
  refine ww_aload_n C dX11_point_0 0 rfl ?_
  refine gf_Model_glyphs C bw_924 dX11_point_1 ?_
  refine ww_iconst (v := 1) C dX11_point_4 (by decide) ?_
  refine ww_isub C dX11_point_5 ?_
  refine ww_topi (fun x27 e_x27 => ?_)
  replace h := h x27 e_x27
  refine ww_istore (lv2 := [(4, .int x27), (0, .ref (gad g 158)), (1, .int x), (2, .int y), (3, .int o)]) C dX11_point_6 (Nat.le_of_ble_eq_true rfl) rfl ?_
  refine ww_aload_n C dX11_point_8 1 rfl ?_
  refine ww_iload_n C dX11_point_9 2 rfl ?_
  refine ww_cSi (As := [.int x]) (rest := [.ref (gad g 158)]) C ok_X11_far bw_1065 dX11_point_10 (run_X11_far  (fun _ => h)) rfl ⟨Nat.le_of_ble_eq_true rfl, Nat.le_of_ble_eq_true rfl⟩ (Nat.le_of_ble_eq_true rfl) (c2 := 0) (s2 := 0) rfl rfl ⟨Nat.le_of_ble_eq_true rfl, Nat.le_of_ble_eq_true rfl⟩ rfl (fun r29 S28 hp hTg => ?_)
  replace h := hp
  have hT_S28 : S28.2.2.1 = T0 := by rw [hTg]; exact hT
  refine ww_if_ne (tgt := 23) C dX11_point_13 (by decide) (fun q30 => ?_) (fun q30 => ?_)
  · replace h := h.1 q30
    exact ww_sub [1, 2, 3, 4, 0] rfl (run_X11_point_23 C hrt  hT_S28  h)
  · replace h := h.2 q30
    refine ww_iload_n C dX11_point_16 3 rfl ?_
    refine ww_cSi (As := [.int y]) (rest := [.ref (gad g 158)]) C ok_X11_far bw_1065 dX11_point_17 (run_X11_far  (fun _ => h)) rfl ⟨Nat.le_of_ble_eq_true rfl, Nat.le_of_ble_eq_true rfl⟩ (Nat.le_of_ble_eq_true rfl) (c2 := 0) (s2 := 0) rfl rfl ⟨Nat.le_of_ble_eq_true rfl, Nat.le_of_ble_eq_true rfl⟩ rfl (fun r32 S31 hp hTg => ?_)
    replace h := hp
    have hT_S31 : S31.2.2.1 = T0 := by rw [hTg]; exact hT_S28
    refine ww_if_eq (tgt := 27) C dX11_point_20 (by decide) (fun q33 => ?_) (fun q33 => ?_)
    · replace h := h.1 q33
      refine ww_iload C dX11_point_27 0 rfl ?_
      refine ww_if_lt (tgt := 54) C dX11_point_29 (by decide) (fun q34 => ?_) (fun q34 => ?_)
      · replace h := h.1 q34
        exact ww_sub [1, 2, 3, 4, 0] rfl (run_X11_point_54 C hrt  hT_S31  h)
      · replace h := h.2 q34
        refine ww_aload_n C dX11_point_32 1 rfl ?_
        refine gf_Model_contours C bw_926 dX11_point_33 ?_
        refine ww_iload C dX11_point_36 0 rfl ?_
        refine ia_m (a := 1) C (by decide) (by decide) h.1 dX11_point_38 ?_
        replace h := h.2
        refine ww_if_eq (tgt := 54) C dX11_point_39 (by decide) (fun q35 => ?_) (fun q35 => ?_)
        · replace h := h.1 q35
          exact ww_sub [1, 2, 3, 4, 0] rfl (run_X11_point_54 C hrt  hT_S31  h)
        · replace h := h.2 q35
          refine ww_aload_n C dX11_point_42 1 rfl ?_
          refine gf_Model_points C bw_927 dX11_point_43 ?_
          refine ww_iload C dX11_point_46 0 rfl ?_
          refine ia_m (a := 2) C (by decide) (by decide) h.1 dX11_point_48 ?_
          replace h := h.2
          refine ww_bipush (v := 16) C dX11_point_49 (by decide) ?_
          refine ww_icmp_ne (tgt := 58) C dX11_point_51 (by decide) (fun q36 => ?_) (fun q36 => ?_)
          · replace h := h.1 q36
            refine ww_iconst (v := 0) C dX11_point_58 (by decide) ?_
            exact ww_sub [1, 2, 3, 4, 0] rfl (run_X11_point_59 C hrt  hT_S31  h)
          · replace h := h.2 q36
            exact ww_sub [1, 2, 3, 4, 0] rfl (run_X11_point_54 C hrt  hT_S31  h)
    · replace h := h.2 q33
      exact ww_sub [1, 2, 3, 4, 0] rfl (run_X11_point_23 C hrt  hT_S31  h))
abbrev rm_X11_table : Room := { frames := 0, cells := 0, slots := 0, locals := 0 }
theorem ok_X11_table : MOK yX11_table RX11 cX11_table 6 (some .int) 3 := ⟨bw_1069, bw_1070, bw_69, bw_1071, by decide +kernel⟩
def st_X11_table_25 (t : Int32) (a : Int64) (n : Int32) (P : Int32 → St → Prop) (X25 : St → Prop) (X48 : St → Int32 → Prop) (X66 : St → Int32 → Prop) (S : St)  : Prop :=
  X48 S 1
def st_X11_table_48 (t : Int32) (a : Int64) (n : Int32) (P : Int32 → St → Prop) (X25 : St → Prop) (X48 : St → Int32 → Prop) (X66 : St → Int32 → Prop) (S : St) (s0 : Int32) : Prop :=
  ∀ S13 : St, S13 = stM S 9 0 s0 → (((S13.2.1 9 0) ≤ 0 → ∀ x15 : Int32, x15 = n - 1 → X66 S13 x15) ∧ (¬ (S13.2.1 9 0) ≤ 0 → P 0 S13))
def st_X11_table_66 (t : Int32) (a : Int64) (n : Int32) (P : Int32 → St → Prop) (X25 : St → Prop) (X48 : St → Int32 → Prop) (X66 : St → Int32 → Prop) (S : St) (v5 : Int32) : Prop :=
  ((v5 < 0 → (vp_in t (gw_ml 7) ∧ P (S.2.1 17 t.toNatClampNeg) S)) ∧ (¬ v5 < 0 → (vp_in t (gw_ml 7) ∧ (vp_in ((20 * t) + (S.2.1 17 t.toNatClampNeg)) (gw_ml 8) ∧ ∀ S17 : St, S17 = stM S 18 ((20 * t) + (S.2.1 17 t.toNatClampNeg)).toNatClampNeg (((a >>> ((8 * v5).toInt64 &&& 63)) &&& 255).toInt32) → (vp_in t (gw_ml 7) ∧ (vp_in t (gw_ml 7) ∧ ∀ S18 : St, S18 = stM S17 17 t.toNatClampNeg ((S17.2.1 17 t.toNatClampNeg) + 1) → ∀ x19 : Int32, x19 = v5 + (-1) → X66 S18 x19))))))
def at_X11_table_25 (f : Fx) (g : Gx) (T0 : List (Nat × Nat × Nat)) (t : Int32) (a : Int64) (n : Int32) (P : Int32 → St → Prop) (S : St)  : Prop := S.2.2.1 = T0 → WW f rm_X11_table g 6 0 0 (Qi f g 0 0 T0 P) S 25 [(0, .ref (gad g 158)), (1, .int t), (2, .long a), (4, .int n)] [.ref (gad g 158)]
def at_X11_table_48 (f : Fx) (g : Gx) (T0 : List (Nat × Nat × Nat)) (t : Int32) (a : Int64) (n : Int32) (P : Int32 → St → Prop) (S : St) (s0 : Int32) : Prop := S.2.2.1 = T0 → WW f rm_X11_table g 6 0 0 (Qi f g 0 0 T0 P) S 48 [(0, .ref (gad g 158)), (1, .int t), (2, .long a), (4, .int n)] [.int s0, .ref (gad g 158)]
def at_X11_table_66 (f : Fx) (g : Gx) (T0 : List (Nat × Nat × Nat)) (t : Int32) (a : Int64) (n : Int32) (P : Int32 → St → Prop) (S : St) (v5 : Int32) : Prop := S.2.2.1 = T0 → WW f rm_X11_table g 6 0 0 (Qi f g 0 0 T0 P) S 66 [(0, .ref (gad g 158)), (1, .int t), (2, .long a), (5, .int v5)] []
set_option maxHeartbeats 4000000 in
set_option maxRecDepth 100000 in
theorem run_X11_table_25 {f : Fx} {g : Gx} {T0 : List (Nat × Nat × Nat)} {S : St} {t : Int32} {a : Int64} {n : Int32} {P : Int32 → St → Prop} (C : Cx f g cX11_table 6 RX11) (hrt : (fmeth f).sig.returnType = (some .int))   (h : st_X11_table_25 t a n P (at_X11_table_25 f g T0 t a n P) (at_X11_table_48 f g T0 t a n P) (at_X11_table_66 f g T0 t a n P) S ) : at_X11_table_25 f g T0 t a n P S  := by
  intro hT 
  unfold st_X11_table_25 at h
  refine ww_iconst (v := 1) C dX11_table_25 (by decide) ?_
  refine ww_goto (tgt := 48) C dX11_table_26 (by decide) ?_
  exact ww_sub [0, 1, 2, 3] rfl (h hT)
set_option maxHeartbeats 4000000 in
set_option maxRecDepth 100000 in
theorem run_X11_table_48 {f : Fx} {g : Gx} {T0 : List (Nat × Nat × Nat)} {S : St} {t : Int32} {a : Int64} {n : Int32} {P : Int32 → St → Prop} (C : Cx f g cX11_table 6 RX11) (hrt : (fmeth f).sig.returnType = (some .int))  {s0 : Int32} (h : st_X11_table_48 t a n P (at_X11_table_25 f g T0 t a n P) (at_X11_table_48 f g T0 t a n P) (at_X11_table_66 f g T0 t a n P) S s0) : at_X11_table_48 f g T0 t a n P S s0 := by
  intro hT 
  unfold st_X11_table_48 at h
  refine pf_Model_thrown C bw_923 dX11_table_48 ?_
  refine ww_nm (fun S13 e_S13 => ?_)
  replace h := h S13 e_S13
  have hT_S13 : S13.2.2.1 = T0 := by rw [e_S13]; exact hT
  refine ww_aload_n C dX11_table_51 0 rfl ?_
  refine gf_Model_thrown C bw_923 dX11_table_52 ?_
  refine ww_if_le (tgt := 60) C dX11_table_55 (by decide) (fun q14 => ?_) (fun q14 => ?_)
  · replace h := h.1 q14
    refine ww_iload C dX11_table_60 3 rfl ?_
    refine ww_iconst (v := 1) C dX11_table_62 (by decide) ?_
    refine ww_isub C dX11_table_63 ?_
    refine ww_topi (fun x15 e_x15 => ?_)
    replace h := h x15 e_x15
    refine ww_istore (lv2 := [(5, .int x15), (0, .ref (gad g 158)), (1, .int t), (2, .long a), (4, .int n)]) C dX11_table_64 (Nat.le_of_ble_eq_true rfl) rfl ?_
    exact ww_sub [1, 2, 3, 0] rfl (h hT_S13)
  · replace h := h.2 q14
    refine ww_iconst (v := 0) C dX11_table_58 (by decide) ?_
    exact ww_iret C hrt dX11_table_59 hT_S13 h
set_option maxHeartbeats 4000000 in
set_option maxRecDepth 100000 in
theorem run_X11_table_66 {f : Fx} {g : Gx} {T0 : List (Nat × Nat × Nat)} {S : St} {t : Int32} {a : Int64} {n : Int32} {P : Int32 → St → Prop} (C : Cx f g cX11_table 6 RX11) (hrt : (fmeth f).sig.returnType = (some .int))  {v5 : Int32} (h : st_X11_table_66 t a n P (at_X11_table_25 f g T0 t a n P) (at_X11_table_48 f g T0 t a n P) (at_X11_table_66 f g T0 t a n P) S v5) : at_X11_table_66 f g T0 t a n P S v5 := by
  intro hT 
  unfold st_X11_table_66 at h
  refine ww_iload C dX11_table_66 3 rfl ?_
  refine ww_if_lt (tgt := 115) C dX11_table_68 (by decide) (fun q16 => ?_) (fun q16 => ?_)
  · replace h := h.1 q16
    refine ww_aload_n C dX11_table_115 0 rfl ?_
    refine gf_Model_rowSize C bw_932 dX11_table_116 ?_
    refine ww_iload_n C dX11_table_119 1 rfl ?_
    refine ia_m (a := 7) C (by decide) (by decide) h.1 dX11_table_120 ?_
    replace h := h.2
    exact ww_iret C hrt dX11_table_121 hT h
  · replace h := h.2 q16
    refine ww_aload_n C dX11_table_71 0 rfl ?_
    refine gf_Model_row C bw_933 dX11_table_72 ?_
    refine ww_bipush (v := 20) C dX11_table_75 (by decide) ?_
    refine ww_iload_n C dX11_table_77 1 rfl ?_
    refine ww_imul C dX11_table_78 ?_
    refine ww_aload_n C dX11_table_79 0 rfl ?_
    refine gf_Model_rowSize C bw_932 dX11_table_80 ?_
    refine ww_iload_n C dX11_table_83 1 rfl ?_
    refine ia_m (a := 7) C (by decide) (by decide) h.1 dX11_table_84 ?_
    replace h := h.2
    refine ww_iadd C dX11_table_85 ?_
    refine ww_lload_n C dX11_table_86 2 rfl ?_
    refine ww_bipush (v := 8) C dX11_table_87 (by decide) ?_
    refine ww_iload C dX11_table_89 3 rfl ?_
    refine ww_imul C dX11_table_91 ?_
    refine ww_lshr C dX11_table_92 ?_
    refine ww_ldc2 (v := 255) C dX11_table_93 bw_1072 ?_
    refine ww_land C dX11_table_96 ?_
    refine ww_l2i C dX11_table_97 ?_
    refine is_m (a := 8) C (by decide) (by decide) h.1 dX11_table_98 ?_
    replace h := h.2
    refine ww_nm (fun S17 e_S17 => ?_)
    replace h := h S17 e_S17
    have hT_S17 : S17.2.2.1 = T0 := by rw [e_S17]; exact hT
    refine ww_aload_n C dX11_table_99 0 rfl ?_
    refine gf_Model_rowSize C bw_932 dX11_table_100 ?_
    refine ww_iload_n C dX11_table_103 1 rfl ?_
    refine ww_dup2 C dX11_table_104 rfl rfl ?_
    refine ia_m (a := 7) C (by decide) (by decide) h.1 dX11_table_105 ?_
    replace h := h.2
    refine ww_iconst (v := 1) C dX11_table_106 (by decide) ?_
    refine ww_iadd C dX11_table_107 ?_
    refine is_m (a := 7) C (by decide) (by decide) h.1 dX11_table_108 ?_
    replace h := h.2
    refine ww_nm (fun S18 e_S18 => ?_)
    replace h := h S18 e_S18
    have hT_S18 : S18.2.2.1 = T0 := by rw [e_S18]; exact hT_S17
    obtain ⟨x19, e_x19⟩ : ∃ z : Int32, z = v5 + (-1) := ⟨_, rfl⟩
    replace h := h x19 e_x19
    refine ww_iinc (v := x19) (lv2 := [(5, .int x19), (0, .ref (gad g 158)), (1, .int t), (2, .long a)]) C dX11_table_109 3 rfl (by rw [e_x19]; rfl) (Nat.le_of_ble_eq_true rfl) rfl ?_
    refine ww_goto (tgt := 66) C dX11_table_112 (by decide) ?_
    exact ww_sub [1, 2, 3, 0] rfl (h hT_S18)
def wp_X11_table (S : St) (t : Int32) (a : Int64) (n : Int32) (P : Int32 → St → Prop) : Prop :=
  ∀ (X25 : St → Prop) (X48 : St → Int32 → Prop) (X66 : St → Int32 → Prop), (∀ S , st_X11_table_25 t a n P X25 X48 X66 S  → X25 S ) → (∀ S s0, st_X11_table_48 t a n P X25 X48 X66 S s0 → X48 S s0) → (∀ S v5, st_X11_table_66 t a n P X25 X48 X66 S v5 → X66 S v5) → ((t < 2 → X25 S) ∧ (¬ t < 2 → ((6 < t → X25 S) ∧ (¬ 6 < t → ((n < 1 → X25 S) ∧ (¬ n < 1 → ((n ≤ 8 → (vp_in t (gw_ml 7) ∧ ((((S.2.1 17 t.toNatClampNeg) + n) ≤ 20 → X48 S 0) ∧ (¬ ((S.2.1 17 t.toNatClampNeg) + n) ≤ 20 → X48 S 2)))) ∧ (¬ n ≤ 8 → X25 S))))))))
set_option maxHeartbeats 4000000 in
set_option maxRecDepth 100000 in
theorem run_X11_table {l : Launch} {g : Gx} {S : St} {t : Int32} {a : Int64} {n : Int32} {P : Int32 → St → Prop}  (h : rowsLe S → wp_X11_table S t a n P) : CMi g l yX11_table cX11_table 6 (some .int) rm_X11_table [.ref (gad g 158), .int t, .long a, .int n] S P := cm_entry (own := RX11) (plainFor_of_name (by decide)) rfl (Nat.le_of_ble_eq_true rfl) rfl (fun hle f hf C hrt => by
  subst hf
  replace h := h hle
  obtain ⟨T0, hT⟩ : ∃ T, S.2.2.1 = T := ⟨_, rfl⟩
  rw [hT]
  replace h := h (at_X11_table_25 f g T0 t a n P) (at_X11_table_48 f g T0 t a n P) (at_X11_table_66 f g T0 t a n P) (fun S  h => run_X11_table_25 C hrt  h) (fun S s0 h => run_X11_table_48 C hrt  h) (fun S v5 h => run_X11_table_66 C hrt  h)
  refine ww_aload_n C dX11_table_0 0 rfl ?_
  refine ww_iload_n C dX11_table_1 1 rfl ?_
  refine ww_iconst (v := 2) C dX11_table_2 (by decide) ?_
  refine ww_icmp_lt (tgt := 25) C dX11_table_3 (by decide) (fun q20 => ?_) (fun q20 => ?_)
  · replace h := h.1 q20
    exact ww_sub [0, 1, 2, 3] rfl (h hT)
  · replace h := h.2 q20
    refine ww_iload_n C dX11_table_6 1 rfl ?_
    refine ww_bipush (v := 6) C dX11_table_7 (by decide) ?_
    refine ww_icmp_gt (tgt := 25) C dX11_table_9 (by decide) (fun q21 => ?_) (fun q21 => ?_)
    · replace h := h.1 q21
      exact ww_sub [0, 1, 2, 3] rfl (h hT)
    · replace h := h.2 q21
      refine ww_iload C dX11_table_12 3 rfl ?_
      refine ww_iconst (v := 1) C dX11_table_14 (by decide) ?_
      refine ww_icmp_lt (tgt := 25) C dX11_table_15 (by decide) (fun q22 => ?_) (fun q22 => ?_)
      · replace h := h.1 q22
        exact ww_sub [0, 1, 2, 3] rfl (h hT)
      · replace h := h.2 q22
        refine ww_iload C dX11_table_18 3 rfl ?_
        refine ww_bipush (v := 8) C dX11_table_20 (by decide) ?_
        refine ww_icmp_le (tgt := 29) C dX11_table_22 (by decide) (fun q23 => ?_) (fun q23 => ?_)
        · replace h := h.1 q23
          refine ww_aload_n C dX11_table_29 0 rfl ?_
          refine gf_Model_rowSize C bw_932 dX11_table_30 ?_
          refine ww_iload_n C dX11_table_33 1 rfl ?_
          refine ia_m (a := 7) C (by decide) (by decide) h.1 dX11_table_34 ?_
          replace h := h.2
          refine ww_iload C dX11_table_35 3 rfl ?_
          refine ww_iadd C dX11_table_37 ?_
          refine ww_bipush (v := 20) C dX11_table_38 (by decide) ?_
          refine ww_icmp_le (tgt := 47) C dX11_table_40 (by decide) (fun q24 => ?_) (fun q24 => ?_)
          · replace h := h.1 q24
            refine ww_iconst (v := 0) C dX11_table_47 (by decide) ?_
            exact ww_sub [0, 1, 2, 3] rfl (h hT)
          · replace h := h.2 q24
            refine ww_iconst (v := 2) C dX11_table_43 (by decide) ?_
            refine ww_goto (tgt := 48) C dX11_table_44 (by decide) ?_
            exact ww_sub [0, 1, 2, 3] rfl (h hT)
        · replace h := h.2 q23
          exact ww_sub [0, 1, 2, 3] rfl (h hT))
abbrev rm_X11_clear : Room := { frames := 0, cells := 0, slots := 0, locals := 0 }
theorem ok_X11_clear : MOK yX11_clear RX11 cX11_clear 2 none 0 := ⟨bw_1074, bw_1075, bw_69, bw_1076, by decide +kernel⟩
def st_X11_clear_12  (P : St → Prop) (X12 : St → Int32 → Prop) (S : St) (v1 : Int32) : Prop :=
  ((7 ≤ v1 → P S) ∧ (¬ 7 ≤ v1 → (vp_in v1 (gw_ml 7) ∧ ∀ S7 : St, S7 = stM S 17 v1.toNatClampNeg 0 → ∀ x8 : Int32, x8 = v1 + 1 → X12 S7 x8)))
def at_X11_clear_12 (f : Fx) (g : Gx) (T0 : List (Nat × Nat × Nat))  (P : St → Prop) (S : St) (v1 : Int32) : Prop := S.2.2.1 = T0 → WW f rm_X11_clear g 2 0 0 (Qv f g 0 0 T0 P) S 12 [(0, .ref (gad g 158)), (1, .int v1)] []
set_option maxHeartbeats 4000000 in
set_option maxRecDepth 100000 in
theorem run_X11_clear_12 {f : Fx} {g : Gx} {T0 : List (Nat × Nat × Nat)} {S : St}  {P : St → Prop} (C : Cx f g cX11_clear 2 RX11) (hrt : (fmeth f).sig.returnType = none)  {v1 : Int32} (h : st_X11_clear_12  P (at_X11_clear_12 f g T0  P) S v1) : at_X11_clear_12 f g T0  P S v1 := by
  intro hT 
  unfold st_X11_clear_12 at h
  refine ww_iload_n C dX11_clear_12 1 rfl ?_
  refine ww_bipush (v := 7) C dX11_clear_13 (by decide) ?_
  refine ww_icmp_ge (tgt := 31) C dX11_clear_15 (by decide) (fun q6 => ?_) (fun q6 => ?_)
  · replace h := h.1 q6
    exact ww_vret C hrt dX11_clear_31 hT h
  · replace h := h.2 q6
    refine ww_aload_n C dX11_clear_18 0 rfl ?_
    refine gf_Model_rowSize C bw_932 dX11_clear_19 ?_
    refine ww_iload_n C dX11_clear_22 1 rfl ?_
    refine ww_iconst (v := 0) C dX11_clear_23 (by decide) ?_
    refine is_m (a := 7) C (by decide) (by decide) h.1 dX11_clear_24 ?_
    replace h := h.2
    refine ww_nm (fun S7 e_S7 => ?_)
    replace h := h S7 e_S7
    have hT_S7 : S7.2.2.1 = T0 := by rw [e_S7]; exact hT
    obtain ⟨x8, e_x8⟩ : ∃ z : Int32, z = v1 + 1 := ⟨_, rfl⟩
    replace h := h x8 e_x8
    refine ww_iinc (v := x8) (lv2 := [(1, .int x8), (0, .ref (gad g 158))]) C dX11_clear_25 1 rfl (by rw [e_x8]; rfl) (Nat.le_of_ble_eq_true rfl) rfl ?_
    refine ww_goto (tgt := 12) C dX11_clear_28 (by decide) ?_
    exact ww_sub [1, 0] rfl (h hT_S7)
def wp_X11_clear (S : St)  (P : St → Prop) : Prop :=
  ∀ (X12 : St → Int32 → Prop), (∀ S v1, st_X11_clear_12  P X12 S v1 → X12 S v1) → ∀ S9 : St, S9 = stM S 9 0 0 → ∀ S10 : St, S10 = stM S9 9 1 0 → X12 S10 0
set_option maxHeartbeats 4000000 in
set_option maxRecDepth 100000 in
theorem run_X11_clear {l : Launch} {g : Gx} {S : St}  {P : St → Prop}  (h : rowsLe S → wp_X11_clear S  P) : CMv g l yX11_clear cX11_clear 2 none rm_X11_clear [.ref (gad g 158)] S P := cm_entry (own := RX11) (plainFor_of_name (by decide)) rfl (Nat.le_of_ble_eq_true rfl) rfl (fun hle f hf C hrt => by
  subst hf
  replace h := h hle
  obtain ⟨T0, hT⟩ : ∃ T, S.2.2.1 = T := ⟨_, rfl⟩
  rw [hT]
  replace h := h (at_X11_clear_12 f g T0  P) (fun S v1 h => run_X11_clear_12 C hrt  h)
  refine ww_aload_n C dX11_clear_0 0 rfl ?_
  refine ww_iconst (v := 0) C dX11_clear_1 (by decide) ?_
  refine pf_Model_thrown C bw_923 dX11_clear_2 ?_
  refine ww_nm (fun S9 e_S9 => ?_)
  replace h := h S9 e_S9
  have hT_S9 : S9.2.2.1 = T0 := by rw [e_S9]; exact hT
  refine ww_aload_n C dX11_clear_5 0 rfl ?_
  refine ww_iconst (v := 0) C dX11_clear_6 (by decide) ?_
  refine pf_Model_glyphs C bw_924 dX11_clear_7 ?_
  refine ww_nm (fun S10 e_S10 => ?_)
  replace h := h S10 e_S10
  have hT_S10 : S10.2.2.1 = T0 := by rw [e_S10]; exact hT_S9
  refine ww_iconst (v := 0) C dX11_clear_10 (by decide) ?_
  refine ww_istore_n (lv2 := [(1, .int 0), (0, .ref (gad g 158))]) C dX11_clear_11 rfl (Nat.le_of_ble_eq_true rfl) rfl ?_
  exact ww_sub [1, 0] rfl (h hT_S10))
abbrev rm_X11_has : Room := { frames := 0, cells := 0, slots := 0, locals := 0 }
theorem ok_X11_has : MOK yX11_has RX11 cX11_has 2 (some .boolean) 1 := ⟨bw_1091, bw_20, bw_69, bw_1092, by decide +kernel⟩
def wp_X11_has_34 (t : Int32) (S : St) (s0 : Int32) (P : Int32 → St → Prop) : Prop :=
  ((s0 = 0 ∨ s0 = 1) ∧ P s0 S)
set_option maxHeartbeats 4000000 in
set_option maxRecDepth 100000 in
theorem run_X11_has_34 {f : Fx} {g : Gx} {T0 : List (Nat × Nat × Nat)} {S : St} {t : Int32} {P : Int32 → St → Prop} (C : Cx f g cX11_has 2 RX11) (hrt : (fmeth f).sig.returnType = (some .boolean))  {s0 : Int32} (hT : S.2.2.1 = T0)  (h : wp_X11_has_34 t S s0 P) : WW f rm_X11_has g 2 0 0 (Qi f g 0 0 T0 P) S 34 [] [.int s0] := by
  unfold wp_X11_has_34 at h
  exact ww_zret C hrt dX11_has_34 hT h.1 h.2
def wp_X11_has (S : St) (t : Int32) (P : Int32 → St → Prop) : Prop :=
  ((2 ≤ t → (vp_in t (gw_ml 7) ∧ (((S.2.1 17 t.toNatClampNeg) ≤ 0 → wp_X11_has_34 t S 0 P) ∧ (¬ (S.2.1 17 t.toNatClampNeg) ≤ 0 → wp_X11_has_34 t S 1 P)))) ∧ (¬ 2 ≤ t → (((S.2.1 9 1) ≤ 0 → wp_X11_has_34 t S 0 P) ∧ (¬ (S.2.1 9 1) ≤ 0 → wp_X11_has_34 t S 1 P))))
set_option maxHeartbeats 4000000 in
set_option maxRecDepth 100000 in
theorem run_X11_has {l : Launch} {g : Gx} {S : St} {t : Int32} {P : Int32 → St → Prop}  (h : rowsLe S → wp_X11_has S t P) : CMi g l yX11_has cX11_has 2 (some .boolean) rm_X11_has [.ref (gad g 158), .int t] S P := cm_entry (own := RX11) (plainFor_of_name (by decide)) rfl (Nat.le_of_ble_eq_true rfl) rfl (fun hle f hf C hrt => by
  subst hf
  replace h := h hle
  obtain ⟨T0, hT⟩ : ∃ T, S.2.2.1 = T := ⟨_, rfl⟩
  rw [hT]
  unfold wp_X11_has at h
  refine ww_iload_n C dX11_has_0 1 rfl ?_
  refine ww_iconst (v := 2) C dX11_has_1 (by decide) ?_
  refine ww_icmp_ge (tgt := 20) C dX11_has_2 (by decide) (fun q4 => ?_) (fun q4 => ?_)
  · replace h := h.1 q4
    refine ww_aload_n C dX11_has_20 0 rfl ?_
    refine gf_Model_rowSize C bw_932 dX11_has_21 ?_
    refine ww_iload_n C dX11_has_24 1 rfl ?_
    refine ia_m (a := 7) C (by decide) (by decide) h.1 dX11_has_25 ?_
    replace h := h.2
    refine ww_if_le (tgt := 33) C dX11_has_26 (by decide) (fun q5 => ?_) (fun q5 => ?_)
    · replace h := h.1 q5
      refine ww_iconst (v := 0) C dX11_has_33 (by decide) ?_
      exact ww_sub [] rfl (run_X11_has_34 C hrt  hT  h)
    · replace h := h.2 q5
      refine ww_iconst (v := 1) C dX11_has_29 (by decide) ?_
      refine ww_goto (tgt := 34) C dX11_has_30 (by decide) ?_
      exact ww_sub [] rfl (run_X11_has_34 C hrt  hT  h)
  · replace h := h.2 q4
    refine ww_aload_n C dX11_has_5 0 rfl ?_
    refine gf_Model_glyphs C bw_924 dX11_has_6 ?_
    refine ww_if_le (tgt := 16) C dX11_has_9 (by decide) (fun q6 => ?_) (fun q6 => ?_)
    · replace h := h.1 q6
      refine ww_iconst (v := 0) C dX11_has_16 (by decide) ?_
      refine ww_goto (tgt := 34) C dX11_has_17 (by decide) ?_
      exact ww_sub [] rfl (run_X11_has_34 C hrt  hT  h)
    · replace h := h.2 q6
      refine ww_iconst (v := 1) C dX11_has_12 (by decide) ?_
      refine ww_goto (tgt := 34) C dX11_has_13 (by decide) ?_
      exact ww_sub [] rfl (run_X11_has_34 C hrt  hT  h))
abbrev rm_X11_tables : Room := { frames := 1, cells := 0, slots := 0, locals := 21 }
theorem ok_X11_tables : MOK yX11_tables RX11 cX11_tables 3 (some .int) 0 := ⟨bw_1087, bw_19, bw_69, bw_1088, by decide +kernel⟩
def st_X11_tables_4  (P : Int32 → St → Prop) (X4 : St → Int32 → Int32 → Prop) (X25 : St → Int32 → Int32 → Prop) (S : St) (v1 : Int32) (v2 : Int32) : Prop :=
  ((7 ≤ v2 → P v1 S) ∧ (¬ 7 ≤ v2 → wp_X11_has S v2 (fun r8 S7 => ((r8 = 0 → X25 S7 v2 v1) ∧ (¬ r8 = 0 → X25 S7 v2 (v1 + 1))))))
def st_X11_tables_25  (P : Int32 → St → Prop) (X4 : St → Int32 → Int32 → Prop) (X25 : St → Int32 → Int32 → Prop) (S : St) (v2 : Int32) (s0 : Int32) : Prop :=
  ∀ x10 : Int32, x10 = v2 + 1 → X4 S s0 x10
def at_X11_tables_4 (f : Fx) (g : Gx) (T0 : List (Nat × Nat × Nat))  (P : Int32 → St → Prop) (S : St) (v1 : Int32) (v2 : Int32) : Prop := S.2.2.1 = T0 → WW f rm_X11_tables g 3 0 0 (Qi f g 0 0 T0 P) S 4 [(0, .ref (gad g 158)), (1, .int v1), (2, .int v2)] []
def at_X11_tables_25 (f : Fx) (g : Gx) (T0 : List (Nat × Nat × Nat))  (P : Int32 → St → Prop) (S : St) (v2 : Int32) (s0 : Int32) : Prop := S.2.2.1 = T0 → WW f rm_X11_tables g 3 0 0 (Qi f g 0 0 T0 P) S 25 [(0, .ref (gad g 158)), (2, .int v2)] [.int s0]
set_option maxHeartbeats 4000000 in
set_option maxRecDepth 100000 in
theorem run_X11_tables_4 {f : Fx} {g : Gx} {T0 : List (Nat × Nat × Nat)} {S : St}  {P : Int32 → St → Prop} (C : Cx f g cX11_tables 3 RX11) (hrt : (fmeth f).sig.returnType = (some .int))  {v1 : Int32} {v2 : Int32} (h : st_X11_tables_4  P (at_X11_tables_4 f g T0  P) (at_X11_tables_25 f g T0  P) S v1 v2) : at_X11_tables_4 f g T0  P S v1 v2 := by
  intro hT 
  unfold st_X11_tables_4 at h
  refine ww_iload_n C dX11_tables_4 2 rfl ?_
  refine ww_bipush (v := 7) C dX11_tables_5 (by decide) ?_
  refine ww_icmp_ge (tgt := 32) C dX11_tables_7 (by decide) (fun q6 => ?_) (fun q6 => ?_)
  · replace h := h.1 q6
    refine ww_iload_n C dX11_tables_32 1 rfl ?_
    exact ww_iret C hrt dX11_tables_33 hT h
  · replace h := h.2 q6
    refine ww_aload_n C dX11_tables_10 0 rfl ?_
    refine ww_iload_n C dX11_tables_11 2 rfl ?_
    refine ww_cVi (As := [.int v2]) (rest := []) C ok_X11_has bw_1089 dX11_tables_12 (run_X11_has  (fun _ => h)) rc_Model rfl ⟨Nat.le_of_ble_eq_true rfl, Nat.le_of_ble_eq_true rfl⟩ (Nat.le_of_ble_eq_true rfl) (c2 := 0) (s2 := 0) rfl rfl ⟨Nat.le_of_ble_eq_true rfl, Nat.le_of_ble_eq_true rfl⟩ rfl (fun r8 S7 hp hTg => ?_)
    replace h := hp
    have hT_S7 : S7.2.2.1 = T0 := by rw [hTg]; exact hT
    refine ww_if_eq (tgt := 24) C dX11_tables_15 (by decide) (fun q9 => ?_) (fun q9 => ?_)
    · replace h := h.1 q9
      refine ww_iload_n C dX11_tables_24 1 rfl ?_
      exact ww_sub [0, 2] rfl (h hT_S7)
    · replace h := h.2 q9
      refine ww_iload_n C dX11_tables_18 1 rfl ?_
      refine ww_iconst (v := 1) C dX11_tables_19 (by decide) ?_
      refine ww_iadd C dX11_tables_20 ?_
      refine ww_goto (tgt := 25) C dX11_tables_21 (by decide) ?_
      exact ww_sub [0, 2] rfl (h hT_S7)
set_option maxHeartbeats 4000000 in
set_option maxRecDepth 100000 in
theorem run_X11_tables_25 {f : Fx} {g : Gx} {T0 : List (Nat × Nat × Nat)} {S : St}  {P : Int32 → St → Prop} (C : Cx f g cX11_tables 3 RX11) (hrt : (fmeth f).sig.returnType = (some .int))  {v2 : Int32} {s0 : Int32} (h : st_X11_tables_25  P (at_X11_tables_4 f g T0  P) (at_X11_tables_25 f g T0  P) S v2 s0) : at_X11_tables_25 f g T0  P S v2 s0 := by
  intro hT 
  unfold st_X11_tables_25 at h
  refine ww_istore_n (lv2 := [(1, .int s0), (0, .ref (gad g 158)), (2, .int v2)]) C dX11_tables_25 rfl (Nat.le_of_ble_eq_true rfl) rfl ?_
  obtain ⟨x10, e_x10⟩ : ∃ z : Int32, z = v2 + 1 := ⟨_, rfl⟩
  replace h := h x10 e_x10
  refine ww_iinc (v := x10) (lv2 := [(2, .int x10), (1, .int s0), (0, .ref (gad g 158))]) C dX11_tables_26 2 rfl (by rw [e_x10]; rfl) (Nat.le_of_ble_eq_true rfl) rfl ?_
  refine ww_goto (tgt := 4) C dX11_tables_29 (by decide) ?_
  exact ww_sub [2, 1, 0] rfl (h hT)
def wp_X11_tables (S : St)  (P : Int32 → St → Prop) : Prop :=
  ∀ (X4 : St → Int32 → Int32 → Prop) (X25 : St → Int32 → Int32 → Prop), (∀ S v1 v2, st_X11_tables_4  P X4 X25 S v1 v2 → X4 S v1 v2) → (∀ S v2 s0, st_X11_tables_25  P X4 X25 S v2 s0 → X25 S v2 s0) → X4 S 0 0
set_option maxHeartbeats 4000000 in
set_option maxRecDepth 100000 in
theorem run_X11_tables {l : Launch} {g : Gx} {S : St}  {P : Int32 → St → Prop}  (h : rowsLe S → wp_X11_tables S  P) : CMi g l yX11_tables cX11_tables 3 (some .int) rm_X11_tables [.ref (gad g 158)] S P := cm_entry (own := RX11) (plainFor_of_name (by decide)) rfl (Nat.le_of_ble_eq_true rfl) rfl (fun hle f hf C hrt => by
  subst hf
  replace h := h hle
  obtain ⟨T0, hT⟩ : ∃ T, S.2.2.1 = T := ⟨_, rfl⟩
  rw [hT]
  replace h := h (at_X11_tables_4 f g T0  P) (at_X11_tables_25 f g T0  P) (fun S v1 v2 h => run_X11_tables_4 C hrt  h) (fun S v2 s0 h => run_X11_tables_25 C hrt  h)
  refine ww_iconst (v := 0) C dX11_tables_0 (by decide) ?_
  refine ww_istore_n (lv2 := [(1, .int 0), (0, .ref (gad g 158))]) C dX11_tables_1 rfl (Nat.le_of_ble_eq_true rfl) rfl ?_
  refine ww_iconst (v := 0) C dX11_tables_2 (by decide) ?_
  refine ww_istore_n (lv2 := [(2, .int 0), (1, .int 0), (0, .ref (gad g 158))]) C dX11_tables_3 rfl (Nat.le_of_ble_eq_true rfl) rfl ?_
  exact ww_sub [2, 1, 0] rfl (h hT))
