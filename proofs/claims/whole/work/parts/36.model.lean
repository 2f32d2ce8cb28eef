abbrev rm_X11_stage : Room := { frames := 0, cells := 0, slots := 0, locals := 0 }
theorem ok_X11_stage : MOK yX11_stage RX11 cX11_stage 1 (some .int) 0 := ⟨bw_1263, bw_1264, bw_69, bw_1265, by decide +kernel⟩
def wp_X11_stage (S : St)  (P : Int32 → St → Prop) : Prop :=
  ∀ S2 : St, S2 = stM S 9 0 0 → P (S2.2.1 9 14) S2
set_option maxHeartbeats 4000000 in
set_option maxRecDepth 100000 in
theorem run_X11_stage {l : Launch} {g : Gx} {S : St}  {P : Int32 → St → Prop}  (h : rowsLe S → wp_X11_stage S  P) : CMi g l yX11_stage cX11_stage 1 (some .int) rm_X11_stage [.ref (gad g 158)] S P := cm_entry (own := RX11) (plainFor_of_name (by decide)) rfl (Nat.le_of_ble_eq_true rfl) rfl (fun hle f hf C hrt => by
  subst hf
  replace h := h hle
  obtain ⟨T0, hT⟩ : ∃ T, S.2.2.1 = T := ⟨_, rfl⟩
  rw [hT]
  unfold wp_X11_stage at h
  refine ww_aload_n C dX11_stage_0 0 rfl ?_
  refine ww_iconst (v := 0) C dX11_stage_1 (by decide) ?_
  refine pf_Model_thrown C bw_923 dX11_stage_2 ?_
  refine ww_nm (fun S2 e_S2 => ?_)
  replace h := h S2 e_S2
  have hT_S2 : S2.2.2.1 = T0 := by rw [e_S2]; exact hT
  refine ww_aload_n C dX11_stage_5 0 rfl ?_
  refine gf_Model_failedStage C bw_959 dX11_stage_6 ?_
  exact ww_iret C hrt dX11_stage_9 hT_S2 h)
def fv_X11_stage (S : St)   : Int32 := ((stM S 9 0 0).2.1 9 14)
def fs_X11_stage (S : St)   : St := ((stM S 9 0 0))
set_option maxHeartbeats 4000000 in
set_option maxRecDepth 100000 in
theorem sp_X11_stage {S : St}   {P : Int32 → St → Prop} (h : P (fv_X11_stage S  ) (fs_X11_stage S  )) : wp_X11_stage S  P := by
  unfold wp_X11_stage
  unfold fv_X11_stage fs_X11_stage at h
  intro S2 e_S2
  subst e_S2
  exact h
theorem cm_X11_stage {l : Launch} {g : Gx} {S : St}   : CMi g l yX11_stage cX11_stage 1 (some .int) rm_X11_stage [.ref (gad g 158)] S (fun v S2 => v = fv_X11_stage S  ∧ S2 = fs_X11_stage S ) := run_X11_stage  (fun _ => sp_X11_stage ⟨rfl, rfl⟩)
abbrev rm_X11_put : Room := { frames := 1, cells := 0, slots := 0, locals := 21 }
theorem ok_X11_put : MOK yX11_put RX11 cX11_put 5 (some .int) 2 := ⟨bw_1267, bw_1268, bw_69, bw_1269, by decide +kernel⟩
def st_X11_put_12 (a : Int64) (n : Int32) (P : Int32 → St → Prop) (X12 : St → Prop) (X33 : St → Int32 → Prop) (X50 : St → Int32 → Prop) (S : St)  : Prop :=
  X33 S 1
def st_X11_put_33 (a : Int64) (n : Int32) (P : Int32 → St → Prop) (X12 : St → Prop) (X33 : St → Int32 → Prop) (X50 : St → Int32 → Prop) (S : St) (s0 : Int32) : Prop :=
  ∀ S11 : St, S11 = stM S 9 0 s0 → (((S11.2.1 9 0) ≤ 0 → ∀ x13 : Int32, x13 = n - 1 → X50 S11 x13) ∧ (¬ (S11.2.1 9 0) ≤ 0 → P 0 S11))
def st_X11_put_50 (a : Int64) (n : Int32) (P : Int32 → St → Prop) (X12 : St → Prop) (X33 : St → Int32 → Prop) (X50 : St → Int32 → Prop) (S : St) (v4 : Int32) : Prop :=
  ((v4 < 0 → P (S.2.1 9 3) S) ∧ (¬ v4 < 0 → wp_X11_add S (((a >>> ((8 * v4).toInt64 &&& 63)) &&& 255).toInt32) (fun S15 => ∀ x17 : Int32, x17 = v4 + (-1) → X50 S15 x17)))
def at_X11_put_12 (f : Fx) (g : Gx) (T0 : List (Nat × Nat × Nat)) (a : Int64) (n : Int32) (P : Int32 → St → Prop) (S : St)  : Prop := S.2.2.1 = T0 → WW f rm_X11_put g 5 0 0 (Qi f g 0 0 T0 P) S 12 [(0, .ref (gad g 158)), (1, .long a), (3, .int n)] [.ref (gad g 158)]
def at_X11_put_33 (f : Fx) (g : Gx) (T0 : List (Nat × Nat × Nat)) (a : Int64) (n : Int32) (P : Int32 → St → Prop) (S : St) (s0 : Int32) : Prop := S.2.2.1 = T0 → WW f rm_X11_put g 5 0 0 (Qi f g 0 0 T0 P) S 33 [(0, .ref (gad g 158)), (1, .long a), (3, .int n)] [.int s0, .ref (gad g 158)]
def at_X11_put_50 (f : Fx) (g : Gx) (T0 : List (Nat × Nat × Nat)) (a : Int64) (n : Int32) (P : Int32 → St → Prop) (S : St) (v4 : Int32) : Prop := S.2.2.1 = T0 → WW f rm_X11_put g 5 0 0 (Qi f g 0 0 T0 P) S 50 [(0, .ref (gad g 158)), (1, .long a), (4, .int v4)] []
set_option maxHeartbeats 4000000 in
set_option maxRecDepth 100000 in
theorem run_X11_put_12 {f : Fx} {g : Gx} {T0 : List (Nat × Nat × Nat)} {S : St} {a : Int64} {n : Int32} {P : Int32 → St → Prop} (C : Cx f g cX11_put 5 RX11) (hrt : (fmeth f).sig.returnType = (some .int))   (h : st_X11_put_12 a n P (at_X11_put_12 f g T0 a n P) (at_X11_put_33 f g T0 a n P) (at_X11_put_50 f g T0 a n P) S ) : at_X11_put_12 f g T0 a n P S  := by
  intro hT 
  unfold st_X11_put_12 at h
  refine ww_iconst (v := 1) C dX11_put_12 (by decide) ?_
  refine ww_goto (tgt := 33) C dX11_put_13 (by decide) ?_
  exact ww_sub [0, 1, 2] rfl (h hT)
set_option maxHeartbeats 4000000 in
set_option maxRecDepth 100000 in
theorem run_X11_put_33 {f : Fx} {g : Gx} {T0 : List (Nat × Nat × Nat)} {S : St} {a : Int64} {n : Int32} {P : Int32 → St → Prop} (C : Cx f g cX11_put 5 RX11) (hrt : (fmeth f).sig.returnType = (some .int))  {s0 : Int32} (h : st_X11_put_33 a n P (at_X11_put_12 f g T0 a n P) (at_X11_put_33 f g T0 a n P) (at_X11_put_50 f g T0 a n P) S s0) : at_X11_put_33 f g T0 a n P S s0 := by
  intro hT 
  unfold st_X11_put_33 at h
  refine pf_Model_thrown C bw_923 dX11_put_33 ?_
  refine ww_nm (fun S11 e_S11 => ?_)
  replace h := h S11 e_S11
  have hT_S11 : S11.2.2.1 = T0 := by rw [e_S11]; exact hT
  refine ww_aload_n C dX11_put_36 0 rfl ?_
  refine gf_Model_thrown C bw_923 dX11_put_37 ?_
  refine ww_if_le (tgt := 45) C dX11_put_40 (by decide) (fun q12 => ?_) (fun q12 => ?_)
  · replace h := h.1 q12
    refine ww_iload_n C dX11_put_45 2 rfl ?_
    refine ww_iconst (v := 1) C dX11_put_46 (by decide) ?_
    refine ww_isub C dX11_put_47 ?_
    refine ww_topi (fun x13 e_x13 => ?_)
    replace h := h x13 e_x13
    refine ww_istore (lv2 := [(4, .int x13), (0, .ref (gad g 158)), (1, .long a), (3, .int n)]) C dX11_put_48 (Nat.le_of_ble_eq_true rfl) rfl ?_
    exact ww_sub [1, 2, 0] rfl (h hT_S11)
  · replace h := h.2 q12
    refine ww_iconst (v := 0) C dX11_put_43 (by decide) ?_
    exact ww_iret C hrt dX11_put_44 hT_S11 h
set_option maxHeartbeats 4000000 in
set_option maxRecDepth 100000 in
theorem run_X11_put_50 {f : Fx} {g : Gx} {T0 : List (Nat × Nat × Nat)} {S : St} {a : Int64} {n : Int32} {P : Int32 → St → Prop} (C : Cx f g cX11_put 5 RX11) (hrt : (fmeth f).sig.returnType = (some .int))  {v4 : Int32} (h : st_X11_put_50 a n P (at_X11_put_12 f g T0 a n P) (at_X11_put_33 f g T0 a n P) (at_X11_put_50 f g T0 a n P) S v4) : at_X11_put_50 f g T0 a n P S v4 := by
  intro hT 
  unfold st_X11_put_50 at h
  refine ww_iload C dX11_put_50 2 rfl ?_
  refine ww_if_lt (tgt := 77) C dX11_put_52 (by decide) (fun q14 => ?_) (fun q14 => ?_)
  · replace h := h.1 q14
    refine ww_aload_n C dX11_put_77 0 rfl ?_
    refine gf_Model_buffered C bw_945 dX11_put_78 ?_
    exact ww_iret C hrt dX11_put_81 hT h
  · replace h := h.2 q14
    refine ww_aload_n C dX11_put_55 0 rfl ?_
    refine ww_lload_n C dX11_put_56 1 rfl ?_
    refine ww_bipush (v := 8) C dX11_put_57 (by decide) ?_
    refine ww_iload C dX11_put_59 2 rfl ?_
    refine ww_imul C dX11_put_61 ?_
    refine ww_lshr C dX11_put_62 ?_
    refine ww_ldc2 (v := 255) C dX11_put_63 bw_1072 ?_
    refine ww_land C dX11_put_66 ?_
    refine ww_l2i C dX11_put_67 ?_
    refine ww_cVv (As := [.int (((a >>> ((8 * v4).toInt64 &&& 63)) &&& 255).toInt32)]) (rest := []) C ok_X11_add bw_1081 dX11_put_68 (run_X11_add  (fun _ => h)) rc_Model rfl ⟨Nat.le_of_ble_eq_true rfl, Nat.le_of_ble_eq_true rfl⟩ (Nat.le_of_ble_eq_true rfl) (c2 := 0) (s2 := 0) rfl rfl ⟨Nat.le_of_ble_eq_true rfl, Nat.le_of_ble_eq_true rfl⟩ rfl (fun S15 hp hTg => ?_)
    replace h := hp
    have hT_S15 : S15.2.2.1 = T0 := by rw [hTg]; exact hT
    obtain ⟨x17, e_x17⟩ : ∃ z : Int32, z = v4 + (-1) := ⟨_, rfl⟩
    replace h := h x17 e_x17
    refine ww_iinc (v := x17) (lv2 := [(4, .int x17), (0, .ref (gad g 158)), (1, .long a)]) C dX11_put_71 2 rfl (by rw [e_x17]; rfl) (Nat.le_of_ble_eq_true rfl) rfl ?_
    refine ww_goto (tgt := 50) C dX11_put_74 (by decide) ?_
    exact ww_sub [1, 2, 0] rfl (h hT_S15)
def wp_X11_put (S : St) (a : Int64) (n : Int32) (P : Int32 → St → Prop) : Prop :=
  ∀ (X12 : St → Prop) (X33 : St → Int32 → Prop) (X50 : St → Int32 → Prop), (∀ S , st_X11_put_12 a n P X12 X33 X50 S  → X12 S ) → (∀ S s0, st_X11_put_33 a n P X12 X33 X50 S s0 → X33 S s0) → (∀ S v4, st_X11_put_50 a n P X12 X33 X50 S v4 → X50 S v4) → ((n < 1 → X12 S) ∧ (¬ n < 1 → ((n ≤ 8 → ((((S.2.1 9 3) + n) ≤ 1500 → X33 S 0) ∧ (¬ ((S.2.1 9 3) + n) ≤ 1500 → X33 S 2))) ∧ (¬ n ≤ 8 → X12 S))))
set_option maxHeartbeats 4000000 in
set_option maxRecDepth 100000 in
theorem run_X11_put {l : Launch} {g : Gx} {S : St} {a : Int64} {n : Int32} {P : Int32 → St → Prop}  (h : rowsLe S → wp_X11_put S a n P) : CMi g l yX11_put cX11_put 5 (some .int) rm_X11_put [.ref (gad g 158), .long a, .int n] S P := cm_entry (own := RX11) (plainFor_of_name (by decide)) rfl (Nat.le_of_ble_eq_true rfl) rfl (fun hle f hf C hrt => by
  subst hf
  replace h := h hle
  obtain ⟨T0, hT⟩ : ∃ T, S.2.2.1 = T := ⟨_, rfl⟩
  rw [hT]
  replace h := h (at_X11_put_12 f g T0 a n P) (at_X11_put_33 f g T0 a n P) (at_X11_put_50 f g T0 a n P) (fun S  h => run_X11_put_12 C hrt  h) (fun S s0 h => run_X11_put_33 C hrt  h) (fun S v4 h => run_X11_put_50 C hrt  h)
  refine ww_aload_n C dX11_put_0 0 rfl ?_
  refine ww_iload_n C dX11_put_1 2 rfl ?_
  refine ww_iconst (v := 1) C dX11_put_2 (by decide) ?_
  refine ww_icmp_lt (tgt := 12) C dX11_put_3 (by decide) (fun q18 => ?_) (fun q18 => ?_)
  · replace h := h.1 q18
    exact ww_sub [0, 1, 2] rfl (h hT)
  · replace h := h.2 q18
    refine ww_iload_n C dX11_put_6 2 rfl ?_
    refine ww_bipush (v := 8) C dX11_put_7 (by decide) ?_
    refine ww_icmp_le (tgt := 16) C dX11_put_9 (by decide) (fun q19 => ?_) (fun q19 => ?_)
    · replace h := h.1 q19
      refine ww_aload_n C dX11_put_16 0 rfl ?_
      refine gf_Model_buffered C bw_945 dX11_put_17 ?_
      refine ww_iload_n C dX11_put_20 2 rfl ?_
      refine ww_iadd C dX11_put_21 ?_
      refine ww_sipush (v := 1500) C dX11_put_22 (by decide) ?_
      refine ww_icmp_le (tgt := 32) C dX11_put_25 (by decide) (fun q20 => ?_) (fun q20 => ?_)
      · replace h := h.1 q20
        refine ww_iconst (v := 0) C dX11_put_32 (by decide) ?_
        exact ww_sub [0, 1, 2] rfl (h hT)
      · replace h := h.2 q20
        refine ww_iconst (v := 2) C dX11_put_28 (by decide) ?_
        refine ww_goto (tgt := 33) C dX11_put_29 (by decide) ?_
        exact ww_sub [0, 1, 2] rfl (h hT)
    · replace h := h.2 q19
      exact ww_sub [0, 1, 2] rfl (h hT))
abbrev rm_X11_set : Room := { frames := 1, cells := 0, slots := 0, locals := 21 }
theorem ok_X11_set : MOK yX11_set RX11 cX11_set 3 none 2 := ⟨bw_1271, bw_1272, bw_69, bw_1273, by decide +kernel⟩
def wp_X11_set_48 (k : Int32) (b : Int32) (S : St)  (P : St → Prop) : Prop :=
  P S
set_option maxHeartbeats 4000000 in
set_option maxRecDepth 100000 in
theorem run_X11_set_48 {f : Fx} {g : Gx} {T0 : List (Nat × Nat × Nat)} {S : St} {k : Int32} {b : Int32} {P : St → Prop} (C : Cx f g cX11_set 3 RX11) (hrt : (fmeth f).sig.returnType = none)   (hT : S.2.2.1 = T0)  (h : wp_X11_set_48 k b S  P) : WW f rm_X11_set g 3 0 0 (Qv f g 0 0 T0 P) S 48 [] [] := by
  unfold wp_X11_set_48 at h
  exact ww_vret C hrt dX11_set_48 hT h
def wp_X11_set_31 (k : Int32) (b : Int32) (S : St) (s0 : Int32) (P : St → Prop) : Prop :=
  ∀ S10 : St, S10 = stM S 9 0 s0 → ((¬ (S10.2.1 9 0) = 0 → wp_X11_set_48 k b S10  P) ∧ ((S10.2.1 9 0) = 0 → (vp_in k (gw_ml 19) ∧ ∀ S12 : St, S12 = stM S10 29 k.toNatClampNeg b → wp_X11_set_48 k b S12  P)))
set_option maxHeartbeats 4000000 in
set_option maxRecDepth 100000 in
theorem run_X11_set_31 {f : Fx} {g : Gx} {T0 : List (Nat × Nat × Nat)} {S : St} {k : Int32} {b : Int32} {P : St → Prop} (C : Cx f g cX11_set 3 RX11) (hrt : (fmeth f).sig.returnType = none)  {s0 : Int32} (hT : S.2.2.1 = T0)  (h : wp_X11_set_31 k b S s0 P) : WW f rm_X11_set g 3 0 0 (Qv f g 0 0 T0 P) S 31 [(0, .ref (gad g 158)), (1, .int k), (2, .int b)] [.int s0, .ref (gad g 158)] := by
  unfold wp_X11_set_31 at h
  refine pf_Model_thrown C bw_923 dX11_set_31 ?_
  refine ww_nm (fun S10 e_S10 => ?_)
  replace h := h S10 e_S10
  have hT_S10 : S10.2.2.1 = T0 := by rw [e_S10]; exact hT
  refine ww_aload_n C dX11_set_34 0 rfl ?_
  refine gf_Model_thrown C bw_923 dX11_set_35 ?_
  refine ww_if_ne (tgt := 48) C dX11_set_38 (by decide) (fun q11 => ?_) (fun q11 => ?_)
  · replace h := h.1 q11
    exact ww_sub [] rfl (run_X11_set_48 C hrt  hT_S10  h)
  · replace h := h.2 q11
    refine ww_aload_n C dX11_set_41 0 rfl ?_
    refine gf_Model_buffer C bw_946 dX11_set_42 ?_
    refine ww_iload_n C dX11_set_45 1 rfl ?_
    refine ww_iload_n C dX11_set_46 2 rfl ?_
    refine is_m (a := 19) C (by decide) (by decide) h.1 dX11_set_47 ?_
    replace h := h.2
    refine ww_nm (fun S12 e_S12 => ?_)
    replace h := h S12 e_S12
    have hT_S12 : S12.2.2.1 = T0 := by rw [e_S12]; exact hT_S10
    exact ww_sub [] rfl (run_X11_set_48 C hrt  hT_S12  h)
def wp_X11_set (S : St) (k : Int32) (b : Int32) (P : St → Prop) : Prop :=
  wp_X11_out S k (S.2.1 9 3) (fun r14 S13 => ((r14 = 0 → wp_X11_out S13 b 256 (fun r17 S16 => ((r17 = 0 → wp_X11_set_31 k b S16 0 P) ∧ (¬ r17 = 0 → wp_X11_set_31 k b S16 2 P)))) ∧ (¬ r14 = 0 → wp_X11_set_31 k b S13 1 P)))
set_option maxHeartbeats 4000000 in
set_option maxRecDepth 100000 in
theorem run_X11_set {l : Launch} {g : Gx} {S : St} {k : Int32} {b : Int32} {P : St → Prop}  (h : rowsLe S → wp_X11_set S k b P) : CMv g l yX11_set cX11_set 3 none rm_X11_set [.ref (gad g 158), .int k, .int b] S P := cm_entry (own := RX11) (plainFor_of_name (by decide)) rfl (Nat.le_of_ble_eq_true rfl) rfl (fun hle f hf C hrt => by
  subst hf
  replace h := h hle
  obtain ⟨T0, hT⟩ : ∃ T, S.2.2.1 = T := ⟨_, rfl⟩
  rw [hT]
  unfold wp_X11_set at h
  refine ww_aload_n C dX11_set_0 0 rfl ?_
  refine ww_iload_n C dX11_set_1 1 rfl ?_
  refine ww_aload_n C dX11_set_2 0 rfl ?_
  refine gf_Model_buffered C bw_945 dX11_set_3 ?_
  refine ww_cSi (As := [.int k, .int (S.2.1 9 3)]) (rest := [.ref (gad g 158)]) C ok_X11_out bw_1050 dX11_set_6 (run_X11_out  (fun _ => h)) rfl ⟨Nat.le_of_ble_eq_true rfl, Nat.le_of_ble_eq_true rfl⟩ (Nat.le_of_ble_eq_true rfl) (c2 := 0) (s2 := 0) rfl rfl ⟨Nat.le_of_ble_eq_true rfl, Nat.le_of_ble_eq_true rfl⟩ rfl (fun r14 S13 hp hTg => ?_)
  replace h := hp
  have hT_S13 : S13.2.2.1 = T0 := by rw [hTg]; exact hT
  refine ww_if_eq (tgt := 16) C dX11_set_9 (by decide) (fun q15 => ?_) (fun q15 => ?_)
  · replace h := h.1 q15
    refine ww_iload_n C dX11_set_16 2 rfl ?_
    refine ww_sipush (v := 256) C dX11_set_17 (by decide) ?_
    refine ww_cSi (As := [.int b, .int 256]) (rest := [.ref (gad g 158)]) C ok_X11_out bw_1050 dX11_set_20 (run_X11_out  (fun _ => h)) rfl ⟨Nat.le_of_ble_eq_true rfl, Nat.le_of_ble_eq_true rfl⟩ (Nat.le_of_ble_eq_true rfl) (c2 := 0) (s2 := 0) rfl rfl ⟨Nat.le_of_ble_eq_true rfl, Nat.le_of_ble_eq_true rfl⟩ rfl (fun r17 S16 hp hTg => ?_)
    replace h := hp
    have hT_S16 : S16.2.2.1 = T0 := by rw [hTg]; exact hT_S13
    refine ww_if_eq (tgt := 30) C dX11_set_23 (by decide) (fun q18 => ?_) (fun q18 => ?_)
    · replace h := h.1 q18
      refine ww_iconst (v := 0) C dX11_set_30 (by decide) ?_
      exact ww_sub [0, 1, 2] rfl (run_X11_set_31 C hrt  hT_S16  h)
    · replace h := h.2 q18
      refine ww_iconst (v := 2) C dX11_set_26 (by decide) ?_
      refine ww_goto (tgt := 31) C dX11_set_27 (by decide) ?_
      exact ww_sub [0, 1, 2] rfl (run_X11_set_31 C hrt  hT_S16  h)
  · replace h := h.2 q15
    refine ww_iconst (v := 1) C dX11_set_12 (by decide) ?_
    refine ww_goto (tgt := 31) C dX11_set_13 (by decide) ?_
    exact ww_sub [0, 1, 2] rfl (run_X11_set_31 C hrt  hT_S13  h))
abbrev rm_X11_cut : Room := { frames := 0, cells := 0, slots := 0, locals := 0 }
theorem ok_X11_cut : MOK yX11_cut RX11 cX11_cut 2 none 1 := ⟨bw_1275, bw_1276, bw_69, bw_1277, by decide +kernel⟩
def wp_X11_cut_33 (n : Int32) (S : St)  (P : St → Prop) : Prop :=
  P S
set_option maxHeartbeats 4000000 in
set_option maxRecDepth 100000 in
theorem run_X11_cut_33 {f : Fx} {g : Gx} {T0 : List (Nat × Nat × Nat)} {S : St} {n : Int32} {P : St → Prop} (C : Cx f g cX11_cut 2 RX11) (hrt : (fmeth f).sig.returnType = none)   (hT : S.2.2.1 = T0)  (h : wp_X11_cut_33 n S  P) : WW f rm_X11_cut g 2 0 0 (Qv f g 0 0 T0 P) S 33 [] [] := by
  unfold wp_X11_cut_33 at h
  exact ww_vret C hrt dX11_cut_33 hT h
def wp_X11_cut_18 (n : Int32) (S : St) (s0 : Int32) (P : St → Prop) : Prop :=
  ∀ S6 : St, S6 = stM S 9 0 s0 → ((¬ (S6.2.1 9 0) = 0 → wp_X11_cut_33 n S6  P) ∧ ((S6.2.1 9 0) = 0 → ∀ S8 : St, S8 = stM S6 9 3 n → wp_X11_cut_33 n S8  P))
set_option maxHeartbeats 4000000 in
set_option maxRecDepth 100000 in
theorem run_X11_cut_18 {f : Fx} {g : Gx} {T0 : List (Nat × Nat × Nat)} {S : St} {n : Int32} {P : St → Prop} (C : Cx f g cX11_cut 2 RX11) (hrt : (fmeth f).sig.returnType = none)  {s0 : Int32} (hT : S.2.2.1 = T0)  (h : wp_X11_cut_18 n S s0 P) : WW f rm_X11_cut g 2 0 0 (Qv f g 0 0 T0 P) S 18 [(0, .ref (gad g 158)), (1, .int n)] [.int s0, .ref (gad g 158)] := by
  unfold wp_X11_cut_18 at h
  refine pf_Model_thrown C bw_923 dX11_cut_18 ?_
  refine ww_nm (fun S6 e_S6 => ?_)
  replace h := h S6 e_S6
  have hT_S6 : S6.2.2.1 = T0 := by rw [e_S6]; exact hT
  refine ww_aload_n C dX11_cut_21 0 rfl ?_
  refine gf_Model_thrown C bw_923 dX11_cut_22 ?_
  refine ww_if_ne (tgt := 33) C dX11_cut_25 (by decide) (fun q7 => ?_) (fun q7 => ?_)
  · replace h := h.1 q7
    exact ww_sub [] rfl (run_X11_cut_33 C hrt  hT_S6  h)
  · replace h := h.2 q7
    refine ww_aload_n C dX11_cut_28 0 rfl ?_
    refine ww_iload_n C dX11_cut_29 1 rfl ?_
    refine pf_Model_buffered C bw_945 dX11_cut_30 ?_
    refine ww_nm (fun S8 e_S8 => ?_)
    replace h := h S8 e_S8
    have hT_S8 : S8.2.2.1 = T0 := by rw [e_S8]; exact hT_S6
    exact ww_sub [] rfl (run_X11_cut_33 C hrt  hT_S8  h)
def wp_X11_cut_13 (n : Int32) (S : St)  (P : St → Prop) : Prop :=
  wp_X11_cut_18 n S 1 P
set_option maxHeartbeats 4000000 in
set_option maxRecDepth 100000 in
theorem run_X11_cut_13 {f : Fx} {g : Gx} {T0 : List (Nat × Nat × Nat)} {S : St} {n : Int32} {P : St → Prop} (C : Cx f g cX11_cut 2 RX11) (hrt : (fmeth f).sig.returnType = none)   (hT : S.2.2.1 = T0)  (h : wp_X11_cut_13 n S  P) : WW f rm_X11_cut g 2 0 0 (Qv f g 0 0 T0 P) S 13 [(0, .ref (gad g 158)), (1, .int n)] [.ref (gad g 158)] := by
  unfold wp_X11_cut_13 at h
  refine ww_iconst (v := 1) C dX11_cut_13 (by decide) ?_
  refine ww_goto (tgt := 18) C dX11_cut_14 (by decide) ?_
  exact ww_sub [0, 1] rfl (run_X11_cut_18 C hrt  hT  h)
def wp_X11_cut (S : St) (n : Int32) (P : St → Prop) : Prop :=
  ((n < 0 → wp_X11_cut_13 n S  P) ∧ (¬ n < 0 → ((n ≤ (S.2.1 9 3) → wp_X11_cut_18 n S 0 P) ∧ (¬ n ≤ (S.2.1 9 3) → wp_X11_cut_13 n S  P))))
set_option maxHeartbeats 4000000 in
set_option maxRecDepth 100000 in
theorem run_X11_cut {l : Launch} {g : Gx} {S : St} {n : Int32} {P : St → Prop}  (h : rowsLe S → wp_X11_cut S n P) : CMv g l yX11_cut cX11_cut 2 none rm_X11_cut [.ref (gad g 158), .int n] S P := cm_entry (own := RX11) (plainFor_of_name (by decide)) rfl (Nat.le_of_ble_eq_true rfl) rfl (fun hle f hf C hrt => by
  subst hf
  replace h := h hle
  obtain ⟨T0, hT⟩ : ∃ T, S.2.2.1 = T := ⟨_, rfl⟩
  rw [hT]
  unfold wp_X11_cut at h
  refine ww_aload_n C dX11_cut_0 0 rfl ?_
  refine ww_iload_n C dX11_cut_1 1 rfl ?_
  refine ww_if_lt (tgt := 13) C dX11_cut_2 (by decide) (fun q9 => ?_) (fun q9 => ?_)
  · replace h := h.1 q9
    exact ww_sub [0, 1] rfl (run_X11_cut_13 C hrt  hT  h)
  · replace h := h.2 q9
    refine ww_iload_n C dX11_cut_5 1 rfl ?_
    refine ww_aload_n C dX11_cut_6 0 rfl ?_
    refine gf_Model_buffered C bw_945 dX11_cut_7 ?_
    refine ww_icmp_le (tgt := 17) C dX11_cut_10 (by decide) (fun q10 => ?_) (fun q10 => ?_)
    · replace h := h.1 q10
      refine ww_iconst (v := 0) C dX11_cut_17 (by decide) ?_
      exact ww_sub [0, 1] rfl (run_X11_cut_18 C hrt  hT  h)
    · replace h := h.2 q10
      exact ww_sub [0, 1] rfl (run_X11_cut_13 C hrt  hT  h))
def fs_X11_cut_33 (S : St) (n : Int32)  : St := S
set_option maxHeartbeats 4000000 in
set_option maxRecDepth 100000 in
theorem sp_X11_cut_33 {S : St} {n : Int32}  {P : St → Prop} (h : P  (fs_X11_cut_33 S n )) : wp_X11_cut_33 n S  P := by
  unfold wp_X11_cut_33
  unfold fs_X11_cut_33 at h
  exact h
def fs_X11_cut_18 (S : St) (n : Int32) (s0 : Int32) : St := (if ((stM S 9 0 s0).2.1 9 0) = 0 then (fs_X11_cut_33 ((stM (stM S 9 0 s0) 9 3 n)) n) else (fs_X11_cut_33 ((stM S 9 0 s0)) n))
set_option maxHeartbeats 4000000 in
set_option maxRecDepth 100000 in
theorem sp_X11_cut_18 {S : St} {n : Int32} {s0 : Int32} {P : St → Prop} (h : P  (fs_X11_cut_18 S n s0)) : wp_X11_cut_18 n S s0 P := by
  unfold wp_X11_cut_18
  unfold fs_X11_cut_18 at h
  intro S6 e_S6
  subst e_S6
  refine ⟨fun q7 => ?_, fun q7 => ?_⟩
  · simp only [if_neg q7] at h
    exact sp_X11_cut_33 h
  · simp only [if_pos q7] at h
    intro S8 e_S8
    subst e_S8
    exact sp_X11_cut_33 h
def fs_X11_cut_13 (S : St) (n : Int32)  : St := (fs_X11_cut_18 S n 1)
set_option maxHeartbeats 4000000 in
set_option maxRecDepth 100000 in
theorem sp_X11_cut_13 {S : St} {n : Int32}  {P : St → Prop} (h : P  (fs_X11_cut_13 S n )) : wp_X11_cut_13 n S  P := by
  unfold wp_X11_cut_13
  unfold fs_X11_cut_13 at h
  exact sp_X11_cut_18 h
def fs_X11_cut (S : St) (n : Int32)  : St := (if n < 0 then (fs_X11_cut_13 S n) else (if n ≤ (S.2.1 9 3) then (fs_X11_cut_18 S n 0) else (fs_X11_cut_13 S n)))
set_option maxHeartbeats 4000000 in
set_option maxRecDepth 100000 in
theorem sp_X11_cut {S : St} {n : Int32}  {P : St → Prop} (h : P  (fs_X11_cut S n )) : wp_X11_cut S n P := by
  unfold wp_X11_cut
  unfold fs_X11_cut at h
  refine ⟨fun q9 => ?_, fun q9 => ?_⟩
  · simp only [if_pos q9] at h
    exact sp_X11_cut_13 h
  · simp only [if_neg q9] at h
    refine ⟨fun q10 => ?_, fun q10 => ?_⟩
    · simp only [if_pos q10] at h
      exact sp_X11_cut_18 h
    · simp only [if_neg q10] at h
      exact sp_X11_cut_13 h
theorem cm_X11_cut {l : Launch} {g : Gx} {S : St} {n : Int32}  : CMv g l yX11_cut cX11_cut 2 none rm_X11_cut [.ref (gad g 158), .int n] S (fun S2 => S2 = fs_X11_cut S n) := run_X11_cut  (fun _ => sp_X11_cut rfl)
abbrev rm_X11_at : Room := { frames := 0, cells := 0, slots := 0, locals := 0 }
theorem ok_X11_at : MOK yX11_at RX11 cX11_at 2 (some .int) 1 := ⟨bw_1279, bw_1280, bw_69, bw_1281, by decide +kernel⟩
def wp_X11_at_50 (k : Int32) (S : St) (s0 : Int32) (P : Int32 → St → Prop) : Prop :=
  P s0 S
set_option maxHeartbeats 4000000 in
set_option maxRecDepth 100000 in
theorem run_X11_at_50 {f : Fx} {g : Gx} {T0 : List (Nat × Nat × Nat)} {S : St} {k : Int32} {P : Int32 → St → Prop} (C : Cx f g cX11_at 2 RX11) (hrt : (fmeth f).sig.returnType = (some .int))  {s0 : Int32} (hT : S.2.2.1 = T0)  (h : wp_X11_at_50 k S s0 P) : WW f rm_X11_at g 2 0 0 (Qi f g 0 0 T0 P) S 50 [] [.int s0] := by
  unfold wp_X11_at_50 at h
  exact ww_iret C hrt dX11_at_50 hT h
def wp_X11_at_19 (k : Int32) (S : St) (s0 : Int32) (P : Int32 → St → Prop) : Prop :=
  ∀ S6 : St, S6 = stM S 9 0 s0 → (((S6.2.1 9 0) ≤ 0 → ((0 ≤ k → (vp_in k (gw_ml 19) ∧ wp_X11_at_50 k S6 (S6.2.1 29 k.toNatClampNeg) P)) ∧ (¬ 0 ≤ k → wp_X11_at_50 k S6 (S6.2.1 9 3) P))) ∧ (¬ (S6.2.1 9 0) ≤ 0 → wp_X11_at_50 k S6 0 P))
set_option maxHeartbeats 4000000 in
set_option maxRecDepth 100000 in
theorem run_X11_at_19 {f : Fx} {g : Gx} {T0 : List (Nat × Nat × Nat)} {S : St} {k : Int32} {P : Int32 → St → Prop} (C : Cx f g cX11_at 2 RX11) (hrt : (fmeth f).sig.returnType = (some .int))  {s0 : Int32} (hT : S.2.2.1 = T0)  (h : wp_X11_at_19 k S s0 P) : WW f rm_X11_at g 2 0 0 (Qi f g 0 0 T0 P) S 19 [(0, .ref (gad g 158)), (1, .int k)] [.int s0, .ref (gad g 158)] := by
  unfold wp_X11_at_19 at h
  refine pf_Model_thrown C bw_923 dX11_at_19 ?_
  refine ww_nm (fun S6 e_S6 => ?_)
  replace h := h S6 e_S6
  have hT_S6 : S6.2.2.1 = T0 := by rw [e_S6]; exact hT
  refine ww_aload_n C dX11_at_22 0 rfl ?_
  refine gf_Model_thrown C bw_923 dX11_at_23 ?_
  refine ww_if_le (tgt := 33) C dX11_at_26 (by decide) (fun q7 => ?_) (fun q7 => ?_)
  · replace h := h.1 q7
    refine ww_iload_n C dX11_at_33 1 rfl ?_
    refine ww_if_ge (tgt := 44) C dX11_at_34 (by decide) (fun q8 => ?_) (fun q8 => ?_)
    · replace h := h.1 q8
      refine ww_aload_n C dX11_at_44 0 rfl ?_
      refine gf_Model_buffer C bw_946 dX11_at_45 ?_
      refine ww_iload_n C dX11_at_48 1 rfl ?_
      refine ia_m (a := 19) C (by decide) (by decide) h.1 dX11_at_49 ?_
      replace h := h.2
      exact ww_sub [] rfl (run_X11_at_50 C hrt  hT_S6  h)
    · replace h := h.2 q8
      refine ww_aload_n C dX11_at_37 0 rfl ?_
      refine gf_Model_buffered C bw_945 dX11_at_38 ?_
      refine ww_goto (tgt := 50) C dX11_at_41 (by decide) ?_
      exact ww_sub [] rfl (run_X11_at_50 C hrt  hT_S6  h)
  · replace h := h.2 q7
    refine ww_iconst (v := 0) C dX11_at_29 (by decide) ?_
    refine ww_goto (tgt := 50) C dX11_at_30 (by decide) ?_
    exact ww_sub [] rfl (run_X11_at_50 C hrt  hT_S6  h)
def wp_X11_at_14 (k : Int32) (S : St)  (P : Int32 → St → Prop) : Prop :=
  wp_X11_at_19 k S 1 P
set_option maxHeartbeats 4000000 in
set_option maxRecDepth 100000 in
theorem run_X11_at_14 {f : Fx} {g : Gx} {T0 : List (Nat × Nat × Nat)} {S : St} {k : Int32} {P : Int32 → St → Prop} (C : Cx f g cX11_at 2 RX11) (hrt : (fmeth f).sig.returnType = (some .int))   (hT : S.2.2.1 = T0)  (h : wp_X11_at_14 k S  P) : WW f rm_X11_at g 2 0 0 (Qi f g 0 0 T0 P) S 14 [(0, .ref (gad g 158)), (1, .int k)] [.ref (gad g 158)] := by
  unfold wp_X11_at_14 at h
  refine ww_iconst (v := 1) C dX11_at_14 (by decide) ?_
  refine ww_goto (tgt := 19) C dX11_at_15 (by decide) ?_
  exact ww_sub [0, 1] rfl (run_X11_at_19 C hrt  hT  h)
def wp_X11_at (S : St) (k : Int32) (P : Int32 → St → Prop) : Prop :=
  ((k < ((-1)) → wp_X11_at_14 k S  P) ∧ (¬ k < ((-1)) → ((k < (S.2.1 9 3) → wp_X11_at_19 k S 0 P) ∧ (¬ k < (S.2.1 9 3) → wp_X11_at_14 k S  P))))
set_option maxHeartbeats 4000000 in
set_option maxRecDepth 100000 in
theorem run_X11_at {l : Launch} {g : Gx} {S : St} {k : Int32} {P : Int32 → St → Prop}  (h : rowsLe S → wp_X11_at S k P) : CMi g l yX11_at cX11_at 2 (some .int) rm_X11_at [.ref (gad g 158), .int k] S P := cm_entry (own := RX11) (plainFor_of_name (by decide)) rfl (Nat.le_of_ble_eq_true rfl) rfl (fun hle f hf C hrt => by
  subst hf
  replace h := h hle
  obtain ⟨T0, hT⟩ : ∃ T, S.2.2.1 = T := ⟨_, rfl⟩
  rw [hT]
  unfold wp_X11_at at h
  refine ww_aload_n C dX11_at_0 0 rfl ?_
  refine ww_iload_n C dX11_at_1 1 rfl ?_
  refine ww_iconst (v := (-1)) C dX11_at_2 (by decide) ?_
  refine ww_icmp_lt (tgt := 14) C dX11_at_3 (by decide) (fun q9 => ?_) (fun q9 => ?_)
  · replace h := h.1 q9
    exact ww_sub [0, 1] rfl (run_X11_at_14 C hrt  hT  h)
  · replace h := h.2 q9
    refine ww_iload_n C dX11_at_6 1 rfl ?_
    refine ww_aload_n C dX11_at_7 0 rfl ?_
    refine gf_Model_buffered C bw_945 dX11_at_8 ?_
    refine ww_icmp_lt (tgt := 18) C dX11_at_11 (by decide) (fun q10 => ?_) (fun q10 => ?_)
    · replace h := h.1 q10
      refine ww_iconst (v := 0) C dX11_at_18 (by decide) ?_
      exact ww_sub [0, 1] rfl (run_X11_at_19 C hrt  hT  h)
    · replace h := h.2 q10
      exact ww_sub [0, 1] rfl (run_X11_at_14 C hrt  hT  h))
abbrev rm_X11_count : Room := { frames := 1, cells := 0, slots := 0, locals := 21 }
theorem ok_X11_count : MOK yX11_count RX11 cX11_count 2 (some .int) 1 := ⟨bw_1283, bw_1284, bw_69, bw_1285, by decide +kernel⟩
def wp_X11_count_40 (q : Int32) (S : St) (s0 : Int32) (P : Int32 → St → Prop) : Prop :=
  P s0 S
set_option maxHeartbeats 4000000 in
set_option maxRecDepth 100000 in
theorem run_X11_count_40 {f : Fx} {g : Gx} {T0 : List (Nat × Nat × Nat)} {S : St} {q : Int32} {P : Int32 → St → Prop} (C : Cx f g cX11_count 2 RX11) (hrt : (fmeth f).sig.returnType = (some .int))  {s0 : Int32} (hT : S.2.2.1 = T0)  (h : wp_X11_count_40 q S s0 P) : WW f rm_X11_count g 2 0 0 (Qi f g 0 0 T0 P) S 40 [] [.int s0] := by
  unfold wp_X11_count_40 at h
  exact ww_iret C hrt dX11_count_40 hT h
def wp_X11_count (S : St) (q : Int32) (P : Int32 → St → Prop) : Prop :=
  ∀ S8 : St, S8 = stM S 9 0 0 → ((¬ q = ((-1)) → wp_X11_out S8 q (S8.2.1 9 1) (fun r11 S10 => ((r11 = 0 → (vp_in q (gw_ml 2) ∧ wp_X11_count_40 q S10 (S10.2.1 12 q.toNatClampNeg) P)) ∧ (¬ r11 = 0 → ∀ (r14 : Int32) (S13 : St), r14 = fv_X11_fail S10 1 → S13 = fs_X11_fail S10 1 → wp_X11_count_40 q S13 r14 P)))) ∧ (q = ((-1)) → P (S8.2.1 9 1) S8))
set_option maxHeartbeats 4000000 in
set_option maxRecDepth 100000 in
theorem run_X11_count {l : Launch} {g : Gx} {S : St} {q : Int32} {P : Int32 → St → Prop}  (h : rowsLe S → wp_X11_count S q P) : CMi g l yX11_count cX11_count 2 (some .int) rm_X11_count [.ref (gad g 158), .int q] S P := cm_entry (own := RX11) (plainFor_of_name (by decide)) rfl (Nat.le_of_ble_eq_true rfl) rfl (fun hle f hf C hrt => by
  subst hf
  replace h := h hle
  obtain ⟨T0, hT⟩ : ∃ T, S.2.2.1 = T := ⟨_, rfl⟩
  rw [hT]
  unfold wp_X11_count at h
  refine ww_aload_n C dX11_count_0 0 rfl ?_
  refine ww_iconst (v := 0) C dX11_count_1 (by decide) ?_
  refine pf_Model_thrown C bw_923 dX11_count_2 ?_
  refine ww_nm (fun S8 e_S8 => ?_)
  replace h := h S8 e_S8
  have hT_S8 : S8.2.2.1 = T0 := by rw [e_S8]; exact hT
  refine ww_iload_n C dX11_count_5 1 rfl ?_
  refine ww_iconst (v := (-1)) C dX11_count_6 (by decide) ?_
  refine ww_icmp_ne (tgt := 15) C dX11_count_7 (by decide) (fun q9 => ?_) (fun q9 => ?_)
  · replace h := h.1 q9
    refine ww_iload_n C dX11_count_15 1 rfl ?_
    refine ww_aload_n C dX11_count_16 0 rfl ?_
    refine gf_Model_glyphs C bw_924 dX11_count_17 ?_
    refine ww_cSi (As := [.int q, .int (S8.2.1 9 1)]) (rest := []) C ok_X11_out bw_1050 dX11_count_20 (run_X11_out  (fun _ => h)) rfl ⟨Nat.le_of_ble_eq_true rfl, Nat.le_of_ble_eq_true rfl⟩ (Nat.le_of_ble_eq_true rfl) (c2 := 0) (s2 := 0) rfl rfl ⟨Nat.le_of_ble_eq_true rfl, Nat.le_of_ble_eq_true rfl⟩ rfl (fun r11 S10 hp hTg => ?_)
    replace h := hp
    have hT_S10 : S10.2.2.1 = T0 := by rw [hTg]; exact hT_S8
    refine ww_if_eq (tgt := 34) C dX11_count_23 (by decide) (fun q12 => ?_) (fun q12 => ?_)
    · replace h := h.1 q12
      refine ww_aload_n C dX11_count_34 0 rfl ?_
      refine gf_Model_points C bw_927 dX11_count_35 ?_
      refine ww_iload_n C dX11_count_38 1 rfl ?_
      refine ia_m (a := 2) C (by decide) (by decide) h.1 dX11_count_39 ?_
      replace h := h.2
      exact ww_sub [] rfl (run_X11_count_40 C hrt  hT_S10  h)
    · replace h := h.2 q12
      refine ww_aload_n C dX11_count_26 0 rfl ?_
      refine ww_iconst (v := 1) C dX11_count_27 (by decide) ?_
      refine ww_cVi (As := [.int 1]) (rest := []) C ok_X11_fail bw_1286 dX11_count_28 cm_X11_fail rc_Model rfl ⟨Nat.le_of_ble_eq_true rfl, Nat.le_of_ble_eq_true rfl⟩ (Nat.le_of_ble_eq_true rfl) (c2 := 0) (s2 := 0) rfl rfl ⟨Nat.le_of_ble_eq_true rfl, Nat.le_of_ble_eq_true rfl⟩ rfl (fun r14 S13 hp hTg => ?_)
      obtain ⟨e_r14, e_S13⟩ := hp
      replace h := h r14 S13 e_r14 e_S13
      have hT_S13 : S13.2.2.1 = T0 := by rw [hTg]; exact hT_S10
      refine ww_goto (tgt := 40) C dX11_count_31 (by decide) ?_
      exact ww_sub [] rfl (run_X11_count_40 C hrt  hT_S13  h)
  · replace h := h.2 q9
    refine ww_aload_n C dX11_count_10 0 rfl ?_
    refine gf_Model_glyphs C bw_924 dX11_count_11 ?_
    exact ww_iret C hrt dX11_count_14 hT_S8 h)
abbrev rm_X11_outline : Room := { frames := 1, cells := 0, slots := 0, locals := 21 }
theorem ok_X11_outline : MOK yX11_outline RX11 cX11_outline 5 (some .int) 3 := ⟨bw_1291, bw_1292, bw_69, bw_1293, by decide +kernel⟩
def wp_X11_outline_116 (q : Int32) (p : Int32) (w : Int32) (S : St) (s0 : Int32) (P : Int32 → St → Prop) : Prop :=
  P s0 S
set_option maxHeartbeats 4000000 in
set_option maxRecDepth 100000 in
theorem run_X11_outline_116 {f : Fx} {g : Gx} {T0 : List (Nat × Nat × Nat)} {S : St} {q : Int32} {p : Int32} {w : Int32} {P : Int32 → St → Prop} (C : Cx f g cX11_outline 5 RX11) (hrt : (fmeth f).sig.returnType = (some .int))  {s0 : Int32} (hT : S.2.2.1 = T0)  (h : wp_X11_outline_116 q p w S s0 P) : WW f rm_X11_outline g 5 0 0 (Qi f g 0 0 T0 P) S 116 [] [.int s0] := by
  unfold wp_X11_outline_116 at h
  exact ww_iret C hrt dX11_outline_116 hT h
def wp_X11_outline_24 (q : Int32) (p : Int32) (w : Int32) (S : St)  (P : Int32 → St → Prop) : Prop :=
  ∀ (r21 : Int32) (S20 : St), r21 = fv_X11_fail S 1 → S20 = fs_X11_fail S 1 → P r21 S20
set_option maxHeartbeats 4000000 in
set_option maxRecDepth 100000 in
theorem run_X11_outline_24 {f : Fx} {g : Gx} {T0 : List (Nat × Nat × Nat)} {S : St} {q : Int32} {p : Int32} {w : Int32} {P : Int32 → St → Prop} (C : Cx f g cX11_outline 5 RX11) (hrt : (fmeth f).sig.returnType = (some .int))   (hT : S.2.2.1 = T0)  (h : wp_X11_outline_24 q p w S  P) : WW f rm_X11_outline g 5 0 0 (Qi f g 0 0 T0 P) S 24 [(0, .ref (gad g 158))] [] := by
  unfold wp_X11_outline_24 at h
  refine ww_aload_n C dX11_outline_24 0 rfl ?_
  refine ww_iconst (v := 1) C dX11_outline_25 (by decide) ?_
  refine ww_cVi (As := [.int 1]) (rest := []) C ok_X11_fail bw_1286 dX11_outline_26 cm_X11_fail rc_Model rfl ⟨Nat.le_of_ble_eq_true rfl, Nat.le_of_ble_eq_true rfl⟩ (Nat.le_of_ble_eq_true rfl) (c2 := 0) (s2 := 0) rfl rfl ⟨Nat.le_of_ble_eq_true rfl, Nat.le_of_ble_eq_true rfl⟩ rfl (fun r21 S20 hp hTg => ?_)
  obtain ⟨e_r21, e_S20⟩ := hp
  replace h := h r21 S20 e_r21 e_S20
  have hT_S20 : S20.2.2.1 = T0 := by rw [hTg]; exact hT
  exact ww_iret C hrt dX11_outline_29 hT_S20 h
def wp_X11_outline (S : St) (q : Int32) (p : Int32) (w : Int32) (P : Int32 → St → Prop) : Prop :=
  ∀ S22 : St, S22 = stM S 9 0 0 → wp_X11_out S22 q (S22.2.1 9 1) (fun r24 S23 => ((¬ r24 = 0 → wp_X11_outline_24 q p w S23  P) ∧ (r24 = 0 → wp_X11_out S23 w 4 (fun r27 S26 => ((r27 = 0 → (vp_in q (gw_ml 2) ∧ wp_X11_out S26 p (S26.2.1 12 q.toNatClampNeg) (fun r30 S29 => ((r30 = 0 → ∀ x32 : Int32, x32 = (16 * q) + p → ((¬ w = 0 → ((¬ w = 1 → ((¬ w = 2 → (vp_in x32 (gw_ml 6) ∧ wp_X11_outline_116 q p w S29 (S29.2.1 16 x32.toNatClampNeg) P)) ∧ (w = 2 → (vp_in x32 (gw_ml 5) ∧ (((S29.2.1 15 x32.toNatClampNeg) = 0 → wp_X11_outline_116 q p w S29 0 P) ∧ (¬ (S29.2.1 15 x32.toNatClampNeg) = 0 → wp_X11_outline_116 q p w S29 1 P)))))) ∧ (w = 1 → (vp_in x32 (gw_ml 4) ∧ wp_X11_outline_116 q p w S29 (S29.2.1 14 x32.toNatClampNeg) P)))) ∧ (w = 0 → (vp_in x32 (gw_ml 3) ∧ wp_X11_outline_116 q p w S29 (S29.2.1 13 x32.toNatClampNeg) P)))) ∧ (¬ r30 = 0 → ∀ (r38 : Int32) (S37 : St), r38 = fv_X11_fail S29 2 → S37 = fs_X11_fail S29 2 → P r38 S37))))) ∧ (¬ r27 = 0 → wp_X11_outline_24 q p w S26  P))))))
set_option maxHeartbeats 4000000 in
set_option maxRecDepth 100000 in
theorem run_X11_outline {l : Launch} {g : Gx} {S : St} {q : Int32} {p : Int32} {w : Int32} {P : Int32 → St → Prop}  (h : rowsLe S → wp_X11_outline S q p w P) : CMi g l yX11_outline cX11_outline 5 (some .int) rm_X11_outline [.ref (gad g 158), .int q, .int p, .int w] S P := cm_entry (own := RX11) (plainFor_of_name (by decide)) rfl (Nat.le_of_ble_eq_true rfl) rfl (fun hle f hf C hrt => by
  subst hf
  replace h := h hle
  obtain ⟨T0, hT⟩ : ∃ T, S.2.2.1 = T := ⟨_, rfl⟩
  rw [hT]
  unfold wp_X11_outline at h
  refine ww_aload_n C dX11_outline_0 0 rfl ?_
  refine ww_iconst (v := 0) C dX11_outline_1 (by decide) ?_
  refine pf_Model_thrown C bw_923 dX11_outline_2 ?_
  refine ww_nm (fun S22 e_S22 => ?_)
  replace h := h S22 e_S22
  have hT_S22 : S22.2.2.1 = T0 := by rw [e_S22]; exact hT
  refine ww_iload_n C dX11_outline_5 1 rfl ?_
  refine ww_aload_n C dX11_outline_6 0 rfl ?_
  refine gf_Model_glyphs C bw_924 dX11_outline_7 ?_
  refine ww_cSi (As := [.int q, .int (S22.2.1 9 1)]) (rest := []) C ok_X11_out bw_1050 dX11_outline_10 (run_X11_out  (fun _ => h)) rfl ⟨Nat.le_of_ble_eq_true rfl, Nat.le_of_ble_eq_true rfl⟩ (Nat.le_of_ble_eq_true rfl) (c2 := 0) (s2 := 0) rfl rfl ⟨Nat.le_of_ble_eq_true rfl, Nat.le_of_ble_eq_true rfl⟩ rfl (fun r24 S23 hp hTg => ?_)
  replace h := hp
  have hT_S23 : S23.2.2.1 = T0 := by rw [hTg]; exact hT_S22
  refine ww_if_ne (tgt := 24) C dX11_outline_13 (by decide) (fun q25 => ?_) (fun q25 => ?_)
  · replace h := h.1 q25
    exact ww_sub [0] rfl (run_X11_outline_24 C hrt  hT_S23  h)
  · replace h := h.2 q25
    refine ww_iload_n C dX11_outline_16 3 rfl ?_
    refine ww_iconst (v := 4) C dX11_outline_17 (by decide) ?_
    refine ww_cSi (As := [.int w, .int 4]) (rest := []) C ok_X11_out bw_1050 dX11_outline_18 (run_X11_out  (fun _ => h)) rfl ⟨Nat.le_of_ble_eq_true rfl, Nat.le_of_ble_eq_true rfl⟩ (Nat.le_of_ble_eq_true rfl) (c2 := 0) (s2 := 0) rfl rfl ⟨Nat.le_of_ble_eq_true rfl, Nat.le_of_ble_eq_true rfl⟩ rfl (fun r27 S26 hp hTg => ?_)
    replace h := hp
    have hT_S26 : S26.2.2.1 = T0 := by rw [hTg]; exact hT_S23
    refine ww_if_eq (tgt := 30) C dX11_outline_21 (by decide) (fun q28 => ?_) (fun q28 => ?_)
    · replace h := h.1 q28
      refine ww_iload_n C dX11_outline_30 2 rfl ?_
      refine ww_aload_n C dX11_outline_31 0 rfl ?_
      refine gf_Model_points C bw_927 dX11_outline_32 ?_
      refine ww_iload_n C dX11_outline_35 1 rfl ?_
      refine ia_m (a := 2) C (by decide) (by decide) h.1 dX11_outline_36 ?_
      replace h := h.2
      refine ww_cSi (As := [.int p, .int (S26.2.1 12 q.toNatClampNeg)]) (rest := []) C ok_X11_out bw_1050 dX11_outline_37 (run_X11_out  (fun _ => h)) rfl ⟨Nat.le_of_ble_eq_true rfl, Nat.le_of_ble_eq_true rfl⟩ (Nat.le_of_ble_eq_true rfl) (c2 := 0) (s2 := 0) rfl rfl ⟨Nat.le_of_ble_eq_true rfl, Nat.le_of_ble_eq_true rfl⟩ rfl (fun r30 S29 hp hTg => ?_)
      replace h := hp
      have hT_S29 : S29.2.2.1 = T0 := by rw [hTg]; exact hT_S26
      refine ww_if_eq (tgt := 49) C dX11_outline_40 (by decide) (fun q31 => ?_) (fun q31 => ?_)
      · replace h := h.1 q31
        refine ww_bipush (v := 16) C dX11_outline_49 (by decide) ?_
        refine ww_iload_n C dX11_outline_51 1 rfl ?_
        refine ww_imul C dX11_outline_52 ?_
        refine ww_iload_n C dX11_outline_53 2 rfl ?_
        refine ww_iadd C dX11_outline_54 ?_
        refine ww_topi (fun x32 e_x32 => ?_)
        replace h := h x32 e_x32
        refine ww_istore (lv2 := [(4, .int x32), (0, .ref (gad g 158)), (1, .int q), (2, .int p), (3, .int w)]) C dX11_outline_55 (Nat.le_of_ble_eq_true rfl) rfl ?_
        refine ww_iload_n C dX11_outline_57 4 rfl ?_
        refine ww_if_ne (tgt := 71) C dX11_outline_58 (by decide) (fun q33 => ?_) (fun q33 => ?_)
        · replace h := h.1 q33
          refine ww_iload_n C dX11_outline_71 4 rfl ?_
          refine ww_iconst (v := 1) C dX11_outline_72 (by decide) ?_
          refine ww_icmp_ne (tgt := 86) C dX11_outline_73 (by decide) (fun q34 => ?_) (fun q34 => ?_)
          · replace h := h.1 q34
            refine ww_iload_n C dX11_outline_86 4 rfl ?_
            refine ww_iconst (v := 2) C dX11_outline_87 (by decide) ?_
            refine ww_icmp_ne (tgt := 109) C dX11_outline_88 (by decide) (fun q35 => ?_) (fun q35 => ?_)
            · replace h := h.1 q35
              refine ww_aload_n C dX11_outline_109 1 rfl ?_
              refine gf_Model_contourOf C bw_931 dX11_outline_110 ?_
              refine ww_iload C dX11_outline_113 0 rfl ?_
              refine ia_m (a := 6) C (by decide) (by decide) h.1 dX11_outline_115 ?_
              replace h := h.2
              exact ww_sub [] rfl (run_X11_outline_116 C hrt  hT_S29  h)
            · replace h := h.2 q35
              refine ww_aload_n C dX11_outline_91 1 rfl ?_
              refine gf_Model_on C bw_930 dX11_outline_92 ?_
              refine ww_iload C dX11_outline_95 0 rfl ?_
              refine ia_on C h.1 dX11_outline_97 ?_
              replace h := h.2
              refine ww_if_eq (tgt := 105) C dX11_outline_98 (by decide) (fun q36 => ?_) (fun q36 => ?_)
              · replace h := h.1 q36
                refine ww_iconst (v := 0) C dX11_outline_105 (by decide) ?_
                refine ww_goto (tgt := 116) C dX11_outline_106 (by decide) ?_
                exact ww_sub [] rfl (run_X11_outline_116 C hrt  hT_S29  h)
              · replace h := h.2 q36
                refine ww_iconst (v := 1) C dX11_outline_101 (by decide) ?_
                refine ww_goto (tgt := 116) C dX11_outline_102 (by decide) ?_
                exact ww_sub [] rfl (run_X11_outline_116 C hrt  hT_S29  h)
          · replace h := h.2 q34
            refine ww_aload_n C dX11_outline_76 1 rfl ?_
            refine gf_Model_py C bw_929 dX11_outline_77 ?_
            refine ww_iload C dX11_outline_80 0 rfl ?_
            refine ia_m (a := 4) C (by decide) (by decide) h.1 dX11_outline_82 ?_
            replace h := h.2
            refine ww_goto (tgt := 116) C dX11_outline_83 (by decide) ?_
            exact ww_sub [] rfl (run_X11_outline_116 C hrt  hT_S29  h)
        · replace h := h.2 q33
          refine ww_aload_n C dX11_outline_61 1 rfl ?_
          refine gf_Model_px C bw_928 dX11_outline_62 ?_
          refine ww_iload C dX11_outline_65 0 rfl ?_
          refine ia_m (a := 3) C (by decide) (by decide) h.1 dX11_outline_67 ?_
          replace h := h.2
          refine ww_goto (tgt := 116) C dX11_outline_68 (by decide) ?_
          exact ww_sub [] rfl (run_X11_outline_116 C hrt  hT_S29  h)
      · replace h := h.2 q31
        refine ww_aload_n C dX11_outline_43 0 rfl ?_
        refine ww_iconst (v := 2) C dX11_outline_44 (by decide) ?_
        refine ww_cVi (As := [.int 2]) (rest := []) C ok_X11_fail bw_1286 dX11_outline_45 cm_X11_fail rc_Model rfl ⟨Nat.le_of_ble_eq_true rfl, Nat.le_of_ble_eq_true rfl⟩ (Nat.le_of_ble_eq_true rfl) (c2 := 0) (s2 := 0) rfl rfl ⟨Nat.le_of_ble_eq_true rfl, Nat.le_of_ble_eq_true rfl⟩ rfl (fun r38 S37 hp hTg => ?_)
        obtain ⟨e_r38, e_S37⟩ := hp
        replace h := h r38 S37 e_r38 e_S37
        have hT_S37 : S37.2.2.1 = T0 := by rw [hTg]; exact hT_S29
        exact ww_iret C hrt dX11_outline_48 hT_S37 h
    · replace h := h.2 q28
      exact ww_sub [0] rfl (run_X11_outline_24 C hrt  hT_S26  h))
