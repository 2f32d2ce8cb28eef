abbrev rm_X0_isBroken : Room := { frames := 0, cells := 0, slots := 0, locals := 0 }
theorem ok_X0_isBroken : MOK yX0_isBroken RX0 cX0_isBroken 1 (some .boolean) 0 := ⟨bw_753, bw_754, bw_78, bw_755, by decide +kernel⟩
def wp_X0_isBroken (S : St) (c : Nat) (r : Nat) (P : Int32 → St → Prop) : Prop :=
  (((S.2.1 (1000 + c) 2) = 0 ∨ (S.2.1 (1000 + c) 2) = 1) ∧ P (S.2.1 (1000 + c) 2) S)
set_option maxHeartbeats 4000000 in
set_option maxRecDepth 100000 in
theorem run_X0_isBroken {l : Launch} {g : Gx} {S : St} {c : Nat} {r : Nat} {P : Int32 → St → Prop} (hm : (c, 0, r) ∈ S.2.2.1) (hr : r < 68) (h : rowsLe S → wp_X0_isBroken S c r P) : CMi g l yX0_isBroken cX0_isBroken 1 (some .boolean) rm_X0_isBroken [.ref c] S P := cm_entry (own := RX0) (plainFor_of_name (by decide)) rfl (Nat.le_of_ble_eq_true rfl) rfl (fun hle f hf C hrt => by
  subst hf
  replace h := h hle
  obtain ⟨T0, hT⟩ : ∃ T, S.2.2.1 = T := ⟨_, rfl⟩
  rw [hT] at hm
  rw [hT]
  unfold wp_X0_isBroken at h
  refine ww_aload_n C dX0_isBroken_0 0 rfl ?_
  refine gf_BitReader_broken C (q := c) (r := r) (by rw [hT]; exact hm) bw_723 dX0_isBroken_1 ?_
  exact ww_zret C hrt dX0_isBroken_4 hT h.1 h.2)
abbrev rm_X0_nextBits : Room := { frames := 1, cells := 0, slots := 0, locals := 21 }
theorem ok_X0_nextBits : MOK yX0_nextBits RX0 cX0_nextBits 4 (some .int) 1 := ⟨bw_738, bw_739, bw_78, bw_740, by decide +kernel⟩
def st_X0_nextBits_4 (c : Nat) (r : Nat) (n : Int32) (P : Int32 → St → Prop) (X4 : St → Int32 → Int32 → Prop) (S : St) (v2 : Int32) (v3 : Int32) : Prop :=
  ((n ≤ v3 → P v2 S) ∧ (¬ n ≤ v3 → (((S.2.1 (1000 + c) 1) < (S.2.1 (1000 + c) 0) → ∀ x9 : Int32, x9 = (v2 * 2) + (((rGet S r ((S.2.1 (1000 + c) 1) / 8)) >>> ((7 - ((S.2.1 (1000 + c) 1) - (S.2.1 (1000 + c) 1) / 8 * 8)) &&& 31)) &&& 1) → ∀ S10 : St, S10 = stM S (1000 + c) 1 ((S.2.1 (1000 + c) 1) + 1) → ∀ x11 : Int32, x11 = v3 + 1 → X4 S10 x9 x11) ∧ (¬ (S.2.1 (1000 + c) 1) < (S.2.1 (1000 + c) 0) → ∀ S12 : St, S12 = stM S (1000 + c) 2 1 → P 0 S12))))
def at_X0_nextBits_4 (f : Fx) (g : Gx) (T0 : List (Nat × Nat × Nat)) (c : Nat) (r : Nat) (n : Int32) (P : Int32 → St → Prop) (S : St) (v2 : Int32) (v3 : Int32) : Prop := S.2.2.1 = T0 → WW f rm_X0_nextBits g 4 0 0 (Qi f g 0 0 T0 P) S 4 [(0, .ref c), (1, .int n), (2, .int v2), (3, .int v3)] []
set_option maxHeartbeats 4000000 in
set_option maxRecDepth 100000 in
theorem run_X0_nextBits_4 {f : Fx} {g : Gx} {T0 : List (Nat × Nat × Nat)} {S : St} {c : Nat} {r : Nat} {n : Int32} {P : Int32 → St → Prop} (C : Cx f g cX0_nextBits 4 RX0) (hrt : (fmeth f).sig.returnType = (some .int)) (hm : (c, 0, r) ∈ T0) (hr : r < 68) {v2 : Int32} {v3 : Int32} (h : st_X0_nextBits_4 c r n P (at_X0_nextBits_4 f g T0 c r n P) S v2 v3) : at_X0_nextBits_4 f g T0 c r n P S v2 v3 := by
  intro hT 
  unfold st_X0_nextBits_4 at h
  refine ww_iload_n C dX0_nextBits_4 3 rfl ?_
  refine ww_iload_n C dX0_nextBits_5 1 rfl ?_
  refine ww_icmp_ge (tgt := 75) C dX0_nextBits_6 (by decide) (fun q7 => ?_) (fun q7 => ?_)
  · replace h := h.1 q7
    refine ww_iload_n C dX0_nextBits_75 2 rfl ?_
    exact ww_iret C hrt dX0_nextBits_76 hT h
  · replace h := h.2 q7
    refine ww_aload_n C dX0_nextBits_9 0 rfl ?_
    refine gf_BitReader_bitsTaken C (q := c) (r := r) (by rw [hT]; exact hm) bw_722 dX0_nextBits_10 ?_
    refine ww_aload_n C dX0_nextBits_13 0 rfl ?_
    refine gf_BitReader_bitsTogether C (q := c) (r := r) (by rw [hT]; exact hm) bw_721 dX0_nextBits_14 ?_
    refine ww_icmp_lt (tgt := 27) C dX0_nextBits_17 (by decide) (fun q8 => ?_) (fun q8 => ?_)
    · replace h := h.1 q8
      refine ww_iload_n C dX0_nextBits_27 2 rfl ?_
      refine ww_iconst (v := 2) C dX0_nextBits_28 (by decide) ?_
      refine ww_imul C dX0_nextBits_29 ?_
      refine ww_aload_n C dX0_nextBits_30 0 rfl ?_
      refine gf_BitReader_row C (q := c) (r := r) (by rw [hT]; exact hm) bw_720 dX0_nextBits_31 ?_
      refine ww_aload_n C dX0_nextBits_34 0 rfl ?_
      refine gf_BitReader_bitsTaken C (q := c) (r := r) (by rw [hT]; exact hm) bw_722 dX0_nextBits_35 ?_
      refine ww_bipush (v := 8) C dX0_nextBits_38 (by decide) ?_
      refine ww_idiv C dX0_nextBits_40 (by decide) ?_
      refine ww_cVf (As := [.int ((S.2.1 (1000 + c) 1) / 8)]) (rest := [.int (v2 * 2)]) C ok_X8_get bw_741 dX0_nextBits_41 (cm_X8_get hr) (rc_Row hr) rfl ⟨Nat.le_of_ble_eq_true rfl, Nat.le_of_ble_eq_true rfl⟩ (Nat.le_of_ble_eq_true rfl) (c2 := 0) (s2 := 0) rfl rfl ⟨Nat.le_of_ble_eq_true rfl, Nat.le_of_ble_eq_true rfl⟩ rfl ?_
      refine ww_bipush (v := 7) C dX0_nextBits_44 (by decide) ?_
      refine ww_aload_n C dX0_nextBits_46 0 rfl ?_
      refine gf_BitReader_bitsTaken C (q := c) (r := r) (by rw [hT]; exact hm) bw_722 dX0_nextBits_47 ?_
      refine ww_bipush (v := 8) C dX0_nextBits_50 (by decide) ?_
      refine ww_irem C dX0_nextBits_52 (by decide) ?_
      refine ww_isub C dX0_nextBits_53 ?_
      refine ww_ishr C dX0_nextBits_54 ?_
      refine ww_iconst (v := 1) C dX0_nextBits_55 (by decide) ?_
      refine ww_iand C dX0_nextBits_56 ?_
      refine ww_iadd C dX0_nextBits_57 ?_
      refine ww_topi (fun x9 e_x9 => ?_)
      replace h := h x9 e_x9
      refine ww_istore_n (lv2 := [(2, .int x9), (0, .ref c), (1, .int n), (3, .int v3)]) C dX0_nextBits_58 rfl (Nat.le_of_ble_eq_true rfl) rfl ?_
      refine ww_aload_n C dX0_nextBits_59 1 rfl ?_
      refine ww_dup C dX0_nextBits_60 rfl ?_
      refine gf_BitReader_bitsTaken C (q := c) (r := r) (by rw [hT]; exact hm) bw_722 dX0_nextBits_61 ?_
      refine ww_iconst (v := 1) C dX0_nextBits_64 (by decide) ?_
      refine ww_iadd C dX0_nextBits_65 ?_
      refine pf_BitReader_bitsTaken C (q := c) (r := r) (by rw [hT]; exact hm) bw_722 dX0_nextBits_66 ?_
      refine ww_nm (fun S10 e_S10 => ?_)
      replace h := h S10 e_S10
      have hT_S10 : S10.2.2.1 = T0 := by rw [e_S10]; exact hT
      obtain ⟨x11, e_x11⟩ : ∃ z : Int32, z = v3 + 1 := ⟨_, rfl⟩
      replace h := h x11 e_x11
      refine ww_iinc (v := x11) (lv2 := [(3, .int x11), (2, .int x9), (0, .ref c), (1, .int n)]) C dX0_nextBits_69 3 rfl (by rw [e_x11]; rfl) (Nat.le_of_ble_eq_true rfl) rfl ?_
      refine ww_goto (tgt := 4) C dX0_nextBits_72 (by decide) ?_
      exact ww_sub [2, 3, 1, 0] rfl (h hT_S10)
    · replace h := h.2 q8
      refine ww_aload_n C dX0_nextBits_20 0 rfl ?_
      refine ww_iconst (v := 1) C dX0_nextBits_21 (by decide) ?_
      refine pf_BitReader_broken C (q := c) (r := r) (by decide) (by rw [hT]; exact hm) bw_723 dX0_nextBits_22 ?_
      refine ww_nm (fun S12 e_S12 => ?_)
      replace h := h S12 e_S12
      have hT_S12 : S12.2.2.1 = T0 := by rw [e_S12]; exact hT
      refine ww_iconst (v := 0) C dX0_nextBits_25 (by decide) ?_
      exact ww_iret C hrt dX0_nextBits_26 hT_S12 h
def wp_X0_nextBits (S : St) (c : Nat) (r : Nat) (n : Int32) (P : Int32 → St → Prop) : Prop :=
  ∀ (X4 : St → Int32 → Int32 → Prop), (∀ S v2 v3, st_X0_nextBits_4 c r n P X4 S v2 v3 → X4 S v2 v3) → X4 S 0 0
set_option maxHeartbeats 4000000 in
set_option maxRecDepth 100000 in
theorem run_X0_nextBits {l : Launch} {g : Gx} {S : St} {c : Nat} {r : Nat} {n : Int32} {P : Int32 → St → Prop} (hm : (c, 0, r) ∈ S.2.2.1) (hr : r < 68) (h : rowsLe S → wp_X0_nextBits S c r n P) : CMi g l yX0_nextBits cX0_nextBits 4 (some .int) rm_X0_nextBits [.ref c, .int n] S P := cm_entry (own := RX0) (plainFor_of_name (by decide)) rfl (Nat.le_of_ble_eq_true rfl) rfl (fun hle f hf C hrt => by
  subst hf
  replace h := h hle
  obtain ⟨T0, hT⟩ : ∃ T, S.2.2.1 = T := ⟨_, rfl⟩
  rw [hT] at hm
  rw [hT]
  replace h := h (at_X0_nextBits_4 f g T0 c r n P) (fun S v2 v3 h => run_X0_nextBits_4 C hrt hm hr h)
  refine ww_iconst (v := 0) C dX0_nextBits_0 (by decide) ?_
  refine ww_istore_n (lv2 := [(2, .int 0), (0, .ref c), (1, .int n)]) C dX0_nextBits_1 rfl (Nat.le_of_ble_eq_true rfl) rfl ?_
  refine ww_iconst (v := 0) C dX0_nextBits_2 (by decide) ?_
  refine ww_istore_n (lv2 := [(3, .int 0), (2, .int 0), (0, .ref c), (1, .int n)]) C dX0_nextBits_3 rfl (Nat.le_of_ble_eq_true rfl) rfl ?_
  exact ww_sub [2, 3, 1, 0] rfl (h hT))
abbrev rm_X0_nextGamma : Room := { frames := 2, cells := 0, slots := 0, locals := 44 }
theorem ok_X0_nextGamma : MOK yX0_nextGamma RX0 cX0_nextGamma 2 (some .int) 0 := ⟨bw_744, bw_745, bw_78, bw_746, by decide +kernel⟩
def st_X0_nextGamma_2 (c : Nat) (r : Nat) (P : Int32 → St → Prop) (X2 : St → Int32 → Prop) (S : St) (v1 : Int32) : Prop :=
  ((15 < v1 → ∀ S10 : St, S10 = stM S (1000 + c) 2 1 → P 0 S10) ∧ (¬ 15 < v1 → wp_X0_nextBits S c r 1 (fun r12 S11 => ((¬ r12 = 1 → ∀ x14 : Int32, x14 = v1 + 1 → X2 S11 x14) ∧ (r12 = 1 → wp_X0_nextBits S11 c r v1 (fun r16 S15 => P ((1 <<< (v1 &&& 31)) + r16) S15))))))
def at_X0_nextGamma_2 (f : Fx) (g : Gx) (T0 : List (Nat × Nat × Nat)) (c : Nat) (r : Nat) (P : Int32 → St → Prop) (S : St) (v1 : Int32) : Prop := S.2.2.1 = T0 → WW f rm_X0_nextGamma g 2 0 0 (Qi f g 0 0 T0 P) S 2 [(0, .ref c), (1, .int v1)] []
set_option maxHeartbeats 4000000 in
set_option maxRecDepth 100000 in
theorem run_X0_nextGamma_2 {f : Fx} {g : Gx} {T0 : List (Nat × Nat × Nat)} {S : St} {c : Nat} {r : Nat} {P : Int32 → St → Prop} (C : Cx f g cX0_nextGamma 2 RX0) (hrt : (fmeth f).sig.returnType = (some .int)) (hm : (c, 0, r) ∈ T0) (hr : r < 68) {v1 : Int32} (h : st_X0_nextGamma_2 c r P (at_X0_nextGamma_2 f g T0 c r P) S v1) : at_X0_nextGamma_2 f g T0 c r P S v1 := by
  intro hT 
  unfold st_X0_nextGamma_2 at h
  refine ww_iload_n C dX0_nextGamma_2 1 rfl ?_
  refine ww_bipush (v := 15) C dX0_nextGamma_3 (by decide) ?_
  refine ww_icmp_gt (tgt := 33) C dX0_nextGamma_5 (by decide) (fun q9 => ?_) (fun q9 => ?_)
  · replace h := h.1 q9
    refine ww_aload_n C dX0_nextGamma_33 0 rfl ?_
    refine ww_iconst (v := 1) C dX0_nextGamma_34 (by decide) ?_
    refine pf_BitReader_broken C (q := c) (r := r) (by decide) (by rw [hT]; exact hm) bw_723 dX0_nextGamma_35 ?_
    refine ww_nm (fun S10 e_S10 => ?_)
    replace h := h S10 e_S10
    have hT_S10 : S10.2.2.1 = T0 := by rw [e_S10]; exact hT
    refine ww_iconst (v := 0) C dX0_nextGamma_38 (by decide) ?_
    exact ww_iret C hrt dX0_nextGamma_39 hT_S10 h
  · replace h := h.2 q9
    refine ww_aload_n C dX0_nextGamma_8 0 rfl ?_
    refine ww_iconst (v := 1) C dX0_nextGamma_9 (by decide) ?_
    refine ww_cVi (As := [.int 1]) (rest := []) C ok_X0_nextBits bw_747 dX0_nextGamma_10 (run_X0_nextBits (c := c) (r := r) (by rw [hT]; exact hm) hr (fun _ => h)) (rc_BitReader (q := c) (r := r) (by rw [hT]; exact hm)) rfl ⟨Nat.le_of_ble_eq_true rfl, Nat.le_of_ble_eq_true rfl⟩ (Nat.le_of_ble_eq_true rfl) (c2 := 0) (s2 := 0) rfl rfl ⟨Nat.le_of_ble_eq_true rfl, Nat.le_of_ble_eq_true rfl⟩ rfl (fun r12 S11 hp hTg => ?_)
    replace h := hp
    have hT_S11 : S11.2.2.1 = T0 := by rw [hTg]; exact hT
    refine ww_iconst (v := 1) C dX0_nextGamma_13 (by decide) ?_
    refine ww_icmp_ne (tgt := 27) C dX0_nextGamma_14 (by decide) (fun q13 => ?_) (fun q13 => ?_)
    · replace h := h.1 q13
      obtain ⟨x14, e_x14⟩ : ∃ z : Int32, z = v1 + 1 := ⟨_, rfl⟩
      replace h := h x14 e_x14
      refine ww_iinc (v := x14) (lv2 := [(1, .int x14), (0, .ref c)]) C dX0_nextGamma_27 1 rfl (by rw [e_x14]; rfl) (Nat.le_of_ble_eq_true rfl) rfl ?_
      refine ww_goto (tgt := 2) C dX0_nextGamma_30 (by decide) ?_
      exact ww_sub [1, 0] rfl (h hT_S11)
    · replace h := h.2 q13
      refine ww_iconst (v := 1) C dX0_nextGamma_17 (by decide) ?_
      refine ww_iload_n C dX0_nextGamma_18 1 rfl ?_
      refine ww_ishl C dX0_nextGamma_19 ?_
      refine ww_aload_n C dX0_nextGamma_20 0 rfl ?_
      refine ww_iload_n C dX0_nextGamma_21 1 rfl ?_
      refine ww_cVi (As := [.int v1]) (rest := [.int (1 <<< (v1 &&& 31))]) C ok_X0_nextBits bw_747 dX0_nextGamma_22 (run_X0_nextBits (c := c) (r := r) (by rw [hT_S11]; exact hm) hr (fun _ => h)) (rc_BitReader (q := c) (r := r) (by rw [hT_S11]; exact hm)) rfl ⟨Nat.le_of_ble_eq_true rfl, Nat.le_of_ble_eq_true rfl⟩ (Nat.le_of_ble_eq_true rfl) (c2 := 0) (s2 := 0) rfl rfl ⟨Nat.le_of_ble_eq_true rfl, Nat.le_of_ble_eq_true rfl⟩ rfl (fun r16 S15 hp hTg => ?_)
      replace h := hp
      have hT_S15 : S15.2.2.1 = T0 := by rw [hTg]; exact hT_S11
      refine ww_iadd C dX0_nextGamma_25 ?_
      exact ww_iret C hrt dX0_nextGamma_26 hT_S15 h
def wp_X0_nextGamma (S : St) (c : Nat) (r : Nat) (P : Int32 → St → Prop) : Prop :=
  ∀ (X2 : St → Int32 → Prop), (∀ S v1, st_X0_nextGamma_2 c r P X2 S v1 → X2 S v1) → X2 S 0
set_option maxHeartbeats 4000000 in
set_option maxRecDepth 100000 in
theorem run_X0_nextGamma {l : Launch} {g : Gx} {S : St} {c : Nat} {r : Nat} {P : Int32 → St → Prop} (hm : (c, 0, r) ∈ S.2.2.1) (hr : r < 68) (h : rowsLe S → wp_X0_nextGamma S c r P) : CMi g l yX0_nextGamma cX0_nextGamma 2 (some .int) rm_X0_nextGamma [.ref c] S P := cm_entry (own := RX0) (plainFor_of_name (by decide)) rfl (Nat.le_of_ble_eq_true rfl) rfl (fun hle f hf C hrt => by
  subst hf
  replace h := h hle
  obtain ⟨T0, hT⟩ : ∃ T, S.2.2.1 = T := ⟨_, rfl⟩
  rw [hT] at hm
  rw [hT]
  replace h := h (at_X0_nextGamma_2 f g T0 c r P) (fun S v1 h => run_X0_nextGamma_2 C hrt hm hr h)
  refine ww_iconst (v := 0) C dX0_nextGamma_0 (by decide) ?_
  refine ww_istore_n (lv2 := [(1, .int 0), (0, .ref c)]) C dX0_nextGamma_1 rfl (Nat.le_of_ble_eq_true rfl) rfl ?_
  exact ww_sub [1, 0] rfl (h hT))
abbrev rm_X0_hasOnlyFillLeft : Room := { frames := 2, cells := 0, slots := 0, locals := 44 }
theorem ok_X0_hasOnlyFillLeft : MOK yX0_hasOnlyFillLeft RX0 cX0_hasOnlyFillLeft 2 (some .boolean) 0 := ⟨bw_757, bw_758, bw_78, bw_759, by decide +kernel⟩
def wp_X0_hasOnlyFillLeft_29 (c : Nat) (r : Nat) (S : St) (s0 : Int32) (P : Int32 → St → Prop) : Prop :=
  ((s0 = 0 ∨ s0 = 1) ∧ P s0 S)
set_option maxHeartbeats 4000000 in
set_option maxRecDepth 100000 in
theorem run_X0_hasOnlyFillLeft_29 {f : Fx} {g : Gx} {T0 : List (Nat × Nat × Nat)} {S : St} {c : Nat} {r : Nat} {P : Int32 → St → Prop} (C : Cx f g cX0_hasOnlyFillLeft 2 RX0) (hrt : (fmeth f).sig.returnType = (some .boolean)) (hm : (c, 0, r) ∈ T0) (hr : r < 68) {s0 : Int32} (hT : S.2.2.1 = T0)  (h : wp_X0_hasOnlyFillLeft_29 c r S s0 P) : WW f rm_X0_hasOnlyFillLeft g 2 0 0 (Qi f g 0 0 T0 P) S 29 [] [.int s0] := by
  unfold wp_X0_hasOnlyFillLeft_29 at h
  exact ww_zret C hrt dX0_hasOnlyFillLeft_29 hT h.1 h.2
def wp_X0_hasOnlyFillLeft_28 (c : Nat) (r : Nat) (S : St)  (P : Int32 → St → Prop) : Prop :=
  wp_X0_hasOnlyFillLeft_29 c r S 0 P
set_option maxHeartbeats 4000000 in
set_option maxRecDepth 100000 in
theorem run_X0_hasOnlyFillLeft_28 {f : Fx} {g : Gx} {T0 : List (Nat × Nat × Nat)} {S : St} {c : Nat} {r : Nat} {P : Int32 → St → Prop} (C : Cx f g cX0_hasOnlyFillLeft 2 RX0) (hrt : (fmeth f).sig.returnType = (some .boolean)) (hm : (c, 0, r) ∈ T0) (hr : r < 68)  (hT : S.2.2.1 = T0)  (h : wp_X0_hasOnlyFillLeft_28 c r S  P) : WW f rm_X0_hasOnlyFillLeft g 2 0 0 (Qi f g 0 0 T0 P) S 28 [] [] := by
  unfold wp_X0_hasOnlyFillLeft_28 at h
  refine ww_iconst (v := 0) C dX0_hasOnlyFillLeft_28 (by decide) ?_
  exact ww_sub [] rfl (run_X0_hasOnlyFillLeft_29 C hrt hm hr hT  h)
def wp_X0_hasOnlyFillLeft (S : St) (c : Nat) (r : Nat) (P : Int32 → St → Prop) : Prop :=
  ∀ x6 : Int32, x6 = (S.2.1 (1000 + c) 0) - (S.2.1 (1000 + c) 1) → ((8 ≤ x6 → wp_X0_hasOnlyFillLeft_28 c r S  P) ∧ (¬ 8 ≤ x6 → wp_X0_nextBits S c r x6 (fun r9 S8 => ((¬ r9 = 0 → wp_X0_hasOnlyFillLeft_28 c r S8  P) ∧ (r9 = 0 → wp_X0_hasOnlyFillLeft_29 c r S8 1 P)))))
set_option maxHeartbeats 4000000 in
set_option maxRecDepth 100000 in
theorem run_X0_hasOnlyFillLeft {l : Launch} {g : Gx} {S : St} {c : Nat} {r : Nat} {P : Int32 → St → Prop} (hm : (c, 0, r) ∈ S.2.2.1) (hr : r < 68) (h : rowsLe S → wp_X0_hasOnlyFillLeft S c r P) : CMi g l yX0_hasOnlyFillLeft cX0_hasOnlyFillLeft 2 (some .boolean) rm_X0_hasOnlyFillLeft [.ref c] S P := cm_entry (own := RX0) (plainFor_of_name (by decide)) rfl (Nat.le_of_ble_eq_true rfl) rfl (fun hle f hf C hrt => by
  subst hf
  replace h := h hle
  obtain ⟨T0, hT⟩ : ∃ T, S.2.2.1 = T := ⟨_, rfl⟩
  rw [hT] at hm
  rw [hT]
  unfold wp_X0_hasOnlyFillLeft at h
  refine ww_aload_n C dX0_hasOnlyFillLeft_0 0 rfl ?_
  refine gf_BitReader_bitsTogether C (q := c) (r := r) (by rw [hT]; exact hm) bw_721 dX0_hasOnlyFillLeft_1 ?_
  refine ww_aload_n C dX0_hasOnlyFillLeft_4 0 rfl ?_
  refine gf_BitReader_bitsTaken C (q := c) (r := r) (by rw [hT]; exact hm) bw_722 dX0_hasOnlyFillLeft_5 ?_
  refine ww_isub C dX0_hasOnlyFillLeft_8 ?_
  refine ww_topi (fun x6 e_x6 => ?_)
  replace h := h x6 e_x6
  refine ww_istore_n (lv2 := [(1, .int x6), (0, .ref c)]) C dX0_hasOnlyFillLeft_9 rfl (Nat.le_of_ble_eq_true rfl) rfl ?_
  refine ww_iload_n C dX0_hasOnlyFillLeft_10 0 rfl ?_
  refine ww_bipush (v := 8) C dX0_hasOnlyFillLeft_11 (by decide) ?_
  refine ww_icmp_ge (tgt := 28) C dX0_hasOnlyFillLeft_13 (by decide) (fun q7 => ?_) (fun q7 => ?_)
  · replace h := h.1 q7
    exact ww_sub [] rfl (run_X0_hasOnlyFillLeft_28 C hrt hm hr hT  h)
  · replace h := h.2 q7
    refine ww_aload_n C dX0_hasOnlyFillLeft_16 1 rfl ?_
    refine ww_iload_n C dX0_hasOnlyFillLeft_17 0 rfl ?_
    refine ww_cVi (As := [.int x6]) (rest := []) C ok_X0_nextBits bw_747 dX0_hasOnlyFillLeft_18 (run_X0_nextBits (c := c) (r := r) (by rw [hT]; exact hm) hr (fun _ => h)) (rc_BitReader (q := c) (r := r) (by rw [hT]; exact hm)) rfl ⟨Nat.le_of_ble_eq_true rfl, Nat.le_of_ble_eq_true rfl⟩ (Nat.le_of_ble_eq_true rfl) (c2 := 0) (s2 := 0) rfl rfl ⟨Nat.le_of_ble_eq_true rfl, Nat.le_of_ble_eq_true rfl⟩ rfl (fun r9 S8 hp hTg => ?_)
    replace h := hp
    have hT_S8 : S8.2.2.1 = T0 := by rw [hTg]; exact hT
    refine ww_if_ne (tgt := 28) C dX0_hasOnlyFillLeft_21 (by decide) (fun q10 => ?_) (fun q10 => ?_)
    · replace h := h.1 q10
      exact ww_sub [] rfl (run_X0_hasOnlyFillLeft_28 C hrt hm hr hT_S8  h)
    · replace h := h.2 q10
      refine ww_iconst (v := 1) C dX0_hasOnlyFillLeft_24 (by decide) ?_
      refine ww_goto (tgt := 29) C dX0_hasOnlyFillLeft_25 (by decide) ?_
      exact ww_sub [] rfl (run_X0_hasOnlyFillLeft_29 C hrt hm hr hT_S8  h))
abbrev rm_X1_addBits : Room := { frames := 1, cells := 0, slots := 0, locals := 21 }
theorem ok_X1_addBits : MOK yX1_addBits RX1 cX1_addBits 4 none 2 := ⟨bw_610, bw_611, bw_76, bw_612, by decide +kernel⟩
def st_X1_addBits_4 (c : Nat) (r : Nat) (a : Int32) (n : Int32) (P : St → Prop) (X4 : St → Int32 → Prop) (X64 : St → Int32 → Prop) (S : St) (v3 : Int32) : Prop :=
  ((v3 < 0 → P S) ∧ (¬ v3 < 0 → ∀ S11 : St, S11 = stM S (1000 + c) 0 (((S.2.1 (1000 + c) 0) * 2) + ((a >>> (v3 &&& 31)) &&& 1)) → ∀ S12 : St, S12 = stM S11 (1000 + c) 1 ((S11.2.1 (1000 + c) 1) + 1) → ((¬ (S12.2.1 (1000 + c) 1) = 8 → X64 S12 v3) ∧ ((S12.2.1 (1000 + c) 1) = 8 → ∀ S14 : St, S14 = rAdd S12 r (S12.2.1 (1000 + c) 0) → ∀ S15 : St, S15 = stM S14 (1000 + c) 0 0 → ∀ S16 : St, S16 = stM S15 (1000 + c) 1 0 → X64 S16 v3))))
def st_X1_addBits_64 (c : Nat) (r : Nat) (a : Int32) (n : Int32) (P : St → Prop) (X4 : St → Int32 → Prop) (X64 : St → Int32 → Prop) (S : St) (v3 : Int32) : Prop :=
  ∀ x17 : Int32, x17 = v3 + (-1) → X4 S x17
def at_X1_addBits_4 (f : Fx) (g : Gx) (T0 : List (Nat × Nat × Nat)) (c : Nat) (r : Nat) (a : Int32) (n : Int32) (P : St → Prop) (S : St) (v3 : Int32) : Prop := S.2.2.1 = T0 → WW f rm_X1_addBits g 4 0 0 (Qv f g 0 0 T0 P) S 4 [(0, .ref c), (1, .int a), (3, .int v3)] []
def at_X1_addBits_64 (f : Fx) (g : Gx) (T0 : List (Nat × Nat × Nat)) (c : Nat) (r : Nat) (a : Int32) (n : Int32) (P : St → Prop) (S : St) (v3 : Int32) : Prop := S.2.2.1 = T0 → WW f rm_X1_addBits g 4 0 0 (Qv f g 0 0 T0 P) S 64 [(0, .ref c), (1, .int a), (3, .int v3)] []
set_option maxHeartbeats 4000000 in
set_option maxRecDepth 100000 in
theorem run_X1_addBits_4 {f : Fx} {g : Gx} {T0 : List (Nat × Nat × Nat)} {S : St} {c : Nat} {r : Nat} {a : Int32} {n : Int32} {P : St → Prop} (C : Cx f g cX1_addBits 4 RX1) (hrt : (fmeth f).sig.returnType = none) (hm : (c, 1, r) ∈ T0) (hr : r < 68) {v3 : Int32} (h : st_X1_addBits_4 c r a n P (at_X1_addBits_4 f g T0 c r a n P) (at_X1_addBits_64 f g T0 c r a n P) S v3) : at_X1_addBits_4 f g T0 c r a n P S v3 := by
  intro hT 
  unfold st_X1_addBits_4 at h
  refine ww_iload_n C dX1_addBits_4 2 rfl ?_
  refine ww_if_lt (tgt := 70) C dX1_addBits_5 (by decide) (fun q10 => ?_) (fun q10 => ?_)
  · replace h := h.1 q10
    exact ww_vret C hrt dX1_addBits_70 hT h
  · replace h := h.2 q10
    refine ww_aload_n C dX1_addBits_8 0 rfl ?_
    refine ww_aload_n C dX1_addBits_9 0 rfl ?_
    refine gf_BitWriter_begun C (q := c) (r := r) (by rw [hT]; exact hm) bw_588 dX1_addBits_10 ?_
    refine ww_iconst (v := 2) C dX1_addBits_13 (by decide) ?_
    refine ww_imul C dX1_addBits_14 ?_
    refine ww_iload_n C dX1_addBits_15 1 rfl ?_
    refine ww_iload_n C dX1_addBits_16 2 rfl ?_
    refine ww_ishr C dX1_addBits_17 ?_
    refine ww_iconst (v := 1) C dX1_addBits_18 (by decide) ?_
    refine ww_iand C dX1_addBits_19 ?_
    refine ww_iadd C dX1_addBits_20 ?_
    refine pf_BitWriter_begun C (q := c) (r := r) (by rw [hT]; exact hm) bw_588 dX1_addBits_21 ?_
    refine ww_nm (fun S11 e_S11 => ?_)
    replace h := h S11 e_S11
    have hT_S11 : S11.2.2.1 = T0 := by rw [e_S11]; exact hT
    refine ww_aload_n C dX1_addBits_24 0 rfl ?_
    refine ww_dup C dX1_addBits_25 rfl ?_
    refine gf_BitWriter_bitsBegun C (q := c) (r := r) (by rw [hT_S11]; exact hm) bw_589 dX1_addBits_26 ?_
    refine ww_iconst (v := 1) C dX1_addBits_29 (by decide) ?_
    refine ww_iadd C dX1_addBits_30 ?_
    refine pf_BitWriter_bitsBegun C (q := c) (r := r) (by rw [hT_S11]; exact hm) bw_589 dX1_addBits_31 ?_
    refine ww_nm (fun S12 e_S12 => ?_)
    replace h := h S12 e_S12
    have hT_S12 : S12.2.2.1 = T0 := by rw [e_S12]; exact hT_S11
    refine ww_aload_n C dX1_addBits_34 0 rfl ?_
    refine gf_BitWriter_bitsBegun C (q := c) (r := r) (by rw [hT_S12]; exact hm) bw_589 dX1_addBits_35 ?_
    refine ww_bipush (v := 8) C dX1_addBits_38 (by decide) ?_
    refine ww_icmp_ne (tgt := 64) C dX1_addBits_40 (by decide) (fun q13 => ?_) (fun q13 => ?_)
    · replace h := h.1 q13
      exact ww_sub [0, 1, 2] rfl (h hT_S12)
    · replace h := h.2 q13
      refine ww_aload_n C dX1_addBits_43 0 rfl ?_
      refine gf_BitWriter_out C (q := c) (r := r) (by rw [hT_S12]; exact hm) bw_587 dX1_addBits_44 ?_
      refine ww_aload_n C dX1_addBits_47 0 rfl ?_
      refine gf_BitWriter_begun C (q := c) (r := r) (by rw [hT_S12]; exact hm) bw_588 dX1_addBits_48 ?_
      refine ww_cVg (As := [.int (S12.2.1 (1000 + c) 0)]) (rest := []) C ok_X8_add bw_613 dX1_addBits_51 (cm_X8_add hr) (rc_Row hr) rfl ⟨Nat.le_of_ble_eq_true rfl, Nat.le_of_ble_eq_true rfl⟩ (Nat.le_of_ble_eq_true rfl) (c2 := 0) (s2 := 0) rfl rfl ⟨Nat.le_of_ble_eq_true rfl, Nat.le_of_ble_eq_true rfl⟩ rfl (fun hTg => ?_)
      refine ww_nm (fun S14 e_S14 => ?_)
      replace h := h S14 e_S14
      have hT_S14 : S14.2.2.1 = T0 := by rw [e_S14, hTg]; exact hT_S12
      refine ww_aload_n C dX1_addBits_54 0 rfl ?_
      refine ww_iconst (v := 0) C dX1_addBits_55 (by decide) ?_
      refine pf_BitWriter_begun C (q := c) (r := r) (by rw [hT_S14]; exact hm) bw_588 dX1_addBits_56 ?_
      refine ww_nm (fun S15 e_S15 => ?_)
      replace h := h S15 e_S15
      have hT_S15 : S15.2.2.1 = T0 := by rw [e_S15]; exact hT_S14
      refine ww_aload_n C dX1_addBits_59 0 rfl ?_
      refine ww_iconst (v := 0) C dX1_addBits_60 (by decide) ?_
      refine pf_BitWriter_bitsBegun C (q := c) (r := r) (by rw [hT_S15]; exact hm) bw_589 dX1_addBits_61 ?_
      refine ww_nm (fun S16 e_S16 => ?_)
      replace h := h S16 e_S16
      have hT_S16 : S16.2.2.1 = T0 := by rw [e_S16]; exact hT_S15
      exact ww_sub [0, 1, 2] rfl (h hT_S16)
set_option maxHeartbeats 4000000 in
set_option maxRecDepth 100000 in
theorem run_X1_addBits_64 {f : Fx} {g : Gx} {T0 : List (Nat × Nat × Nat)} {S : St} {c : Nat} {r : Nat} {a : Int32} {n : Int32} {P : St → Prop} (C : Cx f g cX1_addBits 4 RX1) (hrt : (fmeth f).sig.returnType = none) (hm : (c, 1, r) ∈ T0) (hr : r < 68) {v3 : Int32} (h : st_X1_addBits_64 c r a n P (at_X1_addBits_4 f g T0 c r a n P) (at_X1_addBits_64 f g T0 c r a n P) S v3) : at_X1_addBits_64 f g T0 c r a n P S v3 := by
  intro hT 
  unfold st_X1_addBits_64 at h
  obtain ⟨x17, e_x17⟩ : ∃ z : Int32, z = v3 + (-1) := ⟨_, rfl⟩
  replace h := h x17 e_x17
  refine ww_iinc (v := x17) (lv2 := [(3, .int x17), (0, .ref c), (1, .int a)]) C dX1_addBits_64 2 rfl (by rw [e_x17]; rfl) (Nat.le_of_ble_eq_true rfl) rfl ?_
  refine ww_goto (tgt := 4) C dX1_addBits_67 (by decide) ?_
  exact ww_sub [1, 2, 0] rfl (h hT)
def wp_X1_addBits (S : St) (c : Nat) (r : Nat) (a : Int32) (n : Int32) (P : St → Prop) : Prop :=
  ∀ (X4 : St → Int32 → Prop) (X64 : St → Int32 → Prop), (∀ S v3, st_X1_addBits_4 c r a n P X4 X64 S v3 → X4 S v3) → (∀ S v3, st_X1_addBits_64 c r a n P X4 X64 S v3 → X64 S v3) → ∀ x18 : Int32, x18 = n - 1 → X4 S x18
set_option maxHeartbeats 4000000 in
set_option maxRecDepth 100000 in
theorem run_X1_addBits {l : Launch} {g : Gx} {S : St} {c : Nat} {r : Nat} {a : Int32} {n : Int32} {P : St → Prop} (hm : (c, 1, r) ∈ S.2.2.1) (hr : r < 68) (h : rowsLe S → wp_X1_addBits S c r a n P) : CMv g l yX1_addBits cX1_addBits 4 none rm_X1_addBits [.ref c, .int a, .int n] S P := cm_entry (own := RX1) (plainFor_of_name (by decide)) rfl (Nat.le_of_ble_eq_true rfl) rfl (fun hle f hf C hrt => by
  subst hf
  replace h := h hle
  obtain ⟨T0, hT⟩ : ∃ T, S.2.2.1 = T := ⟨_, rfl⟩
  rw [hT] at hm
  rw [hT]
  replace h := h (at_X1_addBits_4 f g T0 c r a n P) (at_X1_addBits_64 f g T0 c r a n P) (fun S v3 h => run_X1_addBits_4 C hrt hm hr h) (fun S v3 h => run_X1_addBits_64 C hrt hm hr h)
  refine ww_iload_n C dX1_addBits_0 2 rfl ?_
  refine ww_iconst (v := 1) C dX1_addBits_1 (by decide) ?_
  refine ww_isub C dX1_addBits_2 ?_
  refine ww_topi (fun x18 e_x18 => ?_)
  replace h := h x18 e_x18
  refine ww_istore_n (lv2 := [(3, .int x18), (0, .ref c), (1, .int a), (2, .int n)]) C dX1_addBits_3 rfl (Nat.le_of_ble_eq_true rfl) rfl ?_
  exact ww_sub [1, 2, 0] rfl (h hT))
abbrev rm_X1_addGamma : Room := { frames := 2, cells := 0, slots := 0, locals := 44 }
theorem ok_X1_addGamma : MOK yX1_addGamma RX1 cX1_addGamma 4 none 1 := ⟨bw_615, bw_616, bw_76, bw_617, by decide +kernel⟩
def st_X1_addGamma_6 (c : Nat) (r : Nat) (a : Int32) (P : St → Prop) (X6 : St → Int32 → Int32 → Prop) (S : St) (v2 : Int32) (v3 : Int32) : Prop :=
  ((v3 ≤ 0 → wp_X1_addBits S c r 0 v2 (fun S10 => wp_X1_addBits S10 c r a (v2 + 1) (fun S12 => P S12))) ∧ (¬ v3 ≤ 0 → ∀ x14 : Int32, x14 = v2 + 1 → ∀ x15 : Int32, x15 = v3 / 2 → X6 S x14 x15))
def at_X1_addGamma_6 (f : Fx) (g : Gx) (T0 : List (Nat × Nat × Nat)) (c : Nat) (r : Nat) (a : Int32) (P : St → Prop) (S : St) (v2 : Int32) (v3 : Int32) : Prop := S.2.2.1 = T0 → WW f rm_X1_addGamma g 4 0 0 (Qv f g 0 0 T0 P) S 6 [(0, .ref c), (1, .int a), (2, .int v2), (3, .int v3)] []
set_option maxHeartbeats 4000000 in
set_option maxRecDepth 100000 in
theorem run_X1_addGamma_6 {f : Fx} {g : Gx} {T0 : List (Nat × Nat × Nat)} {S : St} {c : Nat} {r : Nat} {a : Int32} {P : St → Prop} (C : Cx f g cX1_addGamma 4 RX1) (hrt : (fmeth f).sig.returnType = none) (hm : (c, 1, r) ∈ T0) (hr : r < 68) {v2 : Int32} {v3 : Int32} (h : st_X1_addGamma_6 c r a P (at_X1_addGamma_6 f g T0 c r a P) S v2 v3) : at_X1_addGamma_6 f g T0 c r a P S v2 v3 := by
  intro hT 
  unfold st_X1_addGamma_6 at h
  refine ww_iload_n C dX1_addGamma_6 3 rfl ?_
  refine ww_if_le (tgt := 20) C dX1_addGamma_7 (by decide) (fun q9 => ?_) (fun q9 => ?_)
  · replace h := h.1 q9
    refine ww_aload_n C dX1_addGamma_20 0 rfl ?_
    refine ww_iconst (v := 0) C dX1_addGamma_21 (by decide) ?_
    refine ww_iload_n C dX1_addGamma_22 2 rfl ?_
    refine ww_cVv (As := [.int 0, .int v2]) (rest := []) C ok_X1_addBits bw_618 dX1_addGamma_23 (run_X1_addBits (c := c) (r := r) (by rw [hT]; exact hm) hr (fun _ => h)) (rc_BitWriter (q := c) (r := r) (by rw [hT]; exact hm)) rfl ⟨Nat.le_of_ble_eq_true rfl, Nat.le_of_ble_eq_true rfl⟩ (Nat.le_of_ble_eq_true rfl) (c2 := 0) (s2 := 0) rfl rfl ⟨Nat.le_of_ble_eq_true rfl, Nat.le_of_ble_eq_true rfl⟩ rfl (fun S10 hp hTg => ?_)
    replace h := hp
    have hT_S10 : S10.2.2.1 = T0 := by rw [hTg]; exact hT
    refine ww_aload_n C dX1_addGamma_26 0 rfl ?_
    refine ww_iload_n C dX1_addGamma_27 1 rfl ?_
    refine ww_iload_n C dX1_addGamma_28 2 rfl ?_
    refine ww_iconst (v := 1) C dX1_addGamma_29 (by decide) ?_
    refine ww_iadd C dX1_addGamma_30 ?_
    refine ww_cVv (As := [.int a, .int (v2 + 1)]) (rest := []) C ok_X1_addBits bw_618 dX1_addGamma_31 (run_X1_addBits (c := c) (r := r) (by rw [hT_S10]; exact hm) hr (fun _ => h)) (rc_BitWriter (q := c) (r := r) (by rw [hT_S10]; exact hm)) rfl ⟨Nat.le_of_ble_eq_true rfl, Nat.le_of_ble_eq_true rfl⟩ (Nat.le_of_ble_eq_true rfl) (c2 := 0) (s2 := 0) rfl rfl ⟨Nat.le_of_ble_eq_true rfl, Nat.le_of_ble_eq_true rfl⟩ rfl (fun S12 hp hTg => ?_)
    replace h := hp
    have hT_S12 : S12.2.2.1 = T0 := by rw [hTg]; exact hT_S10
    exact ww_vret C hrt dX1_addGamma_34 hT_S12 h
  · replace h := h.2 q9
    obtain ⟨x14, e_x14⟩ : ∃ z : Int32, z = v2 + 1 := ⟨_, rfl⟩
    replace h := h x14 e_x14
    refine ww_iinc (v := x14) (lv2 := [(2, .int x14), (0, .ref c), (1, .int a), (3, .int v3)]) C dX1_addGamma_10 2 rfl (by rw [e_x14]; rfl) (Nat.le_of_ble_eq_true rfl) rfl ?_
    refine ww_iload_n C dX1_addGamma_13 3 rfl ?_
    refine ww_iconst (v := 2) C dX1_addGamma_14 (by decide) ?_
    refine ww_idiv C dX1_addGamma_15 (by decide) ?_
    refine ww_topi (fun x15 e_x15 => ?_)
    replace h := h x15 e_x15
    refine ww_istore_n (lv2 := [(3, .int x15), (2, .int x14), (0, .ref c), (1, .int a)]) C dX1_addGamma_16 rfl (Nat.le_of_ble_eq_true rfl) rfl ?_
    refine ww_goto (tgt := 6) C dX1_addGamma_17 (by decide) ?_
    exact ww_sub [2, 3, 1, 0] rfl (h hT)
def wp_X1_addGamma (S : St) (c : Nat) (r : Nat) (a : Int32) (P : St → Prop) : Prop :=
  ∀ (X6 : St → Int32 → Int32 → Prop), (∀ S v2 v3, st_X1_addGamma_6 c r a P X6 S v2 v3 → X6 S v2 v3) → ∀ x16 : Int32, x16 = a / 2 → X6 S 0 x16
set_option maxHeartbeats 4000000 in
set_option maxRecDepth 100000 in
theorem run_X1_addGamma {l : Launch} {g : Gx} {S : St} {c : Nat} {r : Nat} {a : Int32} {P : St → Prop} (hm : (c, 1, r) ∈ S.2.2.1) (hr : r < 68) (h : rowsLe S → wp_X1_addGamma S c r a P) : CMv g l yX1_addGamma cX1_addGamma 4 none rm_X1_addGamma [.ref c, .int a] S P := cm_entry (own := RX1) (plainFor_of_name (by decide)) rfl (Nat.le_of_ble_eq_true rfl) rfl (fun hle f hf C hrt => by
  subst hf
  replace h := h hle
  obtain ⟨T0, hT⟩ : ∃ T, S.2.2.1 = T := ⟨_, rfl⟩
  rw [hT] at hm
  rw [hT]
  replace h := h (at_X1_addGamma_6 f g T0 c r a P) (fun S v2 v3 h => run_X1_addGamma_6 C hrt hm hr h)
  refine ww_iconst (v := 0) C dX1_addGamma_0 (by decide) ?_
  refine ww_istore_n (lv2 := [(2, .int 0), (0, .ref c), (1, .int a)]) C dX1_addGamma_1 rfl (Nat.le_of_ble_eq_true rfl) rfl ?_
  refine ww_iload_n C dX1_addGamma_2 2 rfl ?_
  refine ww_iconst (v := 2) C dX1_addGamma_3 (by decide) ?_
  refine ww_idiv C dX1_addGamma_4 (by decide) ?_
  refine ww_topi (fun x16 e_x16 => ?_)
  replace h := h x16 e_x16
  refine ww_istore_n (lv2 := [(3, .int x16), (2, .int 0), (0, .ref c), (1, .int a)]) C dX1_addGamma_5 rfl (Nat.le_of_ble_eq_true rfl) rfl ?_
  exact ww_sub [2, 3, 1, 0] rfl (h hT))
abbrev rm_X1_fillByte : Room := { frames := 2, cells := 0, slots := 0, locals := 44 }
theorem ok_X1_fillByte : MOK yX1_fillByte RX1 cX1_fillByte 1 none 0 := ⟨bw_621, bw_622, bw_76, bw_623, by decide +kernel⟩
def wp_X1_fillByte_19 (c : Nat) (r : Nat) (S : St)  (P : St → Prop) : Prop :=
  P S
set_option maxHeartbeats 4000000 in
set_option maxRecDepth 100000 in
theorem run_X1_fillByte_19 {f : Fx} {g : Gx} {T0 : List (Nat × Nat × Nat)} {S : St} {c : Nat} {r : Nat} {P : St → Prop} (C : Cx f g cX1_fillByte 1 RX1) (hrt : (fmeth f).sig.returnType = none) (hm : (c, 1, r) ∈ T0) (hr : r < 68)  (hT : S.2.2.1 = T0)  (h : wp_X1_fillByte_19 c r S  P) : WW f rm_X1_fillByte g 1 0 0 (Qv f g 0 0 T0 P) S 19 [] [] := by
  unfold wp_X1_fillByte_19 at h
  exact ww_vret C hrt dX1_fillByte_19 hT h
def wp_X1_fillByte (S : St) (c : Nat) (r : Nat) (P : St → Prop) : Prop :=
  (((S.2.1 (1000 + c) 1) ≤ 0 → wp_X1_fillByte_19 c r S  P) ∧ (¬ (S.2.1 (1000 + c) 1) ≤ 0 → wp_X1_addBits S c r 0 (8 - (S.2.1 (1000 + c) 1)) (fun S5 => wp_X1_fillByte_19 c r S5  P)))
set_option maxHeartbeats 4000000 in
set_option maxRecDepth 100000 in
theorem run_X1_fillByte {l : Launch} {g : Gx} {S : St} {c : Nat} {r : Nat} {P : St → Prop} (hm : (c, 1, r) ∈ S.2.2.1) (hr : r < 68) (h : rowsLe S → wp_X1_fillByte S c r P) : CMv g l yX1_fillByte cX1_fillByte 1 none rm_X1_fillByte [.ref c] S P := cm_entry (own := RX1) (plainFor_of_name (by decide)) rfl (Nat.le_of_ble_eq_true rfl) rfl (fun hle f hf C hrt => by
  subst hf
  replace h := h hle
  obtain ⟨T0, hT⟩ : ∃ T, S.2.2.1 = T := ⟨_, rfl⟩
  rw [hT] at hm
  rw [hT]
  unfold wp_X1_fillByte at h
  refine ww_aload_n C dX1_fillByte_0 0 rfl ?_
  refine gf_BitWriter_bitsBegun C (q := c) (r := r) (by rw [hT]; exact hm) bw_589 dX1_fillByte_1 ?_
  refine ww_if_le (tgt := 19) C dX1_fillByte_4 (by decide) (fun q4 => ?_) (fun q4 => ?_)
  · replace h := h.1 q4
    exact ww_sub [] rfl (run_X1_fillByte_19 C hrt hm hr hT  h)
  · replace h := h.2 q4
    refine ww_aload_n C dX1_fillByte_7 0 rfl ?_
    refine ww_iconst (v := 0) C dX1_fillByte_8 (by decide) ?_
    refine ww_bipush (v := 8) C dX1_fillByte_9 (by decide) ?_
    refine ww_aload_n C dX1_fillByte_11 0 rfl ?_
    refine gf_BitWriter_bitsBegun C (q := c) (r := r) (by rw [hT]; exact hm) bw_589 dX1_fillByte_12 ?_
    refine ww_isub C dX1_fillByte_15 ?_
    refine ww_cVv (As := [.int 0, .int (8 - (S.2.1 (1000 + c) 1))]) (rest := []) C ok_X1_addBits bw_618 dX1_fillByte_16 (run_X1_addBits (c := c) (r := r) (by rw [hT]; exact hm) hr (fun _ => h)) (rc_BitWriter (q := c) (r := r) (by rw [hT]; exact hm)) rfl ⟨Nat.le_of_ble_eq_true rfl, Nat.le_of_ble_eq_true rfl⟩ (Nat.le_of_ble_eq_true rfl) (c2 := 0) (s2 := 0) rfl rfl ⟨Nat.le_of_ble_eq_true rfl, Nat.le_of_ble_eq_true rfl⟩ rfl (fun S5 hp hTg => ?_)
    replace h := hp
    have hT_S5 : S5.2.2.1 = T0 := by rw [hTg]; exact hT
    exact ww_sub [] rfl (run_X1_fillByte_19 C hrt hm hr hT_S5  h))
