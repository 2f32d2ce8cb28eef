abbrev rm_X10_isTooFar : Room := { frames := 0, cells := 0, slots := 0, locals := 0 }
theorem ok_X10_isTooFar : SOK yX10_isTooFar cX10_isTooFar 1 (some .boolean) 1 := ⟨bw_418, bw_61, bw_419, by decide +kernel⟩
def wp_X10_isTooFar_19 (x : Int32) (S : St) (s0 : Int32) (P : Int32 → St → Prop) : Prop :=
  ((s0 = 0 ∨ s0 = 1) ∧ P s0 S)
set_option maxHeartbeats 4000000 in
set_option maxRecDepth 100000 in
theorem run_X10_isTooFar_19 {f : Fx} {g : Gx} {T0 : List (Nat × Nat × Nat)} {S : St} {x : Int32} {P : Int32 → St → Prop} (C : Cx f g cX10_isTooFar 1 RX10) (hrt : (fmeth f).sig.returnType = (some .boolean))  {s0 : Int32} (hT : S.2.2.1 = T0)  (h : wp_X10_isTooFar_19 x S s0 P) : WW f rm_X10_isTooFar g 1 0 0 (Qi f g 0 0 T0 P) S 19 [] [.int s0] := by
  unfold wp_X10_isTooFar_19 at h
  exact ww_zret C hrt dX10_isTooFar_19 hT h.1 h.2
def wp_X10_isTooFar_14 (x : Int32) (S : St)  (P : Int32 → St → Prop) : Prop :=
  wp_X10_isTooFar_19 x S 1 P
set_option maxHeartbeats 4000000 in
set_option maxRecDepth 100000 in
theorem run_X10_isTooFar_14 {f : Fx} {g : Gx} {T0 : List (Nat × Nat × Nat)} {S : St} {x : Int32} {P : Int32 → St → Prop} (C : Cx f g cX10_isTooFar 1 RX10) (hrt : (fmeth f).sig.returnType = (some .boolean))   (hT : S.2.2.1 = T0)  (h : wp_X10_isTooFar_14 x S  P) : WW f rm_X10_isTooFar g 1 0 0 (Qi f g 0 0 T0 P) S 14 [] [] := by
  unfold wp_X10_isTooFar_14 at h
  refine ww_iconst (v := 1) C dX10_isTooFar_14 (by decide) ?_
  refine ww_goto (tgt := 19) C dX10_isTooFar_15 (by decide) ?_
  exact ww_sub [] rfl (run_X10_isTooFar_19 C hrt  hT  h)
def wp_X10_isTooFar (S : St) (x : Int32) (P : Int32 → St → Prop) : Prop :=
  ((x < ((-4000)) → wp_X10_isTooFar_14 x S  P) ∧ (¬ x < ((-4000)) → ((x ≤ 4000 → wp_X10_isTooFar_19 x S 0 P) ∧ (¬ x ≤ 4000 → wp_X10_isTooFar_14 x S  P))))
set_option maxHeartbeats 4000000 in
set_option maxRecDepth 100000 in
theorem run_X10_isTooFar {l : Launch} {g : Gx} {S : St} {x : Int32} {P : Int32 → St → Prop}  (h : rowsLe S → wp_X10_isTooFar S x P) : CMi g l yX10_isTooFar cX10_isTooFar 1 (some .boolean) rm_X10_isTooFar [.int x] S P := cm_entry (own := RX10) (plainFor_of_name (by decide)) rfl (Nat.le_of_ble_eq_true rfl) rfl (fun hle f hf C hrt => by
  subst hf
  replace h := h hle
  obtain ⟨T0, hT⟩ : ∃ T, S.2.2.1 = T := ⟨_, rfl⟩
  rw [hT]
  unfold wp_X10_isTooFar at h
  refine ww_iload_n C dX10_isTooFar_0 0 rfl ?_
  refine ww_sipush (v := (-4000)) C dX10_isTooFar_1 (by decide) ?_
  refine ww_icmp_lt (tgt := 14) C dX10_isTooFar_4 (by decide) (fun q3 => ?_) (fun q3 => ?_)
  · replace h := h.1 q3
    exact ww_sub [] rfl (run_X10_isTooFar_14 C hrt  hT  h)
  · replace h := h.2 q3
    refine ww_iload_n C dX10_isTooFar_7 0 rfl ?_
    refine ww_sipush (v := 4000) C dX10_isTooFar_8 (by decide) ?_
    refine ww_icmp_le (tgt := 18) C dX10_isTooFar_11 (by decide) (fun q4 => ?_) (fun q4 => ?_)
    · replace h := h.1 q4
      refine ww_iconst (v := 0) C dX10_isTooFar_18 (by decide) ?_
      exact ww_sub [] rfl (run_X10_isTooFar_19 C hrt  hT  h)
    · replace h := h.2 q4
      exact ww_sub [] rfl (run_X10_isTooFar_14 C hrt  hT  h))
abbrev rm_X5_tableOfMark : Room := { frames := 0, cells := 0, slots := 0, locals := 0 }
theorem ok_X5_tableOfMark : SOK yX5_tableOfMark cX5_tableOfMark 1 (some .int) 1 := ⟨bw_692, bw_66, bw_693, by decide +kernel⟩
def wp_X5_tableOfMark_33 (x : Int32) (S : St) (s0 : Int32) (P : Int32 → St → Prop) : Prop :=
  P s0 S
set_option maxHeartbeats 4000000 in
set_option maxRecDepth 100000 in
theorem run_X5_tableOfMark_33 {f : Fx} {g : Gx} {T0 : List (Nat × Nat × Nat)} {S : St} {x : Int32} {P : Int32 → St → Prop} (C : Cx f g cX5_tableOfMark 1 RX5) (hrt : (fmeth f).sig.returnType = (some .int))  {s0 : Int32} (hT : S.2.2.1 = T0)  (h : wp_X5_tableOfMark_33 x S s0 P) : WW f rm_X5_tableOfMark g 1 0 0 (Qi f g 0 0 T0 P) S 33 [] [.int s0] := by
  unfold wp_X5_tableOfMark_33 at h
  exact ww_iret C hrt dX5_tableOfMark_33 hT h
def wp_X5_tableOfMark_32 (x : Int32) (S : St)  (P : Int32 → St → Prop) : Prop :=
  wp_X5_tableOfMark_33 x S ((-1)) P
set_option maxHeartbeats 4000000 in
set_option maxRecDepth 100000 in
theorem run_X5_tableOfMark_32 {f : Fx} {g : Gx} {T0 : List (Nat × Nat × Nat)} {S : St} {x : Int32} {P : Int32 → St → Prop} (C : Cx f g cX5_tableOfMark 1 RX5) (hrt : (fmeth f).sig.returnType = (some .int))   (hT : S.2.2.1 = T0)  (h : wp_X5_tableOfMark_32 x S  P) : WW f rm_X5_tableOfMark g 1 0 0 (Qi f g 0 0 T0 P) S 32 [] [] := by
  unfold wp_X5_tableOfMark_32 at h
  refine ww_iconst (v := (-1)) C dX5_tableOfMark_32 (by decide) ?_
  exact ww_sub [] rfl (run_X5_tableOfMark_33 C hrt  hT  h)
def wp_X5_tableOfMark_12 (x : Int32) (S : St)  (P : Int32 → St → Prop) : Prop :=
  P (x - 64) S
set_option maxHeartbeats 4000000 in
set_option maxRecDepth 100000 in
theorem run_X5_tableOfMark_12 {f : Fx} {g : Gx} {T0 : List (Nat × Nat × Nat)} {S : St} {x : Int32} {P : Int32 → St → Prop} (C : Cx f g cX5_tableOfMark 1 RX5) (hrt : (fmeth f).sig.returnType = (some .int))   (hT : S.2.2.1 = T0)  (h : wp_X5_tableOfMark_12 x S  P) : WW f rm_X5_tableOfMark g 1 0 0 (Qi f g 0 0 T0 P) S 12 [(0, .int x)] [] := by
  unfold wp_X5_tableOfMark_12 at h
  refine ww_iload_n C dX5_tableOfMark_12 0 rfl ?_
  refine ww_bipush (v := 64) C dX5_tableOfMark_13 (by decide) ?_
  refine ww_isub C dX5_tableOfMark_15 ?_
  exact ww_iret C hrt dX5_tableOfMark_16 hT h
def wp_X5_tableOfMark (S : St) (x : Int32) (P : Int32 → St → Prop) : Prop :=
  ((x = 64 → wp_X5_tableOfMark_12 x S  P) ∧ (¬ x = 64 → ((¬ x = 65 → ((x < 2 → wp_X5_tableOfMark_32 x S  P) ∧ (¬ x < 2 → ((7 ≤ x → wp_X5_tableOfMark_32 x S  P) ∧ (¬ 7 ≤ x → wp_X5_tableOfMark_33 x S x P))))) ∧ (x = 65 → wp_X5_tableOfMark_12 x S  P))))
set_option maxHeartbeats 4000000 in
set_option maxRecDepth 100000 in
theorem run_X5_tableOfMark {l : Launch} {g : Gx} {S : St} {x : Int32} {P : Int32 → St → Prop}  (h : rowsLe S → wp_X5_tableOfMark S x P) : CMi g l yX5_tableOfMark cX5_tableOfMark 1 (some .int) rm_X5_tableOfMark [.int x] S P := cm_entry (own := RX5) (plainFor_of_name (by decide)) rfl (Nat.le_of_ble_eq_true rfl) rfl (fun hle f hf C hrt => by
  subst hf
  replace h := h hle
  obtain ⟨T0, hT⟩ : ∃ T, S.2.2.1 = T := ⟨_, rfl⟩
  rw [hT]
  unfold wp_X5_tableOfMark at h
  refine ww_iload_n C dX5_tableOfMark_0 0 rfl ?_
  refine ww_bipush (v := 64) C dX5_tableOfMark_1 (by decide) ?_
  refine ww_icmp_eq (tgt := 12) C dX5_tableOfMark_3 (by decide) (fun q5 => ?_) (fun q5 => ?_)
  · replace h := h.1 q5
    exact ww_sub [0] rfl (run_X5_tableOfMark_12 C hrt  hT  h)
  · replace h := h.2 q5
    refine ww_iload_n C dX5_tableOfMark_6 0 rfl ?_
    refine ww_bipush (v := 65) C dX5_tableOfMark_7 (by decide) ?_
    refine ww_icmp_ne (tgt := 17) C dX5_tableOfMark_9 (by decide) (fun q6 => ?_) (fun q6 => ?_)
    · replace h := h.1 q6
      refine ww_iload_n C dX5_tableOfMark_17 0 rfl ?_
      refine ww_iconst (v := 2) C dX5_tableOfMark_18 (by decide) ?_
      refine ww_icmp_lt (tgt := 32) C dX5_tableOfMark_19 (by decide) (fun q7 => ?_) (fun q7 => ?_)
      · replace h := h.1 q7
        exact ww_sub [] rfl (run_X5_tableOfMark_32 C hrt  hT  h)
      · replace h := h.2 q7
        refine ww_iload_n C dX5_tableOfMark_22 0 rfl ?_
        refine ww_bipush (v := 7) C dX5_tableOfMark_23 (by decide) ?_
        refine ww_icmp_ge (tgt := 32) C dX5_tableOfMark_25 (by decide) (fun q8 => ?_) (fun q8 => ?_)
        · replace h := h.1 q8
          exact ww_sub [] rfl (run_X5_tableOfMark_32 C hrt  hT  h)
        · replace h := h.2 q8
          refine ww_iload_n C dX5_tableOfMark_28 0 rfl ?_
          refine ww_goto (tgt := 33) C dX5_tableOfMark_29 (by decide) ?_
          exact ww_sub [] rfl (run_X5_tableOfMark_33 C hrt  hT  h)
    · replace h := h.2 q6
      exact ww_sub [0] rfl (run_X5_tableOfMark_12 C hrt  hT  h))
def fv_X5_tableOfMark_33 (S : St) (x : Int32) (s0 : Int32) : Int32 := s0
set_option maxHeartbeats 4000000 in
set_option maxRecDepth 100000 in
theorem sp_X5_tableOfMark_33 {S : St} {x : Int32} {s0 : Int32} {P : Int32 → St → Prop} (h : P (fv_X5_tableOfMark_33 S x s0) S) : wp_X5_tableOfMark_33 x S s0 P := by
  unfold wp_X5_tableOfMark_33
  unfold fv_X5_tableOfMark_33 at h
  exact h
def fv_X5_tableOfMark_32 (S : St) (x : Int32)  : Int32 := (fv_X5_tableOfMark_33 S x (((-1))))
set_option maxHeartbeats 4000000 in
set_option maxRecDepth 100000 in
theorem sp_X5_tableOfMark_32 {S : St} {x : Int32}  {P : Int32 → St → Prop} (h : P (fv_X5_tableOfMark_32 S x ) S) : wp_X5_tableOfMark_32 x S  P := by
  unfold wp_X5_tableOfMark_32
  unfold fv_X5_tableOfMark_32 at h
  exact sp_X5_tableOfMark_33 h
def fv_X5_tableOfMark_12 (S : St) (x : Int32)  : Int32 := (x - 64)
set_option maxHeartbeats 4000000 in
set_option maxRecDepth 100000 in
theorem sp_X5_tableOfMark_12 {S : St} {x : Int32}  {P : Int32 → St → Prop} (h : P (fv_X5_tableOfMark_12 S x ) S) : wp_X5_tableOfMark_12 x S  P := by
  unfold wp_X5_tableOfMark_12
  unfold fv_X5_tableOfMark_12 at h
  exact h
def fv_X5_tableOfMark (S : St) (x : Int32)  : Int32 := (if x = 64 then (fv_X5_tableOfMark_12 S x) else (if x = 65 then (fv_X5_tableOfMark_12 S x) else (if x < 2 then (fv_X5_tableOfMark_32 S x) else (if 7 ≤ x then (fv_X5_tableOfMark_32 S x) else (fv_X5_tableOfMark_33 S x x)))))
set_option maxHeartbeats 4000000 in
set_option maxRecDepth 100000 in
theorem sp_X5_tableOfMark {S : St} {x : Int32}  {P : Int32 → St → Prop} (h : P (fv_X5_tableOfMark S x ) S) : wp_X5_tableOfMark S x P := by
  unfold wp_X5_tableOfMark
  unfold fv_X5_tableOfMark at h
  refine ⟨fun q5 => ?_, fun q5 => ?_⟩
  · simp only [if_pos q5] at h
    exact sp_X5_tableOfMark_12 h
  · simp only [if_neg q5] at h
    refine ⟨fun q6 => ?_, fun q6 => ?_⟩
    · simp only [if_neg q6] at h
      refine ⟨fun q7 => ?_, fun q7 => ?_⟩
      · simp only [if_pos q7] at h
        exact sp_X5_tableOfMark_32 h
      · simp only [if_neg q7] at h
        refine ⟨fun q8 => ?_, fun q8 => ?_⟩
        · simp only [if_pos q8] at h
          exact sp_X5_tableOfMark_32 h
        · simp only [if_neg q8] at h
          exact sp_X5_tableOfMark_33 h
    · simp only [if_pos q6] at h
      exact sp_X5_tableOfMark_12 h
theorem cm_X5_tableOfMark {l : Launch} {g : Gx} {S : St} {x : Int32}  : CMi g l yX5_tableOfMark cX5_tableOfMark 1 (some .int) rm_X5_tableOfMark [.int x] S (fun v S2 => v = fv_X5_tableOfMark S x ∧ S2 = S) := run_X5_tableOfMark  (fun _ => sp_X5_tableOfMark ⟨rfl, rfl⟩)
abbrev rm_X5_signed : Room := { frames := 0, cells := 0, slots := 0, locals := 0 }
theorem ok_X5_signed : SOK yX5_signed cX5_signed 2 (some .int) 2 := ⟨bw_796, bw_66, bw_797, by decide +kernel⟩
def wp_X5_signed_11 (x : Int32) (y : Int32) (S : St) (s0 : Int32) (P : Int32 → St → Prop) : Prop :=
  P s0 S
set_option maxHeartbeats 4000000 in
set_option maxRecDepth 100000 in
theorem run_X5_signed_11 {f : Fx} {g : Gx} {T0 : List (Nat × Nat × Nat)} {S : St} {x : Int32} {y : Int32} {P : Int32 → St → Prop} (C : Cx f g cX5_signed 2 RX5) (hrt : (fmeth f).sig.returnType = (some .int))  {s0 : Int32} (hT : S.2.2.1 = T0)  (h : wp_X5_signed_11 x y S s0 P) : WW f rm_X5_signed g 2 0 0 (Qi f g 0 0 T0 P) S 11 [] [.int s0] := by
  unfold wp_X5_signed_11 at h
  exact ww_iret C hrt dX5_signed_11 hT h
def wp_X5_signed (S : St) (x : Int32) (y : Int32) (P : Int32 → St → Prop) : Prop :=
  ((¬ y = 1 → wp_X5_signed_11 x y S (-x) P) ∧ (y = 1 → wp_X5_signed_11 x y S x P))
set_option maxHeartbeats 4000000 in
set_option maxRecDepth 100000 in
theorem run_X5_signed {l : Launch} {g : Gx} {S : St} {x : Int32} {y : Int32} {P : Int32 → St → Prop}  (h : rowsLe S → wp_X5_signed S x y P) : CMi g l yX5_signed cX5_signed 2 (some .int) rm_X5_signed [.int x, .int y] S P := cm_entry (own := RX5) (plainFor_of_name (by decide)) rfl (Nat.le_of_ble_eq_true rfl) rfl (fun hle f hf C hrt => by
  subst hf
  replace h := h hle
  obtain ⟨T0, hT⟩ : ∃ T, S.2.2.1 = T := ⟨_, rfl⟩
  rw [hT]
  unfold wp_X5_signed at h
  refine ww_iload_n C dX5_signed_0 1 rfl ?_
  refine ww_iconst (v := 1) C dX5_signed_1 (by decide) ?_
  refine ww_icmp_ne (tgt := 9) C dX5_signed_2 (by decide) (fun q2 => ?_) (fun q2 => ?_)
  · replace h := h.1 q2
    refine ww_iload_n C dX5_signed_9 0 rfl ?_
    refine ww_ineg C dX5_signed_10 ?_
    exact ww_sub [] rfl (run_X5_signed_11 C hrt  hT  h)
  · replace h := h.2 q2
    refine ww_iload_n C dX5_signed_5 0 rfl ?_
    refine ww_goto (tgt := 11) C dX5_signed_6 (by decide) ?_
    exact ww_sub [] rfl (run_X5_signed_11 C hrt  hT  h))
def fv_X5_signed_11 (S : St) (x : Int32) (y : Int32) (s0 : Int32) : Int32 := s0
set_option maxHeartbeats 4000000 in
set_option maxRecDepth 100000 in
theorem sp_X5_signed_11 {S : St} {x : Int32} {y : Int32} {s0 : Int32} {P : Int32 → St → Prop} (h : P (fv_X5_signed_11 S x y s0) S) : wp_X5_signed_11 x y S s0 P := by
  unfold wp_X5_signed_11
  unfold fv_X5_signed_11 at h
  exact h
def fv_X5_signed (S : St) (x : Int32) (y : Int32)  : Int32 := (if y = 1 then (fv_X5_signed_11 S x y x) else (fv_X5_signed_11 S x y ((-x))))
set_option maxHeartbeats 4000000 in
set_option maxRecDepth 100000 in
theorem sp_X5_signed {S : St} {x : Int32} {y : Int32}  {P : Int32 → St → Prop} (h : P (fv_X5_signed S x y ) S) : wp_X5_signed S x y P := by
  unfold wp_X5_signed
  unfold fv_X5_signed at h
  refine ⟨fun q2 => ?_, fun q2 => ?_⟩
  · simp only [if_neg q2] at h
    exact sp_X5_signed_11 h
  · simp only [if_pos q2] at h
    exact sp_X5_signed_11 h
theorem cm_X5_signed {l : Launch} {g : Gx} {S : St} {x : Int32} {y : Int32}  : CMi g l yX5_signed cX5_signed 2 (some .int) rm_X5_signed [.int x, .int y] S (fun v S2 => v = fv_X5_signed S x y ∧ S2 = S) := run_X5_signed  (fun _ => sp_X5_signed ⟨rfl, rfl⟩)
abbrev rm_X5_takeStep : Room := { frames := 1, cells := 0, slots := 0, locals := 21 }
theorem ok_X5_takeStep : MOK yX5_takeStep RX5 cX5_takeStep 4 none 3 := ⟨bw_800, bw_12, bw_66, bw_801, by decide +kernel⟩
def wp_X5_takeStep (S : St) (a : Int32) (b : Int32) (w : Int32) (P : St → Prop) : Prop :=
  ∀ S3 : St, S3 = stM S 2 2 (fv_X5_signed S a (w - w / 2 * 2)) → ∀ S4 : St, S4 = stM S3 2 3 (fv_X5_signed S3 b ((w / 2) - (w / 2) / 2 * 2)) → P S4
set_option maxHeartbeats 4000000 in
set_option maxRecDepth 100000 in
theorem run_X5_takeStep {l : Launch} {g : Gx} {S : St} {a : Int32} {b : Int32} {w : Int32} {P : St → Prop}  (h : rowsLe S → wp_X5_takeStep S a b w P) : CMv g l yX5_takeStep cX5_takeStep 4 none rm_X5_takeStep [.ref (gad g 156), .int a, .int b, .int w] S P := cm_entry (own := RX5) (plainFor_of_name (by decide)) rfl (Nat.le_of_ble_eq_true rfl) rfl (fun hle f hf C hrt => by
  subst hf
  replace h := h hle
  obtain ⟨T0, hT⟩ : ∃ T, S.2.2.1 = T := ⟨_, rfl⟩
  rw [hT]
  unfold wp_X5_takeStep at h
  refine ww_aload_n C dX5_takeStep_0 0 rfl ?_
  refine ww_iload_n C dX5_takeStep_1 1 rfl ?_
  refine ww_iload_n C dX5_takeStep_2 3 rfl ?_
  refine ww_iconst (v := 2) C dX5_takeStep_3 (by decide) ?_
  refine ww_irem C dX5_takeStep_4 (by decide) ?_
  refine ww_cSf (As := [.int a, .int (w - w / 2 * 2)]) (rest := [.ref (gad g 156)]) C ok_X5_signed bw_795 dX5_takeStep_5 cm_X5_signed rfl ⟨Nat.le_of_ble_eq_true rfl, Nat.le_of_ble_eq_true rfl⟩ (Nat.le_of_ble_eq_true rfl) (c2 := 0) (s2 := 0) rfl rfl ⟨Nat.le_of_ble_eq_true rfl, Nat.le_of_ble_eq_true rfl⟩ rfl ?_
  refine pf_PackedReader_dx C bw_145 dX5_takeStep_8 ?_
  refine ww_nm (fun S3 e_S3 => ?_)
  replace h := h S3 e_S3
  have hT_S3 : S3.2.2.1 = T0 := by rw [e_S3]; exact hT
  refine ww_aload_n C dX5_takeStep_11 0 rfl ?_
  refine ww_iload_n C dX5_takeStep_12 2 rfl ?_
  refine ww_iload_n C dX5_takeStep_13 3 rfl ?_
  refine ww_iconst (v := 2) C dX5_takeStep_14 (by decide) ?_
  refine ww_idiv C dX5_takeStep_15 (by decide) ?_
  refine ww_iconst (v := 2) C dX5_takeStep_16 (by decide) ?_
  refine ww_irem C dX5_takeStep_17 (by decide) ?_
  refine ww_cSf (As := [.int b, .int ((w / 2) - (w / 2) / 2 * 2)]) (rest := [.ref (gad g 156)]) C ok_X5_signed bw_795 dX5_takeStep_18 cm_X5_signed rfl ⟨Nat.le_of_ble_eq_true rfl, Nat.le_of_ble_eq_true rfl⟩ (Nat.le_of_ble_eq_true rfl) (c2 := 0) (s2 := 0) rfl rfl ⟨Nat.le_of_ble_eq_true rfl, Nat.le_of_ble_eq_true rfl⟩ rfl ?_
  refine pf_PackedReader_dy C bw_146 dX5_takeStep_21 ?_
  refine ww_nm (fun S4 e_S4 => ?_)
  replace h := h S4 e_S4
  have hT_S4 : S4.2.2.1 = T0 := by rw [e_S4]; exact hT_S3
  exact ww_vret C hrt dX5_takeStep_24 hT_S4 h)
def fs_X5_takeStep (S : St) (a : Int32) (b : Int32) (w : Int32)  : St := ((stM (stM S 2 2 (fv_X5_signed S a (w - w / 2 * 2))) 2 3 (fv_X5_signed (stM S 2 2 (fv_X5_signed S a (w - w / 2 * 2))) b ((w / 2) - (w / 2) / 2 * 2))))
set_option maxHeartbeats 4000000 in
set_option maxRecDepth 100000 in
theorem sp_X5_takeStep {S : St} {a : Int32} {b : Int32} {w : Int32}  {P : St → Prop} (h : P  (fs_X5_takeStep S a b w )) : wp_X5_takeStep S a b w P := by
  unfold wp_X5_takeStep
  unfold fs_X5_takeStep at h
  intro S3 e_S3
  subst e_S3
  intro S4 e_S4
  subst e_S4
  exact h
theorem cm_X5_takeStep {l : Launch} {g : Gx} {S : St} {a : Int32} {b : Int32} {w : Int32}  : CMv g l yX5_takeStep cX5_takeStep 4 none rm_X5_takeStep [.ref (gad g 156), .int a, .int b, .int w] S (fun S2 => S2 = fs_X5_takeStep S a b w) := run_X5_takeStep  (fun _ => sp_X5_takeStep rfl)
abbrev rm_X5_readStep : Room := { frames := 2, cells := 0, slots := 0, locals := 44 }
theorem ok_X5_readStep : MOK yX5_readStep RX5 cX5_readStep 5 none 2 := ⟨bw_793, bw_11, bw_66, bw_794, by decide +kernel⟩
def wp_X5_readStep_271 (w : Int32) (c : Nat) (r : Nat) (S : St)  (P : St → Prop) : Prop :=
  P S
set_option maxHeartbeats 4000000 in
set_option maxRecDepth 100000 in
theorem run_X5_readStep_271 {f : Fx} {g : Gx} {T0 : List (Nat × Nat × Nat)} {S : St} {w : Int32} {c : Nat} {r : Nat} {P : St → Prop} (C : Cx f g cX5_readStep 5 RX5) (hrt : (fmeth f).sig.returnType = none) (hm : (c, 2, r) ∈ T0) (hr : r < 68)  (hT : S.2.2.1 = T0)  (h : wp_X5_readStep_271 w c r S  P) : WW f rm_X5_readStep g 5 0 0 (Qv f g 0 0 T0 P) S 271 [] [] := by
  unfold wp_X5_readStep_271 at h
  exact ww_vret C hrt dX5_readStep_271 hT h
def wp_X5_readStep (S : St) (w : Int32) (c : Nat) (r : Nat) (P : St → Prop) : Prop :=
  ((10 ≤ w → ((20 ≤ w → ((84 ≤ w → ((120 ≤ w → ((124 ≤ w → ∀ (r48 : Int32) (S47 : St), r48 = fv_X2_next S c r → S47 = fs_X2_next S c r → ∀ x49 : Int32, x49 = r48 * 256 → ∀ (r51 : Int32) (S50 : St), r51 = fv_X2_next S47 c r → S50 = fs_X2_next S47 c r → ∀ x52 : Int32, x52 = x49 + r51 → ∀ (r54 : Int32) (S53 : St), r54 = fv_X2_next S50 c r → S53 = fs_X2_next S50 c r → ∀ x55 : Int32, x55 = r54 * 256 → ∀ (r57 : Int32) (S56 : St), r57 = fv_X2_next S53 c r → S56 = fs_X2_next S53 c r → ∀ S58 : St, S58 = fs_X5_takeStep S56 x52 (x55 + r57) w → wp_X5_readStep_271 w c r S58  P) ∧ (¬ 124 ≤ w → ∀ (r60 : Int32) (S59 : St), r60 = fv_X2_next S c r → S59 = fs_X2_next S c r → ∀ (r62 : Int32) (S61 : St), r62 = fv_X2_next S59 c r → S61 = fs_X2_next S59 c r → ∀ (r64 : Int32) (S63 : St), r64 = fv_X2_next S61 c r → S63 = fs_X2_next S61 c r → ∀ S65 : St, S65 = fs_X5_takeStep S63 ((r60 * 16) + (r62 / 16)) (((r62 - r62 / 16 * 16) * 256) + r64) w → wp_X5_readStep_271 w c r S65  P))) ∧ (¬ 120 ≤ w → ∀ (r67 : Int32) (S66 : St), r67 = fv_X2_next S c r → S66 = fs_X2_next S c r → ∀ x68 : Int32, x68 = (1 + (((w - 84) / 12) * 256)) + r67 → ∀ (r70 : Int32) (S69 : St), r70 = fv_X2_next S66 c r → S69 = fs_X2_next S66 c r → ∀ S71 : St, S71 = fs_X5_takeStep S69 x68 ((1 + ((((w - 84) - (w - 84) / 12 * 12) / 4) * 256)) + r70) w → wp_X5_readStep_271 w c r S71  P))) ∧ (¬ 84 ≤ w → ∀ (r73 : Int32) (S72 : St), r73 = fv_X2_next S c r → S72 = fs_X2_next S c r → ∀ S74 : St, S74 = fs_X5_takeStep S72 ((1 + (((w - 20) / 16) * 16)) + (r73 / 16)) ((1 + ((((w - 20) / 4) - ((w - 20) / 4) / 4 * 4) * 16)) + (r73 - r73 / 16 * 16)) w → wp_X5_readStep_271 w c r S74  P))) ∧ (¬ 20 ≤ w → ∀ (r76 : Int32) (S75 : St), r76 = fv_X2_next S c r → S75 = fs_X2_next S c r → ∀ S77 : St, S77 = stM S75 2 2 (fv_X5_signed S75 ((((w - 10) / 2) * 256) + r76) (w - w / 2 * 2)) → ∀ S78 : St, S78 = stM S77 2 3 0 → wp_X5_readStep_271 w c r S78  P))) ∧ (¬ 10 ≤ w → ∀ S79 : St, S79 = stM S 2 2 0 → ∀ (r81 : Int32) (S80 : St), r81 = fv_X2_next S79 c r → S80 = fs_X2_next S79 c r → ∀ S82 : St, S82 = stM S80 2 3 (fv_X5_signed S80 (((w / 2) * 256) + r81) (w - w / 2 * 2)) → wp_X5_readStep_271 w c r S82  P))
set_option maxHeartbeats 4000000 in
set_option maxRecDepth 100000 in
theorem run_X5_readStep {l : Launch} {g : Gx} {S : St} {w : Int32} {c : Nat} {r : Nat} {P : St → Prop} (hm : (c, 2, r) ∈ S.2.2.1) (hr : r < 68) (h : rowsLe S → wp_X5_readStep S w c r P) : CMv g l yX5_readStep cX5_readStep 5 none rm_X5_readStep [.ref (gad g 156), .int w, .ref c] S P := cm_entry (own := RX5) (plainFor_of_name (by decide)) rfl (Nat.le_of_ble_eq_true rfl) rfl (fun hle f hf C hrt => by
  subst hf
  replace h := h hle
  obtain ⟨T0, hT⟩ : ∃ T, S.2.2.1 = T := ⟨_, rfl⟩
  rw [hT] at hm
  rw [hT]
  unfold wp_X5_readStep at h
  refine ww_iload_n C dX5_readStep_0 1 rfl ?_
  refine ww_bipush (v := 10) C dX5_readStep_1 (by decide) ?_
  refine ww_icmp_ge (tgt := 36) C dX5_readStep_3 (by decide) (fun q42 => ?_) (fun q42 => ?_)
  · replace h := h.1 q42
    refine ww_iload_n C dX5_readStep_36 1 rfl ?_
    refine ww_bipush (v := 20) C dX5_readStep_37 (by decide) ?_
    refine ww_icmp_ge (tgt := 75) C dX5_readStep_39 (by decide) (fun q43 => ?_) (fun q43 => ?_)
    · replace h := h.1 q43
      refine ww_iload_n C dX5_readStep_75 1 rfl ?_
      refine ww_bipush (v := 84) C dX5_readStep_76 (by decide) ?_
      refine ww_icmp_ge (tgt := 129) C dX5_readStep_78 (by decide) (fun q44 => ?_) (fun q44 => ?_)
      · replace h := h.1 q44
        refine ww_iload_n C dX5_readStep_129 1 rfl ?_
        refine ww_bipush (v := 120) C dX5_readStep_130 (by decide) ?_
        refine ww_icmp_ge (tgt := 183) C dX5_readStep_132 (by decide) (fun q45 => ?_) (fun q45 => ?_)
        · replace h := h.1 q45
          refine ww_iload_n C dX5_readStep_183 1 rfl ?_
          refine ww_bipush (v := 124) C dX5_readStep_184 (by decide) ?_
          refine ww_icmp_ge (tgt := 232) C dX5_readStep_186 (by decide) (fun q46 => ?_) (fun q46 => ?_)
          · replace h := h.1 q46
            refine ww_aload_n C dX5_readStep_232 2 rfl ?_
            refine ww_cVi (As := []) (rest := []) C ok_X2_next bw_684 dX5_readStep_233 (cm_X2_next (c := c) (r := r) (by rw [hT]; exact hm) hr) (rc_Cursor (q := c) (r := r) (by rw [hT]; exact hm)) rfl ⟨Nat.le_of_ble_eq_true rfl, Nat.le_of_ble_eq_true rfl⟩ (Nat.le_of_ble_eq_true rfl) (c2 := 0) (s2 := 0) rfl rfl ⟨Nat.le_of_ble_eq_true rfl, Nat.le_of_ble_eq_true rfl⟩ rfl (fun r48 S47 hp hTg => ?_)
            obtain ⟨e_r48, e_S47⟩ := hp
            replace h := h r48 S47 e_r48 e_S47
            have hT_S47 : S47.2.2.1 = T0 := by rw [hTg]; exact hT
            refine ww_sipush (v := 256) C dX5_readStep_236 (by decide) ?_
            refine ww_imul C dX5_readStep_239 ?_
            refine ww_topi (fun x49 e_x49 => ?_)
            replace h := h x49 e_x49
            refine ww_istore_n (lv2 := [(3, .int x49), (0, .ref (gad g 156)), (1, .int w), (2, .ref c)]) C dX5_readStep_240 rfl (Nat.le_of_ble_eq_true rfl) rfl ?_
            refine ww_iload_n C dX5_readStep_241 0 rfl ?_
            refine ww_aload_n C dX5_readStep_242 3 rfl ?_
            refine ww_cVi (As := []) (rest := [.int x49]) C ok_X2_next bw_684 dX5_readStep_243 (cm_X2_next (c := c) (r := r) (by rw [hT_S47]; exact hm) hr) (rc_Cursor (q := c) (r := r) (by rw [hT_S47]; exact hm)) rfl ⟨Nat.le_of_ble_eq_true rfl, Nat.le_of_ble_eq_true rfl⟩ (Nat.le_of_ble_eq_true rfl) (c2 := 0) (s2 := 0) rfl rfl ⟨Nat.le_of_ble_eq_true rfl, Nat.le_of_ble_eq_true rfl⟩ rfl (fun r51 S50 hp hTg => ?_)
            obtain ⟨e_r51, e_S50⟩ := hp
            replace h := h r51 S50 e_r51 e_S50
            have hT_S50 : S50.2.2.1 = T0 := by rw [hTg]; exact hT_S47
            refine ww_iadd C dX5_readStep_246 ?_
            refine ww_topi (fun x52 e_x52 => ?_)
            replace h := h x52 e_x52
            refine ww_istore_n (lv2 := [(3, .int x52), (0, .ref (gad g 156)), (1, .int w), (2, .ref c)]) C dX5_readStep_247 rfl (Nat.le_of_ble_eq_true rfl) rfl ?_
            refine ww_aload_n C dX5_readStep_248 3 rfl ?_
            refine ww_cVi (As := []) (rest := []) C ok_X2_next bw_684 dX5_readStep_249 (cm_X2_next (c := c) (r := r) (by rw [hT_S50]; exact hm) hr) (rc_Cursor (q := c) (r := r) (by rw [hT_S50]; exact hm)) rfl ⟨Nat.le_of_ble_eq_true rfl, Nat.le_of_ble_eq_true rfl⟩ (Nat.le_of_ble_eq_true rfl) (c2 := 0) (s2 := 0) rfl rfl ⟨Nat.le_of_ble_eq_true rfl, Nat.le_of_ble_eq_true rfl⟩ rfl (fun r54 S53 hp hTg => ?_)
            obtain ⟨e_r54, e_S53⟩ := hp
            replace h := h r54 S53 e_r54 e_S53
            have hT_S53 : S53.2.2.1 = T0 := by rw [hTg]; exact hT_S50
            refine ww_sipush (v := 256) C dX5_readStep_252 (by decide) ?_
            refine ww_imul C dX5_readStep_255 ?_
            refine ww_topi (fun x55 e_x55 => ?_)
            replace h := h x55 e_x55
            refine ww_istore (lv2 := [(4, .int x55), (3, .int x52), (0, .ref (gad g 156)), (1, .int w), (2, .ref c)]) C dX5_readStep_256 (Nat.le_of_ble_eq_true rfl) rfl ?_
            refine ww_aload_n C dX5_readStep_258 2 rfl ?_
            refine ww_iload_n C dX5_readStep_259 1 rfl ?_
            refine ww_iload C dX5_readStep_260 0 rfl ?_
            refine ww_aload_n C dX5_readStep_262 4 rfl ?_
            refine ww_cVi (As := []) (rest := [.int x55, .int x52, .ref (gad g 156)]) C ok_X2_next bw_684 dX5_readStep_263 (cm_X2_next (c := c) (r := r) (by rw [hT_S53]; exact hm) hr) (rc_Cursor (q := c) (r := r) (by rw [hT_S53]; exact hm)) rfl ⟨Nat.le_of_ble_eq_true rfl, Nat.le_of_ble_eq_true rfl⟩ (Nat.le_of_ble_eq_true rfl) (c2 := 0) (s2 := 0) rfl rfl ⟨Nat.le_of_ble_eq_true rfl, Nat.le_of_ble_eq_true rfl⟩ rfl (fun r57 S56 hp hTg => ?_)
            obtain ⟨e_r57, e_S56⟩ := hp
            replace h := h r57 S56 e_r57 e_S56
            have hT_S56 : S56.2.2.1 = T0 := by rw [hTg]; exact hT_S53
            refine ww_iadd C dX5_readStep_266 ?_
            refine ww_iload_n C dX5_readStep_267 3 rfl ?_
            refine ww_cVg (As := [.int x52, .int (x55 + r57), .int w]) (rest := []) C ok_X5_takeStep bw_798 dX5_readStep_268 cm_X5_takeStep rc_PackedReader rfl ⟨Nat.le_of_ble_eq_true rfl, Nat.le_of_ble_eq_true rfl⟩ (Nat.le_of_ble_eq_true rfl) (c2 := 0) (s2 := 0) rfl rfl ⟨Nat.le_of_ble_eq_true rfl, Nat.le_of_ble_eq_true rfl⟩ rfl (fun hTg => ?_)
            refine ww_nm (fun S58 e_S58 => ?_)
            replace h := h S58 e_S58
            have hT_S58 : S58.2.2.1 = T0 := by rw [e_S58, hTg]; exact hT_S56
            exact ww_sub [] rfl (run_X5_readStep_271 C hrt hm hr hT_S58  h)
          · replace h := h.2 q46
            refine ww_aload_n C dX5_readStep_189 2 rfl ?_
            refine ww_cVi (As := []) (rest := []) C ok_X2_next bw_684 dX5_readStep_190 (cm_X2_next (c := c) (r := r) (by rw [hT]; exact hm) hr) (rc_Cursor (q := c) (r := r) (by rw [hT]; exact hm)) rfl ⟨Nat.le_of_ble_eq_true rfl, Nat.le_of_ble_eq_true rfl⟩ (Nat.le_of_ble_eq_true rfl) (c2 := 0) (s2 := 0) rfl rfl ⟨Nat.le_of_ble_eq_true rfl, Nat.le_of_ble_eq_true rfl⟩ rfl (fun r60 S59 hp hTg => ?_)
            obtain ⟨e_r60, e_S59⟩ := hp
            replace h := h r60 S59 e_r60 e_S59
            have hT_S59 : S59.2.2.1 = T0 := by rw [hTg]; exact hT
            refine ww_istore_n (lv2 := [(3, .int r60), (0, .ref (gad g 156)), (1, .int w), (2, .ref c)]) C dX5_readStep_193 rfl (Nat.le_of_ble_eq_true rfl) rfl ?_
            refine ww_aload_n C dX5_readStep_194 3 rfl ?_
            refine ww_cVi (As := []) (rest := []) C ok_X2_next bw_684 dX5_readStep_195 (cm_X2_next (c := c) (r := r) (by rw [hT_S59]; exact hm) hr) (rc_Cursor (q := c) (r := r) (by rw [hT_S59]; exact hm)) rfl ⟨Nat.le_of_ble_eq_true rfl, Nat.le_of_ble_eq_true rfl⟩ (Nat.le_of_ble_eq_true rfl) (c2 := 0) (s2 := 0) rfl rfl ⟨Nat.le_of_ble_eq_true rfl, Nat.le_of_ble_eq_true rfl⟩ rfl (fun r62 S61 hp hTg => ?_)
            obtain ⟨e_r62, e_S61⟩ := hp
            replace h := h r62 S61 e_r62 e_S61
            have hT_S61 : S61.2.2.1 = T0 := by rw [hTg]; exact hT_S59
            refine ww_istore (lv2 := [(4, .int r62), (3, .int r60), (0, .ref (gad g 156)), (1, .int w), (2, .ref c)]) C dX5_readStep_198 (Nat.le_of_ble_eq_true rfl) rfl ?_
            refine ww_aload_n C dX5_readStep_200 2 rfl ?_
            refine ww_iload_n C dX5_readStep_201 1 rfl ?_
            refine ww_bipush (v := 16) C dX5_readStep_202 (by decide) ?_
            refine ww_imul C dX5_readStep_204 ?_
            refine ww_iload C dX5_readStep_205 0 rfl ?_
            refine ww_bipush (v := 16) C dX5_readStep_207 (by decide) ?_
            refine ww_idiv C dX5_readStep_209 (by decide) ?_
            refine ww_iadd C dX5_readStep_210 ?_
            refine ww_iload C dX5_readStep_211 0 rfl ?_
            refine ww_bipush (v := 16) C dX5_readStep_213 (by decide) ?_
            refine ww_irem C dX5_readStep_215 (by decide) ?_
            refine ww_sipush (v := 256) C dX5_readStep_216 (by decide) ?_
            refine ww_imul C dX5_readStep_219 ?_
            refine ww_aload_n C dX5_readStep_220 4 rfl ?_
            refine ww_cVi (As := []) (rest := [.int ((r62 - r62 / 16 * 16) * 256), .int ((r60 * 16) + (r62 / 16)), .ref (gad g 156)]) C ok_X2_next bw_684 dX5_readStep_221 (cm_X2_next (c := c) (r := r) (by rw [hT_S61]; exact hm) hr) (rc_Cursor (q := c) (r := r) (by rw [hT_S61]; exact hm)) rfl ⟨Nat.le_of_ble_eq_true rfl, Nat.le_of_ble_eq_true rfl⟩ (Nat.le_of_ble_eq_true rfl) (c2 := 0) (s2 := 0) rfl rfl ⟨Nat.le_of_ble_eq_true rfl, Nat.le_of_ble_eq_true rfl⟩ rfl (fun r64 S63 hp hTg => ?_)
            obtain ⟨e_r64, e_S63⟩ := hp
            replace h := h r64 S63 e_r64 e_S63
            have hT_S63 : S63.2.2.1 = T0 := by rw [hTg]; exact hT_S61
            refine ww_iadd C dX5_readStep_224 ?_
            refine ww_iload_n C dX5_readStep_225 3 rfl ?_
            refine ww_cVg (As := [.int ((r60 * 16) + (r62 / 16)), .int (((r62 - r62 / 16 * 16) * 256) + r64), .int w]) (rest := []) C ok_X5_takeStep bw_798 dX5_readStep_226 cm_X5_takeStep rc_PackedReader rfl ⟨Nat.le_of_ble_eq_true rfl, Nat.le_of_ble_eq_true rfl⟩ (Nat.le_of_ble_eq_true rfl) (c2 := 0) (s2 := 0) rfl rfl ⟨Nat.le_of_ble_eq_true rfl, Nat.le_of_ble_eq_true rfl⟩ rfl (fun hTg => ?_)
            refine ww_nm (fun S65 e_S65 => ?_)
            replace h := h S65 e_S65
            have hT_S65 : S65.2.2.1 = T0 := by rw [e_S65, hTg]; exact hT_S63
            refine ww_goto (tgt := 271) C dX5_readStep_229 (by decide) ?_
            exact ww_sub [] rfl (run_X5_readStep_271 C hrt hm hr hT_S65  h)
        · replace h := h.2 q45
          refine ww_iconst (v := 1) C dX5_readStep_135 (by decide) ?_
          refine ww_iload_n C dX5_readStep_136 1 rfl ?_
          refine ww_bipush (v := 84) C dX5_readStep_137 (by decide) ?_
          refine ww_isub C dX5_readStep_139 ?_
          refine ww_bipush (v := 12) C dX5_readStep_140 (by decide) ?_
          refine ww_idiv C dX5_readStep_142 (by decide) ?_
          refine ww_sipush (v := 256) C dX5_readStep_143 (by decide) ?_
          refine ww_imul C dX5_readStep_146 ?_
          refine ww_iadd C dX5_readStep_147 ?_
          refine ww_aload_n C dX5_readStep_148 2 rfl ?_
          refine ww_cVi (As := []) (rest := [.int (1 + (((w - 84) / 12) * 256))]) C ok_X2_next bw_684 dX5_readStep_149 (cm_X2_next (c := c) (r := r) (by rw [hT]; exact hm) hr) (rc_Cursor (q := c) (r := r) (by rw [hT]; exact hm)) rfl ⟨Nat.le_of_ble_eq_true rfl, Nat.le_of_ble_eq_true rfl⟩ (Nat.le_of_ble_eq_true rfl) (c2 := 0) (s2 := 0) rfl rfl ⟨Nat.le_of_ble_eq_true rfl, Nat.le_of_ble_eq_true rfl⟩ rfl (fun r67 S66 hp hTg => ?_)
          obtain ⟨e_r67, e_S66⟩ := hp
          replace h := h r67 S66 e_r67 e_S66
          have hT_S66 : S66.2.2.1 = T0 := by rw [hTg]; exact hT
          refine ww_iadd C dX5_readStep_152 ?_
          refine ww_topi (fun x68 e_x68 => ?_)
          replace h := h x68 e_x68
          refine ww_istore_n (lv2 := [(3, .int x68), (0, .ref (gad g 156)), (1, .int w), (2, .ref c)]) C dX5_readStep_153 rfl (Nat.le_of_ble_eq_true rfl) rfl ?_
          refine ww_aload_n C dX5_readStep_154 1 rfl ?_
          refine ww_iload_n C dX5_readStep_155 0 rfl ?_
          refine ww_iconst (v := 1) C dX5_readStep_156 (by decide) ?_
          refine ww_iload_n C dX5_readStep_157 2 rfl ?_
          refine ww_bipush (v := 84) C dX5_readStep_158 (by decide) ?_
          refine ww_isub C dX5_readStep_160 ?_
          refine ww_bipush (v := 12) C dX5_readStep_161 (by decide) ?_
          refine ww_irem C dX5_readStep_163 (by decide) ?_
          refine ww_iconst (v := 4) C dX5_readStep_164 (by decide) ?_
          refine ww_idiv C dX5_readStep_165 (by decide) ?_
          refine ww_sipush (v := 256) C dX5_readStep_166 (by decide) ?_
          refine ww_imul C dX5_readStep_169 ?_
          refine ww_iadd C dX5_readStep_170 ?_
          refine ww_aload_n C dX5_readStep_171 3 rfl ?_
          refine ww_cVi (As := []) (rest := [.int (1 + ((((w - 84) - (w - 84) / 12 * 12) / 4) * 256)), .int x68, .ref (gad g 156)]) C ok_X2_next bw_684 dX5_readStep_172 (cm_X2_next (c := c) (r := r) (by rw [hT_S66]; exact hm) hr) (rc_Cursor (q := c) (r := r) (by rw [hT_S66]; exact hm)) rfl ⟨Nat.le_of_ble_eq_true rfl, Nat.le_of_ble_eq_true rfl⟩ (Nat.le_of_ble_eq_true rfl) (c2 := 0) (s2 := 0) rfl rfl ⟨Nat.le_of_ble_eq_true rfl, Nat.le_of_ble_eq_true rfl⟩ rfl (fun r70 S69 hp hTg => ?_)
          obtain ⟨e_r70, e_S69⟩ := hp
          replace h := h r70 S69 e_r70 e_S69
          have hT_S69 : S69.2.2.1 = T0 := by rw [hTg]; exact hT_S66
          refine ww_iadd C dX5_readStep_175 ?_
          refine ww_iload_n C dX5_readStep_176 2 rfl ?_
          refine ww_cVg (As := [.int x68, .int ((1 + ((((w - 84) - (w - 84) / 12 * 12) / 4) * 256)) + r70), .int w]) (rest := []) C ok_X5_takeStep bw_798 dX5_readStep_177 cm_X5_takeStep rc_PackedReader rfl ⟨Nat.le_of_ble_eq_true rfl, Nat.le_of_ble_eq_true rfl⟩ (Nat.le_of_ble_eq_true rfl) (c2 := 0) (s2 := 0) rfl rfl ⟨Nat.le_of_ble_eq_true rfl, Nat.le_of_ble_eq_true rfl⟩ rfl (fun hTg => ?_)
          refine ww_nm (fun S71 e_S71 => ?_)
          replace h := h S71 e_S71
          have hT_S71 : S71.2.2.1 = T0 := by rw [e_S71, hTg]; exact hT_S69
          refine ww_goto (tgt := 271) C dX5_readStep_180 (by decide) ?_
          exact ww_sub [] rfl (run_X5_readStep_271 C hrt hm hr hT_S71  h)
      · replace h := h.2 q44
        refine ww_aload_n C dX5_readStep_81 2 rfl ?_
        refine ww_cVi (As := []) (rest := []) C ok_X2_next bw_684 dX5_readStep_82 (cm_X2_next (c := c) (r := r) (by rw [hT]; exact hm) hr) (rc_Cursor (q := c) (r := r) (by rw [hT]; exact hm)) rfl ⟨Nat.le_of_ble_eq_true rfl, Nat.le_of_ble_eq_true rfl⟩ (Nat.le_of_ble_eq_true rfl) (c2 := 0) (s2 := 0) rfl rfl ⟨Nat.le_of_ble_eq_true rfl, Nat.le_of_ble_eq_true rfl⟩ rfl (fun r73 S72 hp hTg => ?_)
        obtain ⟨e_r73, e_S72⟩ := hp
        replace h := h r73 S72 e_r73 e_S72
        have hT_S72 : S72.2.2.1 = T0 := by rw [hTg]; exact hT
        refine ww_istore_n (lv2 := [(3, .int r73), (0, .ref (gad g 156)), (1, .int w), (2, .ref c)]) C dX5_readStep_85 rfl (Nat.le_of_ble_eq_true rfl) rfl ?_
        refine ww_aload_n C dX5_readStep_86 1 rfl ?_
        refine ww_iconst (v := 1) C dX5_readStep_87 (by decide) ?_
        refine ww_iload_n C dX5_readStep_88 2 rfl ?_
        refine ww_bipush (v := 20) C dX5_readStep_89 (by decide) ?_
        refine ww_isub C dX5_readStep_91 ?_
        refine ww_bipush (v := 16) C dX5_readStep_92 (by decide) ?_
        refine ww_idiv C dX5_readStep_94 (by decide) ?_
        refine ww_bipush (v := 16) C dX5_readStep_95 (by decide) ?_
        refine ww_imul C dX5_readStep_97 ?_
        refine ww_iadd C dX5_readStep_98 ?_
        refine ww_iload_n C dX5_readStep_99 0 rfl ?_
        refine ww_bipush (v := 16) C dX5_readStep_100 (by decide) ?_
        refine ww_idiv C dX5_readStep_102 (by decide) ?_
        refine ww_iadd C dX5_readStep_103 ?_
        refine ww_iconst (v := 1) C dX5_readStep_104 (by decide) ?_
        refine ww_iload_n C dX5_readStep_105 2 rfl ?_
        refine ww_bipush (v := 20) C dX5_readStep_106 (by decide) ?_
        refine ww_isub C dX5_readStep_108 ?_
        refine ww_iconst (v := 4) C dX5_readStep_109 (by decide) ?_
        refine ww_idiv C dX5_readStep_110 (by decide) ?_
        refine ww_iconst (v := 4) C dX5_readStep_111 (by decide) ?_
        refine ww_irem C dX5_readStep_112 (by decide) ?_
        refine ww_bipush (v := 16) C dX5_readStep_113 (by decide) ?_
        refine ww_imul C dX5_readStep_115 ?_
        refine ww_iadd C dX5_readStep_116 ?_
        refine ww_iload_n C dX5_readStep_117 0 rfl ?_
        refine ww_bipush (v := 16) C dX5_readStep_118 (by decide) ?_
        refine ww_irem C dX5_readStep_120 (by decide) ?_
        refine ww_iadd C dX5_readStep_121 ?_
        refine ww_iload_n C dX5_readStep_122 2 rfl ?_
        refine ww_cVg (As := [.int ((1 + (((w - 20) / 16) * 16)) + (r73 / 16)), .int ((1 + ((((w - 20) / 4) - ((w - 20) / 4) / 4 * 4) * 16)) + (r73 - r73 / 16 * 16)), .int w]) (rest := []) C ok_X5_takeStep bw_798 dX5_readStep_123 cm_X5_takeStep rc_PackedReader rfl ⟨Nat.le_of_ble_eq_true rfl, Nat.le_of_ble_eq_true rfl⟩ (Nat.le_of_ble_eq_true rfl) (c2 := 0) (s2 := 0) rfl rfl ⟨Nat.le_of_ble_eq_true rfl, Nat.le_of_ble_eq_true rfl⟩ rfl (fun hTg => ?_)
        refine ww_nm (fun S74 e_S74 => ?_)
        replace h := h S74 e_S74
        have hT_S74 : S74.2.2.1 = T0 := by rw [e_S74, hTg]; exact hT_S72
        refine ww_goto (tgt := 271) C dX5_readStep_126 (by decide) ?_
        exact ww_sub [] rfl (run_X5_readStep_271 C hrt hm hr hT_S74  h)
    · replace h := h.2 q43
      refine ww_aload_n C dX5_readStep_42 0 rfl ?_
      refine ww_iload_n C dX5_readStep_43 1 rfl ?_
      refine ww_bipush (v := 10) C dX5_readStep_44 (by decide) ?_
      refine ww_isub C dX5_readStep_46 ?_
      refine ww_iconst (v := 2) C dX5_readStep_47 (by decide) ?_
      refine ww_idiv C dX5_readStep_48 (by decide) ?_
      refine ww_sipush (v := 256) C dX5_readStep_49 (by decide) ?_
      refine ww_imul C dX5_readStep_52 ?_
      refine ww_aload_n C dX5_readStep_53 2 rfl ?_
      refine ww_cVi (As := []) (rest := [.int (((w - 10) / 2) * 256), .ref (gad g 156)]) C ok_X2_next bw_684 dX5_readStep_54 (cm_X2_next (c := c) (r := r) (by rw [hT]; exact hm) hr) (rc_Cursor (q := c) (r := r) (by rw [hT]; exact hm)) rfl ⟨Nat.le_of_ble_eq_true rfl, Nat.le_of_ble_eq_true rfl⟩ (Nat.le_of_ble_eq_true rfl) (c2 := 0) (s2 := 0) rfl rfl ⟨Nat.le_of_ble_eq_true rfl, Nat.le_of_ble_eq_true rfl⟩ rfl (fun r76 S75 hp hTg => ?_)
      obtain ⟨e_r76, e_S75⟩ := hp
      replace h := h r76 S75 e_r76 e_S75
      have hT_S75 : S75.2.2.1 = T0 := by rw [hTg]; exact hT
      refine ww_iadd C dX5_readStep_57 ?_
      refine ww_iload_n C dX5_readStep_58 1 rfl ?_
      refine ww_iconst (v := 2) C dX5_readStep_59 (by decide) ?_
      refine ww_irem C dX5_readStep_60 (by decide) ?_
      refine ww_cSf (As := [.int ((((w - 10) / 2) * 256) + r76), .int (w - w / 2 * 2)]) (rest := [.ref (gad g 156)]) C ok_X5_signed bw_795 dX5_readStep_61 cm_X5_signed rfl ⟨Nat.le_of_ble_eq_true rfl, Nat.le_of_ble_eq_true rfl⟩ (Nat.le_of_ble_eq_true rfl) (c2 := 0) (s2 := 0) rfl rfl ⟨Nat.le_of_ble_eq_true rfl, Nat.le_of_ble_eq_true rfl⟩ rfl ?_
      refine pf_PackedReader_dx C bw_145 dX5_readStep_64 ?_
      refine ww_nm (fun S77 e_S77 => ?_)
      replace h := h S77 e_S77
      have hT_S77 : S77.2.2.1 = T0 := by rw [e_S77]; exact hT_S75
      refine ww_aload_n C dX5_readStep_67 0 rfl ?_
      refine ww_iconst (v := 0) C dX5_readStep_68 (by decide) ?_
      refine pf_PackedReader_dy C bw_146 dX5_readStep_69 ?_
      refine ww_nm (fun S78 e_S78 => ?_)
      replace h := h S78 e_S78
      have hT_S78 : S78.2.2.1 = T0 := by rw [e_S78]; exact hT_S77
      refine ww_goto (tgt := 271) C dX5_readStep_72 (by decide) ?_
      exact ww_sub [] rfl (run_X5_readStep_271 C hrt hm hr hT_S78  h)
  · replace h := h.2 q42
    refine ww_aload_n C dX5_readStep_6 0 rfl ?_
    refine ww_iconst (v := 0) C dX5_readStep_7 (by decide) ?_
    refine pf_PackedReader_dx C bw_145 dX5_readStep_8 ?_
    refine ww_nm (fun S79 e_S79 => ?_)
    replace h := h S79 e_S79
    have hT_S79 : S79.2.2.1 = T0 := by rw [e_S79]; exact hT
    refine ww_aload_n C dX5_readStep_11 0 rfl ?_
    refine ww_iload_n C dX5_readStep_12 1 rfl ?_
    refine ww_iconst (v := 2) C dX5_readStep_13 (by decide) ?_
    refine ww_idiv C dX5_readStep_14 (by decide) ?_
    refine ww_sipush (v := 256) C dX5_readStep_15 (by decide) ?_
    refine ww_imul C dX5_readStep_18 ?_
    refine ww_aload_n C dX5_readStep_19 2 rfl ?_
    refine ww_cVi (As := []) (rest := [.int ((w / 2) * 256), .ref (gad g 156)]) C ok_X2_next bw_684 dX5_readStep_20 (cm_X2_next (c := c) (r := r) (by rw [hT_S79]; exact hm) hr) (rc_Cursor (q := c) (r := r) (by rw [hT_S79]; exact hm)) rfl ⟨Nat.le_of_ble_eq_true rfl, Nat.le_of_ble_eq_true rfl⟩ (Nat.le_of_ble_eq_true rfl) (c2 := 0) (s2 := 0) rfl rfl ⟨Nat.le_of_ble_eq_true rfl, Nat.le_of_ble_eq_true rfl⟩ rfl (fun r81 S80 hp hTg => ?_)
    obtain ⟨e_r81, e_S80⟩ := hp
    replace h := h r81 S80 e_r81 e_S80
    have hT_S80 : S80.2.2.1 = T0 := by rw [hTg]; exact hT_S79
    refine ww_iadd C dX5_readStep_23 ?_
    refine ww_iload_n C dX5_readStep_24 1 rfl ?_
    refine ww_iconst (v := 2) C dX5_readStep_25 (by decide) ?_
    refine ww_irem C dX5_readStep_26 (by decide) ?_
    refine ww_cSf (As := [.int (((w / 2) * 256) + r81), .int (w - w / 2 * 2)]) (rest := [.ref (gad g 156)]) C ok_X5_signed bw_795 dX5_readStep_27 cm_X5_signed rfl ⟨Nat.le_of_ble_eq_true rfl, Nat.le_of_ble_eq_true rfl⟩ (Nat.le_of_ble_eq_true rfl) (c2 := 0) (s2 := 0) rfl rfl ⟨Nat.le_of_ble_eq_true rfl, Nat.le_of_ble_eq_true rfl⟩ rfl ?_
    refine pf_PackedReader_dy C bw_146 dX5_readStep_30 ?_
    refine ww_nm (fun S82 e_S82 => ?_)
    replace h := h S82 e_S82
    have hT_S82 : S82.2.2.1 = T0 := by rw [e_S82]; exact hT_S80
    refine ww_goto (tgt := 271) C dX5_readStep_33 (by decide) ?_
    exact ww_sub [] rfl (run_X5_readStep_271 C hrt hm hr hT_S82  h))
def fs_X5_readStep_271 (S : St) (w : Int32) (c : Nat) (r : Nat)  : St := S
set_option maxHeartbeats 4000000 in
set_option maxRecDepth 100000 in
theorem sp_X5_readStep_271 {S : St} {w : Int32} {c : Nat} {r : Nat}  {P : St → Prop} (h : P  (fs_X5_readStep_271 S w c r )) : wp_X5_readStep_271 w c r S  P := by
  unfold wp_X5_readStep_271
  unfold fs_X5_readStep_271 at h
  exact h
def fs_X5_readStep (S : St) (w : Int32) (c : Nat) (r : Nat)  : St := (if 10 ≤ w then (if 20 ≤ w then (if 84 ≤ w then (if 120 ≤ w then (if 124 ≤ w then (fs_X5_readStep_271 ((fs_X5_takeStep (fs_X2_next (fs_X2_next (fs_X2_next (fs_X2_next S c r) c r) c r) c r) (((fv_X2_next S c r) * 256) + (fv_X2_next (fs_X2_next S c r) c r)) (((fv_X2_next (fs_X2_next (fs_X2_next S c r) c r) c r) * 256) + (fv_X2_next (fs_X2_next (fs_X2_next (fs_X2_next S c r) c r) c r) c r)) w)) w c r) else (fs_X5_readStep_271 ((fs_X5_takeStep (fs_X2_next (fs_X2_next (fs_X2_next S c r) c r) c r) (((fv_X2_next S c r) * 16) + ((fv_X2_next (fs_X2_next S c r) c r) / 16)) ((((fv_X2_next (fs_X2_next S c r) c r) - (fv_X2_next (fs_X2_next S c r) c r) / 16 * 16) * 256) + (fv_X2_next (fs_X2_next (fs_X2_next S c r) c r) c r)) w)) w c r)) else (fs_X5_readStep_271 ((fs_X5_takeStep (fs_X2_next (fs_X2_next S c r) c r) ((1 + (((w - 84) / 12) * 256)) + (fv_X2_next S c r)) ((1 + ((((w - 84) - (w - 84) / 12 * 12) / 4) * 256)) + (fv_X2_next (fs_X2_next S c r) c r)) w)) w c r)) else (fs_X5_readStep_271 ((fs_X5_takeStep (fs_X2_next S c r) ((1 + (((w - 20) / 16) * 16)) + ((fv_X2_next S c r) / 16)) ((1 + ((((w - 20) / 4) - ((w - 20) / 4) / 4 * 4) * 16)) + ((fv_X2_next S c r) - (fv_X2_next S c r) / 16 * 16)) w)) w c r)) else (fs_X5_readStep_271 ((stM (stM (fs_X2_next S c r) 2 2 (fv_X5_signed (fs_X2_next S c r) ((((w - 10) / 2) * 256) + (fv_X2_next S c r)) (w - w / 2 * 2))) 2 3 0)) w c r)) else (fs_X5_readStep_271 ((stM (fs_X2_next (stM S 2 2 0) c r) 2 3 (fv_X5_signed (fs_X2_next (stM S 2 2 0) c r) (((w / 2) * 256) + (fv_X2_next (stM S 2 2 0) c r)) (w - w / 2 * 2)))) w c r))
set_option maxHeartbeats 4000000 in
set_option maxRecDepth 100000 in
theorem sp_X5_readStep {S : St} {w : Int32} {c : Nat} {r : Nat}  {P : St → Prop} (h : P  (fs_X5_readStep S w c r )) : wp_X5_readStep S w c r P := by
  unfold wp_X5_readStep
  unfold fs_X5_readStep at h
  refine ⟨fun q42 => ?_, fun q42 => ?_⟩
  · simp only [if_pos q42] at h
    refine ⟨fun q43 => ?_, fun q43 => ?_⟩
    · simp only [if_pos q43] at h
      refine ⟨fun q44 => ?_, fun q44 => ?_⟩
      · simp only [if_pos q44] at h
        refine ⟨fun q45 => ?_, fun q45 => ?_⟩
        · simp only [if_pos q45] at h
          refine ⟨fun q46 => ?_, fun q46 => ?_⟩
          · simp only [if_pos q46] at h
            intro r48 S47 e_r48 e_S47
            subst e_r48
            subst e_S47
            intro x49 e_x49
            subst e_x49
            intro r51 S50 e_r51 e_S50
            subst e_r51
            subst e_S50
            intro x52 e_x52
            subst e_x52
            intro r54 S53 e_r54 e_S53
            subst e_r54
            subst e_S53
            intro x55 e_x55
            subst e_x55
            intro r57 S56 e_r57 e_S56
            subst e_r57
            subst e_S56
            intro S58 e_S58
            subst e_S58
            exact sp_X5_readStep_271 h
          · simp only [if_neg q46] at h
            intro r60 S59 e_r60 e_S59
            subst e_r60
            subst e_S59
            intro r62 S61 e_r62 e_S61
            subst e_r62
            subst e_S61
            intro r64 S63 e_r64 e_S63
            subst e_r64
            subst e_S63
            intro S65 e_S65
            subst e_S65
            exact sp_X5_readStep_271 h
        · simp only [if_neg q45] at h
          intro r67 S66 e_r67 e_S66
          subst e_r67
          subst e_S66
          intro x68 e_x68
          subst e_x68
          intro r70 S69 e_r70 e_S69
          subst e_r70
          subst e_S69
          intro S71 e_S71
          subst e_S71
          exact sp_X5_readStep_271 h
      · simp only [if_neg q44] at h
        intro r73 S72 e_r73 e_S72
        subst e_r73
        subst e_S72
        intro S74 e_S74
        subst e_S74
        exact sp_X5_readStep_271 h
    · simp only [if_neg q43] at h
      intro r76 S75 e_r76 e_S75
      subst e_r76
      subst e_S75
      intro S77 e_S77
      subst e_S77
      intro S78 e_S78
      subst e_S78
      exact sp_X5_readStep_271 h
  · simp only [if_neg q42] at h
    intro S79 e_S79
    subst e_S79
    intro r81 S80 e_r81 e_S80
    subst e_r81
    subst e_S80
    intro S82 e_S82
    subst e_S82
    exact sp_X5_readStep_271 h
theorem cm_X5_readStep {l : Launch} {g : Gx} {S : St} {w : Int32} {c : Nat} {r : Nat} (hm : (c, 2, r) ∈ S.2.2.1) (hr : r < 68) : CMv g l yX5_readStep cX5_readStep 5 none rm_X5_readStep [.ref (gad g 156), .int w, .ref c] S (fun S2 => S2 = fs_X5_readStep S w c r) := run_X5_readStep hm hr (fun _ => sp_X5_readStep rfl)
abbrev rm_X5_readLengths : Room := { frames := 3, cells := 0, slots := 0, locals := 65 }
theorem ok_X5_readLengths : MOK yX5_readLengths RX5 cX5_readLengths 4 (some .boolean) 2 := ⟨bw_700, bw_6, bw_66, bw_701, by decide +kernel⟩
def wp_X5_readLengths_76 (t : Int32) (c : Nat) (r : Nat) (S : St) (s0 : Int32) (P : Int32 → St → Prop) : Prop :=
  ((s0 = 0 ∨ s0 = 1) ∧ P s0 S)
set_option maxHeartbeats 4000000 in
set_option maxRecDepth 100000 in
theorem run_X5_readLengths_76 {f : Fx} {g : Gx} {T0 : List (Nat × Nat × Nat)} {S : St} {t : Int32} {c : Nat} {r : Nat} {P : Int32 → St → Prop} (C : Cx f g cX5_readLengths 4 RX5) (hrt : (fmeth f).sig.returnType = (some .boolean)) (hm : (c, 2, r) ∈ T0) (hr : r < 68) {s0 : Int32} (hT : S.2.2.1 = T0)  (h : wp_X5_readLengths_76 t c r S s0 P) : WW f rm_X5_readLengths g 4 0 0 (Qi f g 0 0 T0 P) S 76 [] [.int s0] := by
  unfold wp_X5_readLengths_76 at h
  exact ww_zret C hrt dX5_readLengths_76 hT h.1 h.2
def wp_X5_readLengths_75 (t : Int32) (c : Nat) (r : Nat) (S : St)  (P : Int32 → St → Prop) : Prop :=
  wp_X5_readLengths_76 t c r S 0 P
set_option maxHeartbeats 4000000 in
set_option maxRecDepth 100000 in
theorem run_X5_readLengths_75 {f : Fx} {g : Gx} {T0 : List (Nat × Nat × Nat)} {S : St} {t : Int32} {c : Nat} {r : Nat} {P : Int32 → St → Prop} (C : Cx f g cX5_readLengths 4 RX5) (hrt : (fmeth f).sig.returnType = (some .boolean)) (hm : (c, 2, r) ∈ T0) (hr : r < 68)  (hT : S.2.2.1 = T0)  (h : wp_X5_readLengths_75 t c r S  P) : WW f rm_X5_readLengths g 4 0 0 (Qi f g 0 0 T0 P) S 75 [] [] := by
  unfold wp_X5_readLengths_75 at h
  refine ww_iconst (v := 0) C dX5_readLengths_75 (by decide) ?_
  exact ww_sub [] rfl (run_X5_readLengths_76 C hrt hm hr hT  h)
def wp_X5_readLengths_43 (t : Int32) (c : Nat) (r : Nat) (S : St) (s0 : Int32) (P : Int32 → St → Prop) : Prop :=
  ((s0 = 0 ∨ s0 = 1) ∧ P s0 S)
set_option maxHeartbeats 4000000 in
set_option maxRecDepth 100000 in
theorem run_X5_readLengths_43 {f : Fx} {g : Gx} {T0 : List (Nat × Nat × Nat)} {S : St} {t : Int32} {c : Nat} {r : Nat} {P : Int32 → St → Prop} (C : Cx f g cX5_readLengths 4 RX5) (hrt : (fmeth f).sig.returnType = (some .boolean)) (hm : (c, 2, r) ∈ T0) (hr : r < 68) {s0 : Int32} (hT : S.2.2.1 = T0)  (h : wp_X5_readLengths_43 t c r S s0 P) : WW f rm_X5_readLengths g 4 0 0 (Qi f g 0 0 T0 P) S 43 [] [.int s0] := by
  unfold wp_X5_readLengths_43 at h
  exact ww_zret C hrt dX5_readLengths_43 hT h.1 h.2
def wp_X5_readLengths (S : St) (t : Int32) (c : Nat) (r : Nat) (P : Int32 → St → Prop) : Prop :=
  wp_X2_nextLong S c r (fun r18 S17 => ∀ S19 : St, S19 = rChange S17 66 t r18 → ((2 ≤ t → ∀ S21 : St, S21 = rChange S19 67 t r18 → wp_X2_isBroken S21 c r (fun r23 S22 => ((¬ r23 = 0 → wp_X5_readLengths_75 t c r S22  P) ∧ (r23 = 0 → ((r18 < 1 → wp_X5_readLengths_75 t c r S22  P) ∧ (¬ r18 < 1 → ((20 < r18 → wp_X5_readLengths_75 t c r S22  P) ∧ (¬ 20 < r18 → wp_X5_readLengths_76 t c r S22 1 P)))))))) ∧ (¬ 2 ≤ t → wp_X2_nextLong S19 c r (fun r28 S27 => ∀ S29 : St, S29 = rChange S27 67 t r28 → wp_X2_isBroken S29 c r (fun r31 S30 => ((¬ r31 = 0 → wp_X5_readLengths_43 t c r S30 0 P) ∧ (r31 = 0 → wp_X5_readLengths_43 t c r S30 1 P)))))))
set_option maxHeartbeats 4000000 in
set_option maxRecDepth 100000 in
theorem run_X5_readLengths {l : Launch} {g : Gx} {S : St} {t : Int32} {c : Nat} {r : Nat} {P : Int32 → St → Prop} (hm : (c, 2, r) ∈ S.2.2.1) (hr : r < 68) (h : rowsLe S → wp_X5_readLengths S t c r P) : CMi g l yX5_readLengths cX5_readLengths 4 (some .boolean) rm_X5_readLengths [.ref (gad g 156), .int t, .ref c] S P := cm_entry (own := RX5) (plainFor_of_name (by decide)) rfl (Nat.le_of_ble_eq_true rfl) rfl (fun hle f hf C hrt => by
  subst hf
  replace h := h hle
  obtain ⟨T0, hT⟩ : ∃ T, S.2.2.1 = T := ⟨_, rfl⟩
  rw [hT] at hm
  rw [hT]
  unfold wp_X5_readLengths at h
  refine ww_aload_n C dX5_readLengths_0 2 rfl ?_
  refine ww_cVi (As := []) (rest := []) C ok_X2_nextLong bw_702 dX5_readLengths_1 (run_X2_nextLong (c := c) (r := r) (by rw [hT]; exact hm) hr (fun _ => h)) (rc_Cursor (q := c) (r := r) (by rw [hT]; exact hm)) rfl ⟨Nat.le_of_ble_eq_true rfl, Nat.le_of_ble_eq_true rfl⟩ (Nat.le_of_ble_eq_true rfl) (c2 := 0) (s2 := 0) rfl rfl ⟨Nat.le_of_ble_eq_true rfl, Nat.le_of_ble_eq_true rfl⟩ rfl (fun r18 S17 hp hTg => ?_)
  replace h := hp
  have hT_S17 : S17.2.2.1 = T0 := by rw [hTg]; exact hT
  refine ww_istore_n (lv2 := [(3, .int r18), (0, .ref (gad g 156)), (1, .int t), (2, .ref c)]) C dX5_readLengths_4 rfl (Nat.le_of_ble_eq_true rfl) rfl ?_
  refine ww_aload_n C dX5_readLengths_5 1 rfl ?_
  refine gf_PackedReader_plainLengths C bw_141 dX5_readLengths_6 ?_
  refine ww_iload_n C dX5_readLengths_9 2 rfl ?_
  refine ww_iload_n C dX5_readLengths_10 0 rfl ?_
  refine ww_cVg (As := [.int t, .int r18]) (rest := []) C ok_X8_change bw_707 dX5_readLengths_11 (cm_X8_change (by decide)) (rc_Row (by decide)) rfl ⟨Nat.le_of_ble_eq_true rfl, Nat.le_of_ble_eq_true rfl⟩ (Nat.le_of_ble_eq_true rfl) (c2 := 0) (s2 := 0) rfl rfl ⟨Nat.le_of_ble_eq_true rfl, Nat.le_of_ble_eq_true rfl⟩ rfl (fun hTg => ?_)
  refine ww_nm (fun S19 e_S19 => ?_)
  replace h := h S19 e_S19
  have hT_S19 : S19.2.2.1 = T0 := by rw [e_S19, hTg]; exact hT_S17
  refine ww_iload_n C dX5_readLengths_14 2 rfl ?_
  refine ww_iconst (v := 2) C dX5_readLengths_15 (by decide) ?_
  refine ww_icmp_ge (tgt := 44) C dX5_readLengths_16 (by decide) (fun q20 => ?_) (fun q20 => ?_)
  · replace h := h.1 q20
    refine ww_aload_n C dX5_readLengths_44 1 rfl ?_
    refine gf_PackedReader_streamLengths C bw_142 dX5_readLengths_45 ?_
    refine ww_iload_n C dX5_readLengths_48 2 rfl ?_
    refine ww_iload_n C dX5_readLengths_49 0 rfl ?_
    refine ww_cVg (As := [.int t, .int r18]) (rest := []) C ok_X8_change bw_707 dX5_readLengths_50 (cm_X8_change (by decide)) (rc_Row (by decide)) rfl ⟨Nat.le_of_ble_eq_true rfl, Nat.le_of_ble_eq_true rfl⟩ (Nat.le_of_ble_eq_true rfl) (c2 := 0) (s2 := 0) rfl rfl ⟨Nat.le_of_ble_eq_true rfl, Nat.le_of_ble_eq_true rfl⟩ rfl (fun hTg => ?_)
    refine ww_nm (fun S21 e_S21 => ?_)
    replace h := h S21 e_S21
    have hT_S21 : S21.2.2.1 = T0 := by rw [e_S21, hTg]; exact hT_S19
    refine ww_aload_n C dX5_readLengths_53 3 rfl ?_
    refine ww_cVi (As := []) (rest := []) C ok_X2_isBroken bw_694 dX5_readLengths_54 (run_X2_isBroken (c := c) (r := r) (by rw [hT_S21]; exact hm) hr (fun _ => h)) (rc_Cursor (q := c) (r := r) (by rw [hT_S21]; exact hm)) rfl ⟨Nat.le_of_ble_eq_true rfl, Nat.le_of_ble_eq_true rfl⟩ (Nat.le_of_ble_eq_true rfl) (c2 := 0) (s2 := 0) rfl rfl ⟨Nat.le_of_ble_eq_true rfl, Nat.le_of_ble_eq_true rfl⟩ rfl (fun r23 S22 hp hTg => ?_)
    replace h := hp
    have hT_S22 : S22.2.2.1 = T0 := by rw [hTg]; exact hT_S21
    refine ww_if_ne (tgt := 75) C dX5_readLengths_57 (by decide) (fun q24 => ?_) (fun q24 => ?_)
    · replace h := h.1 q24
      exact ww_sub [] rfl (run_X5_readLengths_75 C hrt hm hr hT_S22  h)
    · replace h := h.2 q24
      refine ww_iload_n C dX5_readLengths_60 0 rfl ?_
      refine ww_iconst (v := 1) C dX5_readLengths_61 (by decide) ?_
      refine ww_icmp_lt (tgt := 75) C dX5_readLengths_62 (by decide) (fun q25 => ?_) (fun q25 => ?_)
      · replace h := h.1 q25
        exact ww_sub [] rfl (run_X5_readLengths_75 C hrt hm hr hT_S22  h)
      · replace h := h.2 q25
        refine ww_iload_n C dX5_readLengths_65 0 rfl ?_
        refine ww_bipush (v := 20) C dX5_readLengths_66 (by decide) ?_
        refine ww_icmp_gt (tgt := 75) C dX5_readLengths_68 (by decide) (fun q26 => ?_) (fun q26 => ?_)
        · replace h := h.1 q26
          exact ww_sub [] rfl (run_X5_readLengths_75 C hrt hm hr hT_S22  h)
        · replace h := h.2 q26
          refine ww_iconst (v := 1) C dX5_readLengths_71 (by decide) ?_
          refine ww_goto (tgt := 76) C dX5_readLengths_72 (by decide) ?_
          exact ww_sub [] rfl (run_X5_readLengths_76 C hrt hm hr hT_S22  h)
  · replace h := h.2 q20
    refine ww_aload_n C dX5_readLengths_19 1 rfl ?_
    refine gf_PackedReader_streamLengths C bw_142 dX5_readLengths_20 ?_
    refine ww_iload_n C dX5_readLengths_23 2 rfl ?_
    refine ww_aload_n C dX5_readLengths_24 3 rfl ?_
    refine ww_cVi (As := []) (rest := [.int t, .ref (gad g 67)]) C ok_X2_nextLong bw_702 dX5_readLengths_25 (run_X2_nextLong (c := c) (r := r) (by rw [hT_S19]; exact hm) hr (fun _ => h)) (rc_Cursor (q := c) (r := r) (by rw [hT_S19]; exact hm)) rfl ⟨Nat.le_of_ble_eq_true rfl, Nat.le_of_ble_eq_true rfl⟩ (Nat.le_of_ble_eq_true rfl) (c2 := 0) (s2 := 0) rfl rfl ⟨Nat.le_of_ble_eq_true rfl, Nat.le_of_ble_eq_true rfl⟩ rfl (fun r28 S27 hp hTg => ?_)
    replace h := hp
    have hT_S27 : S27.2.2.1 = T0 := by rw [hTg]; exact hT_S19
    refine ww_cVg (As := [.int t, .int r28]) (rest := []) C ok_X8_change bw_707 dX5_readLengths_28 (cm_X8_change (by decide)) (rc_Row (by decide)) rfl ⟨Nat.le_of_ble_eq_true rfl, Nat.le_of_ble_eq_true rfl⟩ (Nat.le_of_ble_eq_true rfl) (c2 := 0) (s2 := 0) rfl rfl ⟨Nat.le_of_ble_eq_true rfl, Nat.le_of_ble_eq_true rfl⟩ rfl (fun hTg => ?_)
    refine ww_nm (fun S29 e_S29 => ?_)
    replace h := h S29 e_S29
    have hT_S29 : S29.2.2.1 = T0 := by rw [e_S29, hTg]; exact hT_S27
    refine ww_aload_n C dX5_readLengths_31 3 rfl ?_
    refine ww_cVi (As := []) (rest := []) C ok_X2_isBroken bw_694 dX5_readLengths_32 (run_X2_isBroken (c := c) (r := r) (by rw [hT_S29]; exact hm) hr (fun _ => h)) (rc_Cursor (q := c) (r := r) (by rw [hT_S29]; exact hm)) rfl ⟨Nat.le_of_ble_eq_true rfl, Nat.le_of_ble_eq_true rfl⟩ (Nat.le_of_ble_eq_true rfl) (c2 := 0) (s2 := 0) rfl rfl ⟨Nat.le_of_ble_eq_true rfl, Nat.le_of_ble_eq_true rfl⟩ rfl (fun r31 S30 hp hTg => ?_)
    replace h := hp
    have hT_S30 : S30.2.2.1 = T0 := by rw [hTg]; exact hT_S29
    refine ww_if_ne (tgt := 42) C dX5_readLengths_35 (by decide) (fun q32 => ?_) (fun q32 => ?_)
    · replace h := h.1 q32
      refine ww_iconst (v := 0) C dX5_readLengths_42 (by decide) ?_
      exact ww_sub [] rfl (run_X5_readLengths_43 C hrt hm hr hT_S30  h)
    · replace h := h.2 q32
      refine ww_iconst (v := 1) C dX5_readLengths_38 (by decide) ?_
      refine ww_goto (tgt := 43) C dX5_readLengths_39 (by decide) ?_
      exact ww_sub [] rfl (run_X5_readLengths_43 C hrt hm hr hT_S30  h))
abbrev rm_X5_readHead : Room := { frames := 4, cells := 0, slots := 0, locals := 88 }
theorem ok_X5_readHead : MOK yX5_readHead RX5 cX5_readHead 9 (some .boolean) 1 := ⟨bw_682, bw_5, bw_66, bw_683, by decide +kernel⟩
def st_X5_readHead_18 (c : Nat) (r : Nat) (P : Int32 → St → Prop) (X18 : St → Prop) (X71 : St → Int32 → Int32 → Int32 → Int32 → Int32 → Int32 → Prop) (X110 : St → Prop) (X134 : St → Int32 → Int32 → Int32 → Int32 → Int32 → Prop) (X139 : St → Int32 → Int32 → Int32 → Int32 → Int32 → Int32 → Prop) (X152 : St → Int32 → Int32 → Int32 → Int32 → Int32 → Prop) (X157 : St → Int32 → Int32 → Int32 → Int32 → Int32 → Int32 → Prop) (X219 : St → Prop) (X220 : St → Int32 → Prop) (S : St)  : Prop :=
  P 0 S
def st_X5_readHead_71 (c : Nat) (r : Nat) (P : Int32 → St → Prop) (X18 : St → Prop) (X71 : St → Int32 → Int32 → Int32 → Int32 → Int32 → Int32 → Prop) (X110 : St → Prop) (X134 : St → Int32 → Int32 → Int32 → Int32 → Int32 → Prop) (X139 : St → Int32 → Int32 → Int32 → Int32 → Int32 → Int32 → Prop) (X152 : St → Int32 → Int32 → Int32 → Int32 → Int32 → Prop) (X157 : St → Int32 → Int32 → Int32 → Int32 → Int32 → Int32 → Prop) (X219 : St → Prop) (X220 : St → Int32 → Prop) (S : St) (v2 : Int32) (v3 : Int32) (v4 : Int32) (v5 : Int32) (v6 : Int32) (v7 : Int32) : Prop :=
  ((v2 ≤ v7 → ((v5 = 0 ∨ v5 = 1) ∧ ∀ S42 : St, S42 = stM S 2 0 v5 → wp_X2_nextLong S42 c r (fun r44 S43 => ∀ S45 : St, S45 = stM S43 2 1 r44 → wp_X2_isBroken S45 c r (fun r47 S46 => ((¬ r47 = 0 → X219 S46) ∧ (r47 = 0 → ((¬ v5 = v6 → X219 S46) ∧ (v5 = v6 → ((¬ (S46.2.1 2 1) = v3 → X219 S46) ∧ ((S46.2.1 2 1) = v3 → ((1000 < (S46.2.1 2 1) → X219 S46) ∧ (¬ 1000 < (S46.2.1 2 1) → X220 S46 1)))))))))))) ∧ (¬ v2 ≤ v7 → ∀ (r53 : Int32) (S52 : St), r53 = fv_X2_next S c r → S52 = fs_X2_next S c r → ∀ x54 : Int32, x54 = fv_X5_tableOfMark S52 r53 → wp_X2_isBroken S52 c r (fun r56 S55 => ((¬ r56 = 0 → X110 S55) ∧ (r56 = 0 → ((x54 ≤ v4 → X110 S55) ∧ (¬ x54 ≤ v4 → wp_X5_readLengths S55 x54 c r (fun r60 S59 => ((¬ r60 = 0 → ∀ x62 : Int32, x62 = v3 + (rGet S59 67 x54) → ((¬ v5 = 0 → X134 S59 v2 x62 v6 v7 x54) ∧ (v5 = 0 → ((¬ x54 = 0 → X139 S59 v2 x62 v6 v7 x54 0) ∧ (x54 = 0 → X134 S59 v2 x62 v6 v7 x54))))) ∧ (r60 = 0 → X110 S59))))))))))
def st_X5_readHead_110 (c : Nat) (r : Nat) (P : Int32 → St → Prop) (X18 : St → Prop) (X71 : St → Int32 → Int32 → Int32 → Int32 → Int32 → Int32 → Prop) (X110 : St → Prop) (X134 : St → Int32 → Int32 → Int32 → Int32 → Int32 → Prop) (X139 : St → Int32 → Int32 → Int32 → Int32 → Int32 → Int32 → Prop) (X152 : St → Int32 → Int32 → Int32 → Int32 → Int32 → Prop) (X157 : St → Int32 → Int32 → Int32 → Int32 → Int32 → Int32 → Prop) (X219 : St → Prop) (X220 : St → Int32 → Prop) (S : St)  : Prop :=
  P 0 S
def st_X5_readHead_134 (c : Nat) (r : Nat) (P : Int32 → St → Prop) (X18 : St → Prop) (X71 : St → Int32 → Int32 → Int32 → Int32 → Int32 → Int32 → Prop) (X110 : St → Prop) (X134 : St → Int32 → Int32 → Int32 → Int32 → Int32 → Prop) (X139 : St → Int32 → Int32 → Int32 → Int32 → Int32 → Int32 → Prop) (X152 : St → Int32 → Int32 → Int32 → Int32 → Int32 → Prop) (X157 : St → Int32 → Int32 → Int32 → Int32 → Int32 → Int32 → Prop) (X219 : St → Prop) (X220 : St → Int32 → Prop) (S : St) (v2 : Int32) (v3 : Int32) (v6 : Int32) (v7 : Int32) (v8 : Int32) : Prop :=
  X139 S v2 v3 v6 v7 v8 1
def st_X5_readHead_139 (c : Nat) (r : Nat) (P : Int32 → St → Prop) (X18 : St → Prop) (X71 : St → Int32 → Int32 → Int32 → Int32 → Int32 → Int32 → Prop) (X110 : St → Prop) (X134 : St → Int32 → Int32 → Int32 → Int32 → Int32 → Prop) (X139 : St → Int32 → Int32 → Int32 → Int32 → Int32 → Int32 → Prop) (X152 : St → Int32 → Int32 → Int32 → Int32 → Int32 → Prop) (X157 : St → Int32 → Int32 → Int32 → Int32 → Int32 → Int32 → Prop) (X219 : St → Prop) (X220 : St → Int32 → Prop) (S : St) (v2 : Int32) (v3 : Int32) (v6 : Int32) (v7 : Int32) (v8 : Int32) (s0 : Int32) : Prop :=
  ((¬ v6 = 0 → X152 S v2 v3 s0 v7 v8) ∧ (v6 = 0 → ((¬ v8 = 1 → X157 S v2 v3 s0 v7 v8 0) ∧ (v8 = 1 → X152 S v2 v3 s0 v7 v8))))
def st_X5_readHead_152 (c : Nat) (r : Nat) (P : Int32 → St → Prop) (X18 : St → Prop) (X71 : St → Int32 → Int32 → Int32 → Int32 → Int32 → Int32 → Prop) (X110 : St → Prop) (X134 : St → Int32 → Int32 → Int32 → Int32 → Int32 → Prop) (X139 : St → Int32 → Int32 → Int32 → Int32 → Int32 → Int32 → Prop) (X152 : St → Int32 → Int32 → Int32 → Int32 → Int32 → Prop) (X157 : St → Int32 → Int32 → Int32 → Int32 → Int32 → Int32 → Prop) (X219 : St → Prop) (X220 : St → Int32 → Prop) (S : St) (v2 : Int32) (v3 : Int32) (v5 : Int32) (v7 : Int32) (v8 : Int32) : Prop :=
  X157 S v2 v3 v5 v7 v8 1
def st_X5_readHead_157 (c : Nat) (r : Nat) (P : Int32 → St → Prop) (X18 : St → Prop) (X71 : St → Int32 → Int32 → Int32 → Int32 → Int32 → Int32 → Prop) (X110 : St → Prop) (X134 : St → Int32 → Int32 → Int32 → Int32 → Int32 → Prop) (X139 : St → Int32 → Int32 → Int32 → Int32 → Int32 → Int32 → Prop) (X152 : St → Int32 → Int32 → Int32 → Int32 → Int32 → Prop) (X157 : St → Int32 → Int32 → Int32 → Int32 → Int32 → Int32 → Prop) (X219 : St → Prop) (X220 : St → Int32 → Prop) (S : St) (v2 : Int32) (v3 : Int32) (v5 : Int32) (v7 : Int32) (v8 : Int32) (s0 : Int32) : Prop :=
  ∀ x67 : Int32, x67 = v7 + 1 → X71 S v2 v3 v8 v5 s0 x67
def st_X5_readHead_219 (c : Nat) (r : Nat) (P : Int32 → St → Prop) (X18 : St → Prop) (X71 : St → Int32 → Int32 → Int32 → Int32 → Int32 → Int32 → Prop) (X110 : St → Prop) (X134 : St → Int32 → Int32 → Int32 → Int32 → Int32 → Prop) (X139 : St → Int32 → Int32 → Int32 → Int32 → Int32 → Int32 → Prop) (X152 : St → Int32 → Int32 → Int32 → Int32 → Int32 → Prop) (X157 : St → Int32 → Int32 → Int32 → Int32 → Int32 → Int32 → Prop) (X219 : St → Prop) (X220 : St → Int32 → Prop) (S : St)  : Prop :=
  X220 S 0
def st_X5_readHead_220 (c : Nat) (r : Nat) (P : Int32 → St → Prop) (X18 : St → Prop) (X71 : St → Int32 → Int32 → Int32 → Int32 → Int32 → Int32 → Prop) (X110 : St → Prop) (X134 : St → Int32 → Int32 → Int32 → Int32 → Int32 → Prop) (X139 : St → Int32 → Int32 → Int32 → Int32 → Int32 → Int32 → Prop) (X152 : St → Int32 → Int32 → Int32 → Int32 → Int32 → Prop) (X157 : St → Int32 → Int32 → Int32 → Int32 → Int32 → Int32 → Prop) (X219 : St → Prop) (X220 : St → Int32 → Prop) (S : St) (s0 : Int32) : Prop :=
  ((s0 = 0 ∨ s0 = 1) ∧ P s0 S)
def at_X5_readHead_18 (f : Fx) (g : Gx) (T0 : List (Nat × Nat × Nat)) (c : Nat) (r : Nat) (P : Int32 → St → Prop) (S : St)  : Prop := S.2.2.1 = T0 → WW f rm_X5_readHead g 9 0 0 (Qi f g 0 0 T0 P) S 18 [] []
def at_X5_readHead_71 (f : Fx) (g : Gx) (T0 : List (Nat × Nat × Nat)) (c : Nat) (r : Nat) (P : Int32 → St → Prop) (S : St) (v2 : Int32) (v3 : Int32) (v4 : Int32) (v5 : Int32) (v6 : Int32) (v7 : Int32) : Prop := S.2.2.1 = T0 → WW f rm_X5_readHead g 9 0 0 (Qi f g 0 0 T0 P) S 71 [(0, .ref (gad g 156)), (1, .ref c), (2, .int v2), (3, .int v3), (4, .int v4), (5, .int v5), (6, .int v6), (7, .int v7)] []
def at_X5_readHead_110 (f : Fx) (g : Gx) (T0 : List (Nat × Nat × Nat)) (c : Nat) (r : Nat) (P : Int32 → St → Prop) (S : St)  : Prop := S.2.2.1 = T0 → WW f rm_X5_readHead g 9 0 0 (Qi f g 0 0 T0 P) S 110 [] []
def at_X5_readHead_134 (f : Fx) (g : Gx) (T0 : List (Nat × Nat × Nat)) (c : Nat) (r : Nat) (P : Int32 → St → Prop) (S : St) (v2 : Int32) (v3 : Int32) (v6 : Int32) (v7 : Int32) (v8 : Int32) : Prop := S.2.2.1 = T0 → WW f rm_X5_readHead g 9 0 0 (Qi f g 0 0 T0 P) S 134 [(0, .ref (gad g 156)), (1, .ref c), (2, .int v2), (3, .int v3), (6, .int v6), (7, .int v7), (8, .int v8)] []
def at_X5_readHead_139 (f : Fx) (g : Gx) (T0 : List (Nat × Nat × Nat)) (c : Nat) (r : Nat) (P : Int32 → St → Prop) (S : St) (v2 : Int32) (v3 : Int32) (v6 : Int32) (v7 : Int32) (v8 : Int32) (s0 : Int32) : Prop := S.2.2.1 = T0 → WW f rm_X5_readHead g 9 0 0 (Qi f g 0 0 T0 P) S 139 [(0, .ref (gad g 156)), (1, .ref c), (2, .int v2), (3, .int v3), (6, .int v6), (7, .int v7), (8, .int v8)] [.int s0]
def at_X5_readHead_152 (f : Fx) (g : Gx) (T0 : List (Nat × Nat × Nat)) (c : Nat) (r : Nat) (P : Int32 → St → Prop) (S : St) (v2 : Int32) (v3 : Int32) (v5 : Int32) (v7 : Int32) (v8 : Int32) : Prop := S.2.2.1 = T0 → WW f rm_X5_readHead g 9 0 0 (Qi f g 0 0 T0 P) S 152 [(0, .ref (gad g 156)), (1, .ref c), (2, .int v2), (3, .int v3), (5, .int v5), (7, .int v7), (8, .int v8)] []
def at_X5_readHead_157 (f : Fx) (g : Gx) (T0 : List (Nat × Nat × Nat)) (c : Nat) (r : Nat) (P : Int32 → St → Prop) (S : St) (v2 : Int32) (v3 : Int32) (v5 : Int32) (v7 : Int32) (v8 : Int32) (s0 : Int32) : Prop := S.2.2.1 = T0 → WW f rm_X5_readHead g 9 0 0 (Qi f g 0 0 T0 P) S 157 [(0, .ref (gad g 156)), (1, .ref c), (2, .int v2), (3, .int v3), (5, .int v5), (7, .int v7), (8, .int v8)] [.int s0]
def at_X5_readHead_219 (f : Fx) (g : Gx) (T0 : List (Nat × Nat × Nat)) (c : Nat) (r : Nat) (P : Int32 → St → Prop) (S : St)  : Prop := S.2.2.1 = T0 → WW f rm_X5_readHead g 9 0 0 (Qi f g 0 0 T0 P) S 219 [] []
def at_X5_readHead_220 (f : Fx) (g : Gx) (T0 : List (Nat × Nat × Nat)) (c : Nat) (r : Nat) (P : Int32 → St → Prop) (S : St) (s0 : Int32) : Prop := S.2.2.1 = T0 → WW f rm_X5_readHead g 9 0 0 (Qi f g 0 0 T0 P) S 220 [] [.int s0]
set_option maxHeartbeats 4000000 in
set_option maxRecDepth 100000 in
theorem run_X5_readHead_18 {f : Fx} {g : Gx} {T0 : List (Nat × Nat × Nat)} {S : St} {c : Nat} {r : Nat} {P : Int32 → St → Prop} (C : Cx f g cX5_readHead 9 RX5) (hrt : (fmeth f).sig.returnType = (some .boolean)) (hm : (c, 2, r) ∈ T0) (hr : r < 68)  (h : st_X5_readHead_18 c r P (at_X5_readHead_18 f g T0 c r P) (at_X5_readHead_71 f g T0 c r P) (at_X5_readHead_110 f g T0 c r P) (at_X5_readHead_134 f g T0 c r P) (at_X5_readHead_139 f g T0 c r P) (at_X5_readHead_152 f g T0 c r P) (at_X5_readHead_157 f g T0 c r P) (at_X5_readHead_219 f g T0 c r P) (at_X5_readHead_220 f g T0 c r P) S ) : at_X5_readHead_18 f g T0 c r P S  := by
  intro hT 
  unfold st_X5_readHead_18 at h
  refine ww_iconst (v := 0) C dX5_readHead_18 (by decide) ?_
  exact ww_zret C hrt dX5_readHead_19 hT (by decide) h
set_option maxHeartbeats 4000000 in
set_option maxRecDepth 100000 in
theorem run_X5_readHead_71 {f : Fx} {g : Gx} {T0 : List (Nat × Nat × Nat)} {S : St} {c : Nat} {r : Nat} {P : Int32 → St → Prop} (C : Cx f g cX5_readHead 9 RX5) (hrt : (fmeth f).sig.returnType = (some .boolean)) (hm : (c, 2, r) ∈ T0) (hr : r < 68) {v2 : Int32} {v3 : Int32} {v4 : Int32} {v5 : Int32} {v6 : Int32} {v7 : Int32} (h : st_X5_readHead_71 c r P (at_X5_readHead_18 f g T0 c r P) (at_X5_readHead_71 f g T0 c r P) (at_X5_readHead_110 f g T0 c r P) (at_X5_readHead_134 f g T0 c r P) (at_X5_readHead_139 f g T0 c r P) (at_X5_readHead_152 f g T0 c r P) (at_X5_readHead_157 f g T0 c r P) (at_X5_readHead_219 f g T0 c r P) (at_X5_readHead_220 f g T0 c r P) S v2 v3 v4 v5 v6 v7) : at_X5_readHead_71 f g T0 c r P S v2 v3 v4 v5 v6 v7 := by
  intro hT 
  unfold st_X5_readHead_71 at h
  refine ww_iload C dX5_readHead_71 7 rfl ?_
  refine ww_iload_n C dX5_readHead_73 2 rfl ?_
  refine ww_icmp_ge (tgt := 169) C dX5_readHead_74 (by decide) (fun q41 => ?_) (fun q41 => ?_)
  · replace h := h.1 q41
    refine ww_aload_n C dX5_readHead_169 0 rfl ?_
    refine ww_iload C dX5_readHead_170 5 rfl ?_
    refine pf_PackedReader_saysGlyphs C h.1 bw_143 dX5_readHead_172 ?_
    replace h := h.2
    refine ww_nm (fun S42 e_S42 => ?_)
    replace h := h S42 e_S42
    have hT_S42 : S42.2.2.1 = T0 := by rw [e_S42]; exact hT
    refine ww_aload_n C dX5_readHead_175 0 rfl ?_
    refine ww_aload_n C dX5_readHead_176 1 rfl ?_
    refine ww_cVi (As := []) (rest := [.ref (gad g 156)]) C ok_X2_nextLong bw_702 dX5_readHead_177 (run_X2_nextLong (c := c) (r := r) (by rw [hT_S42]; exact hm) hr (fun _ => h)) (rc_Cursor (q := c) (r := r) (by rw [hT_S42]; exact hm)) rfl ⟨Nat.le_of_ble_eq_true rfl, Nat.le_of_ble_eq_true rfl⟩ (Nat.le_of_ble_eq_true rfl) (c2 := 0) (s2 := 0) rfl rfl ⟨Nat.le_of_ble_eq_true rfl, Nat.le_of_ble_eq_true rfl⟩ rfl (fun r44 S43 hp hTg => ?_)
    replace h := hp
    have hT_S43 : S43.2.2.1 = T0 := by rw [hTg]; exact hT_S42
    refine pf_PackedReader_streamLength C bw_144 dX5_readHead_180 ?_
    refine ww_nm (fun S45 e_S45 => ?_)
    replace h := h S45 e_S45
    have hT_S45 : S45.2.2.1 = T0 := by rw [e_S45]; exact hT_S43
    refine ww_aload_n C dX5_readHead_183 1 rfl ?_
    refine ww_cVi (As := []) (rest := []) C ok_X2_isBroken bw_694 dX5_readHead_184 (run_X2_isBroken (c := c) (r := r) (by rw [hT_S45]; exact hm) hr (fun _ => h)) (rc_Cursor (q := c) (r := r) (by rw [hT_S45]; exact hm)) rfl ⟨Nat.le_of_ble_eq_true rfl, Nat.le_of_ble_eq_true rfl⟩ (Nat.le_of_ble_eq_true rfl) (c2 := 0) (s2 := 0) rfl rfl ⟨Nat.le_of_ble_eq_true rfl, Nat.le_of_ble_eq_true rfl⟩ rfl (fun r47 S46 hp hTg => ?_)
    replace h := hp
    have hT_S46 : S46.2.2.1 = T0 := by rw [hTg]; exact hT_S45
    refine ww_if_ne (tgt := 219) C dX5_readHead_187 (by decide) (fun q48 => ?_) (fun q48 => ?_)
    · replace h := h.1 q48
      exact ww_sub [] rfl (h hT_S46)
    · replace h := h.2 q48
      refine ww_iload C dX5_readHead_190 5 rfl ?_
      refine ww_iload C dX5_readHead_192 6 rfl ?_
      refine ww_icmp_ne (tgt := 219) C dX5_readHead_194 (by decide) (fun q49 => ?_) (fun q49 => ?_)
      · replace h := h.1 q49
        exact ww_sub [] rfl (h hT_S46)
      · replace h := h.2 q49
        refine ww_aload_n C dX5_readHead_197 0 rfl ?_
        refine gf_PackedReader_streamLength C bw_144 dX5_readHead_198 ?_
        refine ww_iload_n C dX5_readHead_201 3 rfl ?_
        refine ww_icmp_ne (tgt := 219) C dX5_readHead_202 (by decide) (fun q50 => ?_) (fun q50 => ?_)
        · replace h := h.1 q50
          exact ww_sub [] rfl (h hT_S46)
        · replace h := h.2 q50
          refine ww_aload_n C dX5_readHead_205 0 rfl ?_
          refine gf_PackedReader_streamLength C bw_144 dX5_readHead_206 ?_
          refine ww_sipush (v := 1000) C dX5_readHead_209 (by decide) ?_
          refine ww_icmp_gt (tgt := 219) C dX5_readHead_212 (by decide) (fun q51 => ?_) (fun q51 => ?_)
          · replace h := h.1 q51
            exact ww_sub [] rfl (h hT_S46)
          · replace h := h.2 q51
            refine ww_iconst (v := 1) C dX5_readHead_215 (by decide) ?_
            refine ww_goto (tgt := 220) C dX5_readHead_216 (by decide) ?_
            exact ww_sub [] rfl (h hT_S46)
  · replace h := h.2 q41
    refine ww_aload_n C dX5_readHead_77 1 rfl ?_
    refine ww_cVi (As := []) (rest := []) C ok_X2_next bw_684 dX5_readHead_78 (cm_X2_next (c := c) (r := r) (by rw [hT]; exact hm) hr) (rc_Cursor (q := c) (r := r) (by rw [hT]; exact hm)) rfl ⟨Nat.le_of_ble_eq_true rfl, Nat.le_of_ble_eq_true rfl⟩ (Nat.le_of_ble_eq_true rfl) (c2 := 0) (s2 := 0) rfl rfl ⟨Nat.le_of_ble_eq_true rfl, Nat.le_of_ble_eq_true rfl⟩ rfl (fun r53 S52 hp hTg => ?_)
    obtain ⟨e_r53, e_S52⟩ := hp
    replace h := h r53 S52 e_r53 e_S52
    have hT_S52 : S52.2.2.1 = T0 := by rw [hTg]; exact hT
    refine ww_cSf (As := [.int r53]) (rest := []) C ok_X5_tableOfMark bw_691 dX5_readHead_81 cm_X5_tableOfMark rfl ⟨Nat.le_of_ble_eq_true rfl, Nat.le_of_ble_eq_true rfl⟩ (Nat.le_of_ble_eq_true rfl) (c2 := 0) (s2 := 0) rfl rfl ⟨Nat.le_of_ble_eq_true rfl, Nat.le_of_ble_eq_true rfl⟩ rfl ?_
    refine ww_topi (fun x54 e_x54 => ?_)
    replace h := h x54 e_x54
    refine ww_istore (lv2 := [(8, .int x54), (0, .ref (gad g 156)), (1, .ref c), (2, .int v2), (3, .int v3), (4, .int v4), (5, .int v5), (6, .int v6), (7, .int v7)]) C dX5_readHead_84 (Nat.le_of_ble_eq_true rfl) rfl ?_
    refine ww_aload_n C dX5_readHead_86 2 rfl ?_
    refine ww_cVi (As := []) (rest := []) C ok_X2_isBroken bw_694 dX5_readHead_87 (run_X2_isBroken (c := c) (r := r) (by rw [hT_S52]; exact hm) hr (fun _ => h)) (rc_Cursor (q := c) (r := r) (by rw [hT_S52]; exact hm)) rfl ⟨Nat.le_of_ble_eq_true rfl, Nat.le_of_ble_eq_true rfl⟩ (Nat.le_of_ble_eq_true rfl) (c2 := 0) (s2 := 0) rfl rfl ⟨Nat.le_of_ble_eq_true rfl, Nat.le_of_ble_eq_true rfl⟩ rfl (fun r56 S55 hp hTg => ?_)
    replace h := hp
    have hT_S55 : S55.2.2.1 = T0 := by rw [hTg]; exact hT_S52
    refine ww_if_ne (tgt := 110) C dX5_readHead_90 (by decide) (fun q57 => ?_) (fun q57 => ?_)
    · replace h := h.1 q57
      exact ww_sub [] rfl (h hT_S55)
    · replace h := h.2 q57
      refine ww_iload C dX5_readHead_93 0 rfl ?_
      refine ww_iload C dX5_readHead_95 5 rfl ?_
      refine ww_icmp_le (tgt := 110) C dX5_readHead_97 (by decide) (fun q58 => ?_) (fun q58 => ?_)
      · replace h := h.1 q58
        exact ww_sub [] rfl (h hT_S55)
      · replace h := h.2 q58
        refine ww_aload_n C dX5_readHead_100 1 rfl ?_
        refine ww_iload C dX5_readHead_101 0 rfl ?_
        refine ww_aload_n C dX5_readHead_103 2 rfl ?_
        refine ww_cVi (As := [.int x54, .ref c]) (rest := []) C ok_X5_readLengths bw_698 dX5_readHead_104 (run_X5_readLengths (c := c) (r := r) (by rw [hT_S55]; exact hm) hr (fun _ => h)) rc_PackedReader rfl ⟨Nat.le_of_ble_eq_true rfl, Nat.le_of_ble_eq_true rfl⟩ (Nat.le_of_ble_eq_true rfl) (c2 := 0) (s2 := 0) rfl rfl ⟨Nat.le_of_ble_eq_true rfl, Nat.le_of_ble_eq_true rfl⟩ rfl (fun r60 S59 hp hTg => ?_)
        replace h := hp
        have hT_S59 : S59.2.2.1 = T0 := by rw [hTg]; exact hT_S55
        refine ww_if_ne (tgt := 112) C dX5_readHead_107 (by decide) (fun q61 => ?_) (fun q61 => ?_)
        · replace h := h.1 q61
          refine ww_iload_n C dX5_readHead_112 4 rfl ?_
          refine ww_aload_n C dX5_readHead_113 1 rfl ?_
          refine gf_PackedReader_streamLengths C bw_142 dX5_readHead_114 ?_
          refine ww_iload C dX5_readHead_117 0 rfl ?_
          refine ww_cVf (As := [.int x54]) (rest := [.int v3]) C ok_X8_get bw_708 dX5_readHead_119 (cm_X8_get (by decide)) (rc_Row (by decide)) rfl ⟨Nat.le_of_ble_eq_true rfl, Nat.le_of_ble_eq_true rfl⟩ (Nat.le_of_ble_eq_true rfl) (c2 := 0) (s2 := 0) rfl rfl ⟨Nat.le_of_ble_eq_true rfl, Nat.le_of_ble_eq_true rfl⟩ rfl ?_
          refine ww_iadd C dX5_readHead_122 ?_
          refine ww_topi (fun x62 e_x62 => ?_)
          replace h := h x62 e_x62
          refine ww_istore_n (lv2 := [(3, .int x62), (8, .int x54), (0, .ref (gad g 156)), (1, .ref c), (2, .int v2), (4, .int v4), (5, .int v5), (6, .int v6), (7, .int v7)]) C dX5_readHead_123 rfl (Nat.le_of_ble_eq_true rfl) rfl ?_
          refine ww_iload C dX5_readHead_124 6 rfl ?_
          refine ww_if_ne (tgt := 134) C dX5_readHead_126 (by decide) (fun q63 => ?_) (fun q63 => ?_)
          · replace h := h.1 q63
            exact ww_sub [2, 3, 4, 0, 7, 8, 1] rfl (h hT_S59)
          · replace h := h.2 q63
            refine ww_iload C dX5_readHead_129 1 rfl ?_
            refine ww_if_ne (tgt := 138) C dX5_readHead_131 (by decide) (fun q64 => ?_) (fun q64 => ?_)
            · replace h := h.1 q64
              refine ww_iconst (v := 0) C dX5_readHead_138 (by decide) ?_
              exact ww_sub [2, 3, 4, 0, 7, 8, 1] rfl (h hT_S59)
            · replace h := h.2 q64
              exact ww_sub [2, 3, 4, 0, 7, 8, 1] rfl (h hT_S59)
        · replace h := h.2 q61
          exact ww_sub [] rfl (h hT_S59)
set_option maxHeartbeats 4000000 in
set_option maxRecDepth 100000 in
theorem run_X5_readHead_110 {f : Fx} {g : Gx} {T0 : List (Nat × Nat × Nat)} {S : St} {c : Nat} {r : Nat} {P : Int32 → St → Prop} (C : Cx f g cX5_readHead 9 RX5) (hrt : (fmeth f).sig.returnType = (some .boolean)) (hm : (c, 2, r) ∈ T0) (hr : r < 68)  (h : st_X5_readHead_110 c r P (at_X5_readHead_18 f g T0 c r P) (at_X5_readHead_71 f g T0 c r P) (at_X5_readHead_110 f g T0 c r P) (at_X5_readHead_134 f g T0 c r P) (at_X5_readHead_139 f g T0 c r P) (at_X5_readHead_152 f g T0 c r P) (at_X5_readHead_157 f g T0 c r P) (at_X5_readHead_219 f g T0 c r P) (at_X5_readHead_220 f g T0 c r P) S ) : at_X5_readHead_110 f g T0 c r P S  := by
  intro hT 
  unfold st_X5_readHead_110 at h
  refine ww_iconst (v := 0) C dX5_readHead_110 (by decide) ?_
  exact ww_zret C hrt dX5_readHead_111 hT (by decide) h
set_option maxHeartbeats 4000000 in
set_option maxRecDepth 100000 in
theorem run_X5_readHead_134 {f : Fx} {g : Gx} {T0 : List (Nat × Nat × Nat)} {S : St} {c : Nat} {r : Nat} {P : Int32 → St → Prop} (C : Cx f g cX5_readHead 9 RX5) (hrt : (fmeth f).sig.returnType = (some .boolean)) (hm : (c, 2, r) ∈ T0) (hr : r < 68) {v2 : Int32} {v3 : Int32} {v6 : Int32} {v7 : Int32} {v8 : Int32} (h : st_X5_readHead_134 c r P (at_X5_readHead_18 f g T0 c r P) (at_X5_readHead_71 f g T0 c r P) (at_X5_readHead_110 f g T0 c r P) (at_X5_readHead_134 f g T0 c r P) (at_X5_readHead_139 f g T0 c r P) (at_X5_readHead_152 f g T0 c r P) (at_X5_readHead_157 f g T0 c r P) (at_X5_readHead_219 f g T0 c r P) (at_X5_readHead_220 f g T0 c r P) S v2 v3 v6 v7 v8) : at_X5_readHead_134 f g T0 c r P S v2 v3 v6 v7 v8 := by
  intro hT 
  unfold st_X5_readHead_134 at h
  refine ww_iconst (v := 1) C dX5_readHead_134 (by decide) ?_
  refine ww_goto (tgt := 139) C dX5_readHead_135 (by decide) ?_
  exact ww_sub [0, 1, 2, 3, 4, 5, 6] rfl (h hT)
set_option maxHeartbeats 4000000 in
set_option maxRecDepth 100000 in
theorem run_X5_readHead_139 {f : Fx} {g : Gx} {T0 : List (Nat × Nat × Nat)} {S : St} {c : Nat} {r : Nat} {P : Int32 → St → Prop} (C : Cx f g cX5_readHead 9 RX5) (hrt : (fmeth f).sig.returnType = (some .boolean)) (hm : (c, 2, r) ∈ T0) (hr : r < 68) {v2 : Int32} {v3 : Int32} {v6 : Int32} {v7 : Int32} {v8 : Int32} {s0 : Int32} (h : st_X5_readHead_139 c r P (at_X5_readHead_18 f g T0 c r P) (at_X5_readHead_71 f g T0 c r P) (at_X5_readHead_110 f g T0 c r P) (at_X5_readHead_134 f g T0 c r P) (at_X5_readHead_139 f g T0 c r P) (at_X5_readHead_152 f g T0 c r P) (at_X5_readHead_157 f g T0 c r P) (at_X5_readHead_219 f g T0 c r P) (at_X5_readHead_220 f g T0 c r P) S v2 v3 v6 v7 v8 s0) : at_X5_readHead_139 f g T0 c r P S v2 v3 v6 v7 v8 s0 := by
  intro hT 
  unfold st_X5_readHead_139 at h
  refine ww_istore (lv2 := [(5, .int s0), (0, .ref (gad g 156)), (1, .ref c), (2, .int v2), (3, .int v3), (6, .int v6), (7, .int v7), (8, .int v8)]) C dX5_readHead_139 (Nat.le_of_ble_eq_true rfl) rfl ?_
  refine ww_iload C dX5_readHead_141 5 rfl ?_
  refine ww_if_ne (tgt := 152) C dX5_readHead_143 (by decide) (fun q65 => ?_) (fun q65 => ?_)
  · replace h := h.1 q65
    exact ww_sub [1, 2, 3, 4, 0, 6, 7] rfl (h hT)
  · replace h := h.2 q65
    refine ww_iload C dX5_readHead_146 7 rfl ?_
    refine ww_iconst (v := 1) C dX5_readHead_148 (by decide) ?_
    refine ww_icmp_ne (tgt := 156) C dX5_readHead_149 (by decide) (fun q66 => ?_) (fun q66 => ?_)
    · replace h := h.1 q66
      refine ww_iconst (v := 0) C dX5_readHead_156 (by decide) ?_
      exact ww_sub [1, 2, 3, 4, 0, 6, 7] rfl (h hT)
    · replace h := h.2 q66
      exact ww_sub [1, 2, 3, 4, 0, 6, 7] rfl (h hT)
set_option maxHeartbeats 4000000 in
set_option maxRecDepth 100000 in
theorem run_X5_readHead_152 {f : Fx} {g : Gx} {T0 : List (Nat × Nat × Nat)} {S : St} {c : Nat} {r : Nat} {P : Int32 → St → Prop} (C : Cx f g cX5_readHead 9 RX5) (hrt : (fmeth f).sig.returnType = (some .boolean)) (hm : (c, 2, r) ∈ T0) (hr : r < 68) {v2 : Int32} {v3 : Int32} {v5 : Int32} {v7 : Int32} {v8 : Int32} (h : st_X5_readHead_152 c r P (at_X5_readHead_18 f g T0 c r P) (at_X5_readHead_71 f g T0 c r P) (at_X5_readHead_110 f g T0 c r P) (at_X5_readHead_134 f g T0 c r P) (at_X5_readHead_139 f g T0 c r P) (at_X5_readHead_152 f g T0 c r P) (at_X5_readHead_157 f g T0 c r P) (at_X5_readHead_219 f g T0 c r P) (at_X5_readHead_220 f g T0 c r P) S v2 v3 v5 v7 v8) : at_X5_readHead_152 f g T0 c r P S v2 v3 v5 v7 v8 := by
  intro hT 
  unfold st_X5_readHead_152 at h
  refine ww_iconst (v := 1) C dX5_readHead_152 (by decide) ?_
  refine ww_goto (tgt := 157) C dX5_readHead_153 (by decide) ?_
  exact ww_sub [0, 1, 2, 3, 4, 5, 6] rfl (h hT)
set_option maxHeartbeats 4000000 in
set_option maxRecDepth 100000 in
theorem run_X5_readHead_157 {f : Fx} {g : Gx} {T0 : List (Nat × Nat × Nat)} {S : St} {c : Nat} {r : Nat} {P : Int32 → St → Prop} (C : Cx f g cX5_readHead 9 RX5) (hrt : (fmeth f).sig.returnType = (some .boolean)) (hm : (c, 2, r) ∈ T0) (hr : r < 68) {v2 : Int32} {v3 : Int32} {v5 : Int32} {v7 : Int32} {v8 : Int32} {s0 : Int32} (h : st_X5_readHead_157 c r P (at_X5_readHead_18 f g T0 c r P) (at_X5_readHead_71 f g T0 c r P) (at_X5_readHead_110 f g T0 c r P) (at_X5_readHead_134 f g T0 c r P) (at_X5_readHead_139 f g T0 c r P) (at_X5_readHead_152 f g T0 c r P) (at_X5_readHead_157 f g T0 c r P) (at_X5_readHead_219 f g T0 c r P) (at_X5_readHead_220 f g T0 c r P) S v2 v3 v5 v7 v8 s0) : at_X5_readHead_157 f g T0 c r P S v2 v3 v5 v7 v8 s0 := by
  intro hT 
  unfold st_X5_readHead_157 at h
  refine ww_istore (lv2 := [(6, .int s0), (0, .ref (gad g 156)), (1, .ref c), (2, .int v2), (3, .int v3), (5, .int v5), (7, .int v7), (8, .int v8)]) C dX5_readHead_157 (Nat.le_of_ble_eq_true rfl) rfl ?_
  refine ww_iload C dX5_readHead_159 7 rfl ?_
  refine ww_istore (lv2 := [(4, .int v8), (6, .int s0), (0, .ref (gad g 156)), (1, .ref c), (2, .int v2), (3, .int v3), (5, .int v5), (7, .int v7), (8, .int v8)]) C dX5_readHead_161 (Nat.le_of_ble_eq_true rfl) rfl ?_
  obtain ⟨x67, e_x67⟩ : ∃ z : Int32, z = v7 + 1 := ⟨_, rfl⟩
  replace h := h x67 e_x67
  refine ww_iinc (v := x67) (lv2 := [(7, .int x67), (4, .int v8), (6, .int s0), (0, .ref (gad g 156)), (1, .ref c), (2, .int v2), (3, .int v3), (5, .int v5), (8, .int v8)]) C dX5_readHead_163 7 rfl (by rw [e_x67]; rfl) (Nat.le_of_ble_eq_true rfl) rfl ?_
  refine ww_goto (tgt := 71) C dX5_readHead_166 (by decide) ?_
  exact ww_sub [3, 4, 5, 6, 1, 7, 2, 0] rfl (h hT)
set_option maxHeartbeats 4000000 in
set_option maxRecDepth 100000 in
theorem run_X5_readHead_219 {f : Fx} {g : Gx} {T0 : List (Nat × Nat × Nat)} {S : St} {c : Nat} {r : Nat} {P : Int32 → St → Prop} (C : Cx f g cX5_readHead 9 RX5) (hrt : (fmeth f).sig.returnType = (some .boolean)) (hm : (c, 2, r) ∈ T0) (hr : r < 68)  (h : st_X5_readHead_219 c r P (at_X5_readHead_18 f g T0 c r P) (at_X5_readHead_71 f g T0 c r P) (at_X5_readHead_110 f g T0 c r P) (at_X5_readHead_134 f g T0 c r P) (at_X5_readHead_139 f g T0 c r P) (at_X5_readHead_152 f g T0 c r P) (at_X5_readHead_157 f g T0 c r P) (at_X5_readHead_219 f g T0 c r P) (at_X5_readHead_220 f g T0 c r P) S ) : at_X5_readHead_219 f g T0 c r P S  := by
  intro hT 
  unfold st_X5_readHead_219 at h
  refine ww_iconst (v := 0) C dX5_readHead_219 (by decide) ?_
  exact ww_sub [] rfl (h hT)
set_option maxHeartbeats 4000000 in
set_option maxRecDepth 100000 in
theorem run_X5_readHead_220 {f : Fx} {g : Gx} {T0 : List (Nat × Nat × Nat)} {S : St} {c : Nat} {r : Nat} {P : Int32 → St → Prop} (C : Cx f g cX5_readHead 9 RX5) (hrt : (fmeth f).sig.returnType = (some .boolean)) (hm : (c, 2, r) ∈ T0) (hr : r < 68) {s0 : Int32} (h : st_X5_readHead_220 c r P (at_X5_readHead_18 f g T0 c r P) (at_X5_readHead_71 f g T0 c r P) (at_X5_readHead_110 f g T0 c r P) (at_X5_readHead_134 f g T0 c r P) (at_X5_readHead_139 f g T0 c r P) (at_X5_readHead_152 f g T0 c r P) (at_X5_readHead_157 f g T0 c r P) (at_X5_readHead_219 f g T0 c r P) (at_X5_readHead_220 f g T0 c r P) S s0) : at_X5_readHead_220 f g T0 c r P S s0 := by
  intro hT 
  unfold st_X5_readHead_220 at h
  exact ww_zret C hrt dX5_readHead_220 hT h.1 h.2
def wp_X5_readHead (S : St) (c : Nat) (r : Nat) (P : Int32 → St → Prop) : Prop :=
  ∀ (X18 : St → Prop) (X71 : St → Int32 → Int32 → Int32 → Int32 → Int32 → Int32 → Prop) (X110 : St → Prop) (X134 : St → Int32 → Int32 → Int32 → Int32 → Int32 → Prop) (X139 : St → Int32 → Int32 → Int32 → Int32 → Int32 → Int32 → Prop) (X152 : St → Int32 → Int32 → Int32 → Int32 → Int32 → Prop) (X157 : St → Int32 → Int32 → Int32 → Int32 → Int32 → Int32 → Prop) (X219 : St → Prop) (X220 : St → Int32 → Prop), (∀ S , st_X5_readHead_18 c r P X18 X71 X110 X134 X139 X152 X157 X219 X220 S  → X18 S ) → (∀ S v2 v3 v4 v5 v6 v7, st_X5_readHead_71 c r P X18 X71 X110 X134 X139 X152 X157 X219 X220 S v2 v3 v4 v5 v6 v7 → X71 S v2 v3 v4 v5 v6 v7) → (∀ S , st_X5_readHead_110 c r P X18 X71 X110 X134 X139 X152 X157 X219 X220 S  → X110 S ) → (∀ S v2 v3 v6 v7 v8, st_X5_readHead_134 c r P X18 X71 X110 X134 X139 X152 X157 X219 X220 S v2 v3 v6 v7 v8 → X134 S v2 v3 v6 v7 v8) → (∀ S v2 v3 v6 v7 v8 s0, st_X5_readHead_139 c r P X18 X71 X110 X134 X139 X152 X157 X219 X220 S v2 v3 v6 v7 v8 s0 → X139 S v2 v3 v6 v7 v8 s0) → (∀ S v2 v3 v5 v7 v8, st_X5_readHead_152 c r P X18 X71 X110 X134 X139 X152 X157 X219 X220 S v2 v3 v5 v7 v8 → X152 S v2 v3 v5 v7 v8) → (∀ S v2 v3 v5 v7 v8 s0, st_X5_readHead_157 c r P X18 X71 X110 X134 X139 X152 X157 X219 X220 S v2 v3 v5 v7 v8 s0 → X157 S v2 v3 v5 v7 v8 s0) → (∀ S , st_X5_readHead_219 c r P X18 X71 X110 X134 X139 X152 X157 X219 X220 S  → X219 S ) → (∀ S s0, st_X5_readHead_220 c r P X18 X71 X110 X134 X139 X152 X157 X219 X220 S s0 → X220 S s0) → ∀ (r69 : Int32) (S68 : St), r69 = fv_X2_next S c r → S68 = fs_X2_next S c r → ((¬ r69 = 119 → X18 S68) ∧ (r69 = 119 → ∀ (r72 : Int32) (S71 : St), r72 = fv_X2_next S68 c r → S71 = fs_X2_next S68 c r → ((r72 = 50 → ∀ S74 : St, S74 = rMake S71 66 → ∀ S75 : St, S75 = rZeros S74 66 7 → ∀ S76 : St, S76 = rMake S75 67 → ∀ S77 : St, S77 = rZeros S76 67 7 → ∀ (r79 : Int32) (S78 : St), r79 = fv_X2_next S77 c r → S78 = fs_X2_next S77 c r → ∀ x80 : Int32, x80 = (-1) → X71 S78 r79 0 x80 0 0 0) ∧ (¬ r72 = 50 → X18 S71))))
set_option maxHeartbeats 4000000 in
set_option maxRecDepth 100000 in
theorem run_X5_readHead {l : Launch} {g : Gx} {S : St} {c : Nat} {r : Nat} {P : Int32 → St → Prop} (hm : (c, 2, r) ∈ S.2.2.1) (hr : r < 68) (h : rowsLe S → wp_X5_readHead S c r P) : CMi g l yX5_readHead cX5_readHead 9 (some .boolean) rm_X5_readHead [.ref (gad g 156), .ref c] S P := cm_entry (own := RX5) (plainFor_of_name (by decide)) rfl (Nat.le_of_ble_eq_true rfl) rfl (fun hle f hf C hrt => by
  subst hf
  replace h := h hle
  obtain ⟨T0, hT⟩ : ∃ T, S.2.2.1 = T := ⟨_, rfl⟩
  rw [hT] at hm
  rw [hT]
  replace h := h (at_X5_readHead_18 f g T0 c r P) (at_X5_readHead_71 f g T0 c r P) (at_X5_readHead_110 f g T0 c r P) (at_X5_readHead_134 f g T0 c r P) (at_X5_readHead_139 f g T0 c r P) (at_X5_readHead_152 f g T0 c r P) (at_X5_readHead_157 f g T0 c r P) (at_X5_readHead_219 f g T0 c r P) (at_X5_readHead_220 f g T0 c r P) (fun S  h => run_X5_readHead_18 C hrt hm hr h) (fun S v2 v3 v4 v5 v6 v7 h => run_X5_readHead_71 C hrt hm hr h) (fun S  h => run_X5_readHead_110 C hrt hm hr h) (fun S v2 v3 v6 v7 v8 h => run_X5_readHead_134 C hrt hm hr h) (fun S v2 v3 v6 v7 v8 s0 h => run_X5_readHead_139 C hrt hm hr h) (fun S v2 v3 v5 v7 v8 h => run_X5_readHead_152 C hrt hm hr h) (fun S v2 v3 v5 v7 v8 s0 h => run_X5_readHead_157 C hrt hm hr h) (fun S  h => run_X5_readHead_219 C hrt hm hr h) (fun S s0 h => run_X5_readHead_220 C hrt hm hr h)
  refine ww_aload_n C dX5_readHead_0 1 rfl ?_
  refine ww_cVi (As := []) (rest := []) C ok_X2_next bw_684 dX5_readHead_1 (cm_X2_next (c := c) (r := r) (by rw [hT]; exact hm) hr) (rc_Cursor (q := c) (r := r) (by rw [hT]; exact hm)) rfl ⟨Nat.le_of_ble_eq_true rfl, Nat.le_of_ble_eq_true rfl⟩ (Nat.le_of_ble_eq_true rfl) (c2 := 0) (s2 := 0) rfl rfl ⟨Nat.le_of_ble_eq_true rfl, Nat.le_of_ble_eq_true rfl⟩ rfl (fun r69 S68 hp hTg => ?_)
  obtain ⟨e_r69, e_S68⟩ := hp
  replace h := h r69 S68 e_r69 e_S68
  have hT_S68 : S68.2.2.1 = T0 := by rw [hTg]; exact hT
  refine ww_bipush (v := 119) C dX5_readHead_4 (by decide) ?_
  refine ww_icmp_ne (tgt := 18) C dX5_readHead_6 (by decide) (fun q70 => ?_) (fun q70 => ?_)
  · replace h := h.1 q70
    exact ww_sub [] rfl (h hT_S68)
  · replace h := h.2 q70
    refine ww_aload_n C dX5_readHead_9 1 rfl ?_
    refine ww_cVi (As := []) (rest := []) C ok_X2_next bw_684 dX5_readHead_10 (cm_X2_next (c := c) (r := r) (by rw [hT_S68]; exact hm) hr) (rc_Cursor (q := c) (r := r) (by rw [hT_S68]; exact hm)) rfl ⟨Nat.le_of_ble_eq_true rfl, Nat.le_of_ble_eq_true rfl⟩ (Nat.le_of_ble_eq_true rfl) (c2 := 0) (s2 := 0) rfl rfl ⟨Nat.le_of_ble_eq_true rfl, Nat.le_of_ble_eq_true rfl⟩ rfl (fun r72 S71 hp hTg => ?_)
    obtain ⟨e_r72, e_S71⟩ := hp
    replace h := h r72 S71 e_r72 e_S71
    have hT_S71 : S71.2.2.1 = T0 := by rw [hTg]; exact hT_S68
    refine ww_bipush (v := 50) C dX5_readHead_13 (by decide) ?_
    refine ww_icmp_eq (tgt := 20) C dX5_readHead_15 (by decide) (fun q73 => ?_) (fun q73 => ?_)
    · replace h := h.1 q73
      refine ww_aload_n C dX5_readHead_20 0 rfl ?_
      refine gf_PackedReader_plainLengths C bw_141 dX5_readHead_21 ?_
      refine ww_cVg (As := []) (rest := []) C ok_X8_makeEmpty bw_689 dX5_readHead_24 (cm_X8_makeEmpty (by decide)) (rc_Row (by decide)) rfl ⟨Nat.le_of_ble_eq_true rfl, Nat.le_of_ble_eq_true rfl⟩ (Nat.le_of_ble_eq_true rfl) (c2 := 0) (s2 := 0) rfl rfl ⟨Nat.le_of_ble_eq_true rfl, Nat.le_of_ble_eq_true rfl⟩ rfl (fun hTg => ?_)
      refine ww_nm (fun S74 e_S74 => ?_)
      replace h := h S74 e_S74
      have hT_S74 : S74.2.2.1 = T0 := by rw [e_S74, hTg]; exact hT_S71
      refine ww_aload_n C dX5_readHead_27 0 rfl ?_
      refine gf_PackedReader_plainLengths C bw_141 dX5_readHead_28 ?_
      refine ww_bipush (v := 7) C dX5_readHead_31 (by decide) ?_
      refine ww_cVg (As := [.int 7]) (rest := []) C ok_X8_addZeros bw_690 dX5_readHead_33 (cm_X8_addZeros (by decide)) (rc_Row (by decide)) rfl ⟨Nat.le_of_ble_eq_true rfl, Nat.le_of_ble_eq_true rfl⟩ (Nat.le_of_ble_eq_true rfl) (c2 := 0) (s2 := 0) rfl rfl ⟨Nat.le_of_ble_eq_true rfl, Nat.le_of_ble_eq_true rfl⟩ rfl (fun hTg => ?_)
      refine ww_nm (fun S75 e_S75 => ?_)
      replace h := h S75 e_S75
      have hT_S75 : S75.2.2.1 = T0 := by rw [e_S75, hTg]; exact hT_S74
      refine ww_aload_n C dX5_readHead_36 0 rfl ?_
      refine gf_PackedReader_streamLengths C bw_142 dX5_readHead_37 ?_
      refine ww_cVg (As := []) (rest := []) C ok_X8_makeEmpty bw_689 dX5_readHead_40 (cm_X8_makeEmpty (by decide)) (rc_Row (by decide)) rfl ⟨Nat.le_of_ble_eq_true rfl, Nat.le_of_ble_eq_true rfl⟩ (Nat.le_of_ble_eq_true rfl) (c2 := 0) (s2 := 0) rfl rfl ⟨Nat.le_of_ble_eq_true rfl, Nat.le_of_ble_eq_true rfl⟩ rfl (fun hTg => ?_)
      refine ww_nm (fun S76 e_S76 => ?_)
      replace h := h S76 e_S76
      have hT_S76 : S76.2.2.1 = T0 := by rw [e_S76, hTg]; exact hT_S75
      refine ww_aload_n C dX5_readHead_43 0 rfl ?_
      refine gf_PackedReader_streamLengths C bw_142 dX5_readHead_44 ?_
      refine ww_bipush (v := 7) C dX5_readHead_47 (by decide) ?_
      refine ww_cVg (As := [.int 7]) (rest := []) C ok_X8_addZeros bw_690 dX5_readHead_49 (cm_X8_addZeros (by decide)) (rc_Row (by decide)) rfl ⟨Nat.le_of_ble_eq_true rfl, Nat.le_of_ble_eq_true rfl⟩ (Nat.le_of_ble_eq_true rfl) (c2 := 0) (s2 := 0) rfl rfl ⟨Nat.le_of_ble_eq_true rfl, Nat.le_of_ble_eq_true rfl⟩ rfl (fun hTg => ?_)
      refine ww_nm (fun S77 e_S77 => ?_)
      replace h := h S77 e_S77
      have hT_S77 : S77.2.2.1 = T0 := by rw [e_S77, hTg]; exact hT_S76
      refine ww_aload_n C dX5_readHead_52 1 rfl ?_
      refine ww_cVi (As := []) (rest := []) C ok_X2_next bw_684 dX5_readHead_53 (cm_X2_next (c := c) (r := r) (by rw [hT_S77]; exact hm) hr) (rc_Cursor (q := c) (r := r) (by rw [hT_S77]; exact hm)) rfl ⟨Nat.le_of_ble_eq_true rfl, Nat.le_of_ble_eq_true rfl⟩ (Nat.le_of_ble_eq_true rfl) (c2 := 0) (s2 := 0) rfl rfl ⟨Nat.le_of_ble_eq_true rfl, Nat.le_of_ble_eq_true rfl⟩ rfl (fun r79 S78 hp hTg => ?_)
      obtain ⟨e_r79, e_S78⟩ := hp
      replace h := h r79 S78 e_r79 e_S78
      have hT_S78 : S78.2.2.1 = T0 := by rw [hTg]; exact hT_S77
      refine ww_istore_n (lv2 := [(2, .int r79), (0, .ref (gad g 156)), (1, .ref c)]) C dX5_readHead_56 rfl (Nat.le_of_ble_eq_true rfl) rfl ?_
      refine ww_iconst (v := 0) C dX5_readHead_57 (by decide) ?_
      refine ww_istore_n (lv2 := [(3, .int 0), (2, .int r79), (0, .ref (gad g 156)), (1, .ref c)]) C dX5_readHead_58 rfl (Nat.le_of_ble_eq_true rfl) rfl ?_
      refine ww_iconst (v := (-1)) C dX5_readHead_59 (by decide) ?_
      refine ww_topi (fun x80 e_x80 => ?_)
      replace h := h x80 e_x80
      refine ww_istore (lv2 := [(4, .int x80), (3, .int 0), (2, .int r79), (0, .ref (gad g 156)), (1, .ref c)]) C dX5_readHead_60 (Nat.le_of_ble_eq_true rfl) rfl ?_
      refine ww_iconst (v := 0) C dX5_readHead_62 (by decide) ?_
      refine ww_istore (lv2 := [(5, .int 0), (4, .int x80), (3, .int 0), (2, .int r79), (0, .ref (gad g 156)), (1, .ref c)]) C dX5_readHead_63 (Nat.le_of_ble_eq_true rfl) rfl ?_
      refine ww_iconst (v := 0) C dX5_readHead_65 (by decide) ?_
      refine ww_istore (lv2 := [(6, .int 0), (5, .int 0), (4, .int x80), (3, .int 0), (2, .int r79), (0, .ref (gad g 156)), (1, .ref c)]) C dX5_readHead_66 (Nat.le_of_ble_eq_true rfl) rfl ?_
      refine ww_iconst (v := 0) C dX5_readHead_68 (by decide) ?_
      refine ww_istore (lv2 := [(7, .int 0), (6, .int 0), (5, .int 0), (4, .int x80), (3, .int 0), (2, .int r79), (0, .ref (gad g 156)), (1, .ref c)]) C dX5_readHead_69 (Nat.le_of_ble_eq_true rfl) rfl ?_
      exact ww_sub [6, 7, 5, 4, 3, 2, 1, 0] rfl (h hT_S78)
    · replace h := h.2 q73
      exact ww_sub [] rfl (h hT_S71))
abbrev rm_X5_repeatBytes : Room := { frames := 1, cells := 0, slots := 0, locals := 21 }
theorem ok_X5_repeatBytes : MOK yX5_repeatBytes RX5 cX5_repeatBytes 5 (some .boolean) 2 := ⟨bw_750, bw_8, bw_66, bw_751, by decide +kernel⟩
def st_X5_repeatBytes_36 (a : Int32) (d : Int32) (P : Int32 → St → Prop) (X36 : St → Prop) (X41 : St → Int32 → Int32 → Prop) (S : St)  : Prop :=
  P 0 S
def st_X5_repeatBytes_41 (a : Int32) (d : Int32) (P : Int32 → St → Prop) (X36 : St → Prop) (X41 : St → Int32 → Int32 → Prop) (S : St) (v3 : Int32) (v4 : Int32) : Prop :=
  ((v3 ≤ v4 → P 1 S) ∧ (¬ v3 ≤ v4 → ∀ S9 : St, S9 = rAdd S 65 (rGet S 65 ((rLen S 65) - d)) → ∀ x10 : Int32, x10 = v4 + 1 → X41 S9 v3 x10))
def at_X5_repeatBytes_36 (f : Fx) (g : Gx) (T0 : List (Nat × Nat × Nat)) (a : Int32) (d : Int32) (P : Int32 → St → Prop) (S : St)  : Prop := S.2.2.1 = T0 → WW f rm_X5_repeatBytes g 5 0 0 (Qi f g 0 0 T0 P) S 36 [] []
def at_X5_repeatBytes_41 (f : Fx) (g : Gx) (T0 : List (Nat × Nat × Nat)) (a : Int32) (d : Int32) (P : Int32 → St → Prop) (S : St) (v3 : Int32) (v4 : Int32) : Prop := S.2.2.1 = T0 → WW f rm_X5_repeatBytes g 5 0 0 (Qi f g 0 0 T0 P) S 41 [(0, .ref (gad g 156)), (2, .int d), (3, .int v3), (4, .int v4)] []
set_option maxHeartbeats 4000000 in
set_option maxRecDepth 100000 in
theorem run_X5_repeatBytes_36 {f : Fx} {g : Gx} {T0 : List (Nat × Nat × Nat)} {S : St} {a : Int32} {d : Int32} {P : Int32 → St → Prop} (C : Cx f g cX5_repeatBytes 5 RX5) (hrt : (fmeth f).sig.returnType = (some .boolean))   (h : st_X5_repeatBytes_36 a d P (at_X5_repeatBytes_36 f g T0 a d P) (at_X5_repeatBytes_41 f g T0 a d P) S ) : at_X5_repeatBytes_36 f g T0 a d P S  := by
  intro hT 
  unfold st_X5_repeatBytes_36 at h
  refine ww_iconst (v := 0) C dX5_repeatBytes_36 (by decide) ?_
  exact ww_zret C hrt dX5_repeatBytes_37 hT (by decide) h
set_option maxHeartbeats 4000000 in
set_option maxRecDepth 100000 in
theorem run_X5_repeatBytes_41 {f : Fx} {g : Gx} {T0 : List (Nat × Nat × Nat)} {S : St} {a : Int32} {d : Int32} {P : Int32 → St → Prop} (C : Cx f g cX5_repeatBytes 5 RX5) (hrt : (fmeth f).sig.returnType = (some .boolean))  {v3 : Int32} {v4 : Int32} (h : st_X5_repeatBytes_41 a d P (at_X5_repeatBytes_36 f g T0 a d P) (at_X5_repeatBytes_41 f g T0 a d P) S v3 v4) : at_X5_repeatBytes_41 f g T0 a d P S v3 v4 := by
  intro hT 
  unfold st_X5_repeatBytes_41 at h
  refine ww_iload C dX5_repeatBytes_41 3 rfl ?_
  refine ww_iload_n C dX5_repeatBytes_43 2 rfl ?_
  refine ww_icmp_ge (tgt := 76) C dX5_repeatBytes_44 (by decide) (fun q8 => ?_) (fun q8 => ?_)
  · replace h := h.1 q8
    refine ww_iconst (v := 1) C dX5_repeatBytes_76 (by decide) ?_
    exact ww_zret C hrt dX5_repeatBytes_77 hT (by decide) h
  · replace h := h.2 q8
    refine ww_aload_n C dX5_repeatBytes_47 0 rfl ?_
    refine gf_PackedReader_stream C bw_140 dX5_repeatBytes_48 ?_
    refine ww_aload_n C dX5_repeatBytes_51 0 rfl ?_
    refine gf_PackedReader_stream C bw_140 dX5_repeatBytes_52 ?_
    refine ww_aload_n C dX5_repeatBytes_55 0 rfl ?_
    refine gf_PackedReader_stream C bw_140 dX5_repeatBytes_56 ?_
    refine ww_cVf (As := []) (rest := [.ref (gad g 65), .ref (gad g 65)]) C ok_X8_length bw_662 dX5_repeatBytes_59 (cm_X8_length (by decide)) (rc_Row (by decide)) rfl ⟨Nat.le_of_ble_eq_true rfl, Nat.le_of_ble_eq_true rfl⟩ (Nat.le_of_ble_eq_true rfl) (c2 := 0) (s2 := 0) rfl rfl ⟨Nat.le_of_ble_eq_true rfl, Nat.le_of_ble_eq_true rfl⟩ rfl ?_
    refine ww_iload_n C dX5_repeatBytes_62 1 rfl ?_
    refine ww_isub C dX5_repeatBytes_63 ?_
    refine ww_cVf (As := [.int ((rLen S 65) - d)]) (rest := [.ref (gad g 65)]) C ok_X8_get bw_708 dX5_repeatBytes_64 (cm_X8_get (by decide)) (rc_Row (by decide)) rfl ⟨Nat.le_of_ble_eq_true rfl, Nat.le_of_ble_eq_true rfl⟩ (Nat.le_of_ble_eq_true rfl) (c2 := 0) (s2 := 0) rfl rfl ⟨Nat.le_of_ble_eq_true rfl, Nat.le_of_ble_eq_true rfl⟩ rfl ?_
    refine ww_cVg (As := [.int (rGet S 65 ((rLen S 65) - d))]) (rest := []) C ok_X8_add bw_742 dX5_repeatBytes_67 (cm_X8_add (by decide)) (rc_Row (by decide)) rfl ⟨Nat.le_of_ble_eq_true rfl, Nat.le_of_ble_eq_true rfl⟩ (Nat.le_of_ble_eq_true rfl) (c2 := 0) (s2 := 0) rfl rfl ⟨Nat.le_of_ble_eq_true rfl, Nat.le_of_ble_eq_true rfl⟩ rfl (fun hTg => ?_)
    refine ww_nm (fun S9 e_S9 => ?_)
    replace h := h S9 e_S9
    have hT_S9 : S9.2.2.1 = T0 := by rw [e_S9, hTg]; exact hT
    obtain ⟨x10, e_x10⟩ : ∃ z : Int32, z = v4 + 1 := ⟨_, rfl⟩
    replace h := h x10 e_x10
    refine ww_iinc (v := x10) (lv2 := [(4, .int x10), (0, .ref (gad g 156)), (2, .int d), (3, .int v3)]) C dX5_repeatBytes_70 3 rfl (by rw [e_x10]; rfl) (Nat.le_of_ble_eq_true rfl) rfl ?_
    refine ww_goto (tgt := 41) C dX5_repeatBytes_73 (by decide) ?_
    exact ww_sub [1, 2, 3, 0] rfl (h hT_S9)
def wp_X5_repeatBytes (S : St) (a : Int32) (d : Int32) (P : Int32 → St → Prop) : Prop :=
  ∀ (X36 : St → Prop) (X41 : St → Int32 → Int32 → Prop), (∀ S , st_X5_repeatBytes_36 a d P X36 X41 S  → X36 S ) → (∀ S v3 v4, st_X5_repeatBytes_41 a d P X36 X41 S v3 v4 → X41 S v3 v4) → ∀ x11 : Int32, x11 = a + 2 → ((d < 1 → X36 S) ∧ (¬ d < 1 → (((rLen S 65) < d → X36 S) ∧ (¬ (rLen S 65) < d → ((x11 ≤ ((S.2.1 2 1) - (rLen S 65)) → X41 S x11 0) ∧ (¬ x11 ≤ ((S.2.1 2 1) - (rLen S 65)) → X36 S))))))
set_option maxHeartbeats 4000000 in
set_option maxRecDepth 100000 in
theorem run_X5_repeatBytes {l : Launch} {g : Gx} {S : St} {a : Int32} {d : Int32} {P : Int32 → St → Prop}  (h : rowsLe S → wp_X5_repeatBytes S a d P) : CMi g l yX5_repeatBytes cX5_repeatBytes 5 (some .boolean) rm_X5_repeatBytes [.ref (gad g 156), .int a, .int d] S P := cm_entry (own := RX5) (plainFor_of_name (by decide)) rfl (Nat.le_of_ble_eq_true rfl) rfl (fun hle f hf C hrt => by
  subst hf
  replace h := h hle
  obtain ⟨T0, hT⟩ : ∃ T, S.2.2.1 = T := ⟨_, rfl⟩
  rw [hT]
  replace h := h (at_X5_repeatBytes_36 f g T0 a d P) (at_X5_repeatBytes_41 f g T0 a d P) (fun S  h => run_X5_repeatBytes_36 C hrt  h) (fun S v3 v4 h => run_X5_repeatBytes_41 C hrt  h)
  refine ww_iload_n C dX5_repeatBytes_0 1 rfl ?_
  refine ww_iconst (v := 2) C dX5_repeatBytes_1 (by decide) ?_
  refine ww_iadd C dX5_repeatBytes_2 ?_
  refine ww_topi (fun x11 e_x11 => ?_)
  replace h := h x11 e_x11
  refine ww_istore_n (lv2 := [(3, .int x11), (0, .ref (gad g 156)), (1, .int a), (2, .int d)]) C dX5_repeatBytes_3 rfl (Nat.le_of_ble_eq_true rfl) rfl ?_
  refine ww_iload_n C dX5_repeatBytes_4 3 rfl ?_
  refine ww_iconst (v := 1) C dX5_repeatBytes_5 (by decide) ?_
  refine ww_icmp_lt (tgt := 36) C dX5_repeatBytes_6 (by decide) (fun q12 => ?_) (fun q12 => ?_)
  · replace h := h.1 q12
    exact ww_sub [] rfl (h hT)
  · replace h := h.2 q12
    refine ww_iload_n C dX5_repeatBytes_9 3 rfl ?_
    refine ww_aload_n C dX5_repeatBytes_10 1 rfl ?_
    refine gf_PackedReader_stream C bw_140 dX5_repeatBytes_11 ?_
    refine ww_cVf (As := []) (rest := [.int d]) C ok_X8_length bw_662 dX5_repeatBytes_14 (cm_X8_length (by decide)) (rc_Row (by decide)) rfl ⟨Nat.le_of_ble_eq_true rfl, Nat.le_of_ble_eq_true rfl⟩ (Nat.le_of_ble_eq_true rfl) (c2 := 0) (s2 := 0) rfl rfl ⟨Nat.le_of_ble_eq_true rfl, Nat.le_of_ble_eq_true rfl⟩ rfl ?_
    refine ww_icmp_gt (tgt := 36) C dX5_repeatBytes_17 (by decide) (fun q13 => ?_) (fun q13 => ?_)
    · replace h := h.1 q13
      exact ww_sub [] rfl (h hT)
    · replace h := h.2 q13
      refine ww_iload_n C dX5_repeatBytes_20 0 rfl ?_
      refine ww_aload_n C dX5_repeatBytes_21 1 rfl ?_
      refine gf_PackedReader_streamLength C bw_144 dX5_repeatBytes_22 ?_
      refine ww_aload_n C dX5_repeatBytes_25 1 rfl ?_
      refine gf_PackedReader_stream C bw_140 dX5_repeatBytes_26 ?_
      refine ww_cVf (As := []) (rest := [.int (S.2.1 2 1), .int x11]) C ok_X8_length bw_662 dX5_repeatBytes_29 (cm_X8_length (by decide)) (rc_Row (by decide)) rfl ⟨Nat.le_of_ble_eq_true rfl, Nat.le_of_ble_eq_true rfl⟩ (Nat.le_of_ble_eq_true rfl) (c2 := 0) (s2 := 0) rfl rfl ⟨Nat.le_of_ble_eq_true rfl, Nat.le_of_ble_eq_true rfl⟩ rfl ?_
      refine ww_isub C dX5_repeatBytes_32 ?_
      refine ww_icmp_le (tgt := 38) C dX5_repeatBytes_33 (by decide) (fun q14 => ?_) (fun q14 => ?_)
      · replace h := h.1 q14
        refine ww_iconst (v := 0) C dX5_repeatBytes_38 (by decide) ?_
        refine ww_istore (lv2 := [(4, .int 0), (3, .int x11), (0, .ref (gad g 156)), (1, .int a), (2, .int d)]) C dX5_repeatBytes_39 (Nat.le_of_ble_eq_true rfl) rfl ?_
        exact ww_sub [2, 4, 1, 0] rfl (h hT)
      · replace h := h.2 q14
        exact ww_sub [] rfl (h hT))
abbrev rm_X5_expandStream : Room := { frames := 3, cells := 0, slots := 0, locals := 65 }
theorem ok_X5_expandStream : MOK yX5_expandStream RX5 cX5_expandStream 3 (some .boolean) 1 := ⟨bw_735, bw_7, bw_66, bw_736, by decide +kernel⟩
def st_X5_expandStream_9 (c : Nat) (r : Nat) (P : Int32 → St → Prop) (X9 : St → Int32 → Prop) (X72 : St → Int32 → Prop) (X87 : St → Prop) (S : St) (v2 : Int32) : Prop :=
  (((S.2.1 2 1) ≤ v2 → X87 S) ∧ (¬ (S.2.1 2 1) ≤ v2 → (((S.2.1 2 1) ≤ (rLen S 65) → X87 S) ∧ (¬ (S.2.1 2 1) ≤ (rLen S 65) → wp_X0_nextBits S c r 1 (fun r26 S25 => ((¬ r26 = 0 → wp_X0_nextGamma S25 c r (fun r29 S28 => wp_X0_nextGamma S28 c r (fun r31 S30 => wp_X5_repeatBytes S30 r29 r31 (fun r33 S32 => ((¬ r33 = 0 → X72 S32 v2) ∧ (r33 = 0 → P 0 S32)))))) ∧ (r26 = 0 → wp_X0_nextBits S25 c r 8 (fun r36 S35 => ∀ S37 : St, S37 = rAdd S35 65 r36 → X72 S37 v2))))))))
def st_X5_expandStream_72 (c : Nat) (r : Nat) (P : Int32 → St → Prop) (X9 : St → Int32 → Prop) (X72 : St → Int32 → Prop) (X87 : St → Prop) (S : St) (v2 : Int32) : Prop :=
  wp_X0_isBroken S c r (fun r39 S38 => ((r39 = 0 → ∀ x41 : Int32, x41 = v2 + 1 → X9 S38 x41) ∧ (¬ r39 = 0 → P 0 S38)))
def st_X5_expandStream_87 (c : Nat) (r : Nat) (P : Int32 → St → Prop) (X9 : St → Int32 → Prop) (X72 : St → Int32 → Prop) (X87 : St → Prop) (S : St)  : Prop :=
  wp_X0_hasOnlyFillLeft S c r (fun r43 S42 => ((r43 = 0 ∨ r43 = 1) ∧ P r43 S42))
def at_X5_expandStream_9 (f : Fx) (g : Gx) (T0 : List (Nat × Nat × Nat)) (c : Nat) (r : Nat) (P : Int32 → St → Prop) (S : St) (v2 : Int32) : Prop := S.2.2.1 = T0 → WW f rm_X5_expandStream g 3 0 0 (Qi f g 0 0 T0 P) S 9 [(0, .ref (gad g 156)), (1, .ref c), (2, .int v2)] []
def at_X5_expandStream_72 (f : Fx) (g : Gx) (T0 : List (Nat × Nat × Nat)) (c : Nat) (r : Nat) (P : Int32 → St → Prop) (S : St) (v2 : Int32) : Prop := S.2.2.1 = T0 → WW f rm_X5_expandStream g 3 0 0 (Qi f g 0 0 T0 P) S 72 [(0, .ref (gad g 156)), (1, .ref c), (2, .int v2)] []
def at_X5_expandStream_87 (f : Fx) (g : Gx) (T0 : List (Nat × Nat × Nat)) (c : Nat) (r : Nat) (P : Int32 → St → Prop) (S : St)  : Prop := S.2.2.1 = T0 → WW f rm_X5_expandStream g 3 0 0 (Qi f g 0 0 T0 P) S 87 [(1, .ref c)] []
set_option maxHeartbeats 4000000 in
set_option maxRecDepth 100000 in
theorem run_X5_expandStream_9 {f : Fx} {g : Gx} {T0 : List (Nat × Nat × Nat)} {S : St} {c : Nat} {r : Nat} {P : Int32 → St → Prop} (C : Cx f g cX5_expandStream 3 RX5) (hrt : (fmeth f).sig.returnType = (some .boolean)) (hm : (c, 0, r) ∈ T0) (hr : r < 68) {v2 : Int32} (h : st_X5_expandStream_9 c r P (at_X5_expandStream_9 f g T0 c r P) (at_X5_expandStream_72 f g T0 c r P) (at_X5_expandStream_87 f g T0 c r P) S v2) : at_X5_expandStream_9 f g T0 c r P S v2 := by
  intro hT 
  unfold st_X5_expandStream_9 at h
  refine ww_iload_n C dX5_expandStream_9 2 rfl ?_
  refine ww_aload_n C dX5_expandStream_10 0 rfl ?_
  refine gf_PackedReader_streamLength C bw_144 dX5_expandStream_11 ?_
  refine ww_icmp_ge (tgt := 87) C dX5_expandStream_14 (by decide) (fun q23 => ?_) (fun q23 => ?_)
  · replace h := h.1 q23
    exact ww_sub [1] rfl (h hT)
  · replace h := h.2 q23
    refine ww_aload_n C dX5_expandStream_17 0 rfl ?_
    refine gf_PackedReader_stream C bw_140 dX5_expandStream_18 ?_
    refine ww_cVf (As := []) (rest := []) C ok_X8_length bw_662 dX5_expandStream_21 (cm_X8_length (by decide)) (rc_Row (by decide)) rfl ⟨Nat.le_of_ble_eq_true rfl, Nat.le_of_ble_eq_true rfl⟩ (Nat.le_of_ble_eq_true rfl) (c2 := 0) (s2 := 0) rfl rfl ⟨Nat.le_of_ble_eq_true rfl, Nat.le_of_ble_eq_true rfl⟩ rfl ?_
    refine ww_aload_n C dX5_expandStream_24 0 rfl ?_
    refine gf_PackedReader_streamLength C bw_144 dX5_expandStream_25 ?_
    refine ww_icmp_ge (tgt := 87) C dX5_expandStream_28 (by decide) (fun q24 => ?_) (fun q24 => ?_)
    · replace h := h.1 q24
      exact ww_sub [1] rfl (h hT)
    · replace h := h.2 q24
      refine ww_aload_n C dX5_expandStream_31 1 rfl ?_
      refine ww_iconst (v := 1) C dX5_expandStream_32 (by decide) ?_
      refine ww_cVi (As := [.int 1]) (rest := []) C ok_X0_nextBits bw_737 dX5_expandStream_33 (run_X0_nextBits (c := c) (r := r) (by rw [hT]; exact hm) hr (fun _ => h)) (rc_BitReader (q := c) (r := r) (by rw [hT]; exact hm)) rfl ⟨Nat.le_of_ble_eq_true rfl, Nat.le_of_ble_eq_true rfl⟩ (Nat.le_of_ble_eq_true rfl) (c2 := 0) (s2 := 0) rfl rfl ⟨Nat.le_of_ble_eq_true rfl, Nat.le_of_ble_eq_true rfl⟩ rfl (fun r26 S25 hp hTg => ?_)
      replace h := hp
      have hT_S25 : S25.2.2.1 = T0 := by rw [hTg]; exact hT
      refine ww_if_ne (tgt := 55) C dX5_expandStream_36 (by decide) (fun q27 => ?_) (fun q27 => ?_)
      · replace h := h.1 q27
        refine ww_aload_n C dX5_expandStream_55 0 rfl ?_
        refine ww_aload_n C dX5_expandStream_56 1 rfl ?_
        refine ww_cVi (As := []) (rest := [.ref (gad g 156)]) C ok_X0_nextGamma bw_743 dX5_expandStream_57 (run_X0_nextGamma (c := c) (r := r) (by rw [hT_S25]; exact hm) hr (fun _ => h)) (rc_BitReader (q := c) (r := r) (by rw [hT_S25]; exact hm)) rfl ⟨Nat.le_of_ble_eq_true rfl, Nat.le_of_ble_eq_true rfl⟩ (Nat.le_of_ble_eq_true rfl) (c2 := 0) (s2 := 0) rfl rfl ⟨Nat.le_of_ble_eq_true rfl, Nat.le_of_ble_eq_true rfl⟩ rfl (fun r29 S28 hp hTg => ?_)
        replace h := hp
        have hT_S28 : S28.2.2.1 = T0 := by rw [hTg]; exact hT_S25
        refine ww_aload_n C dX5_expandStream_60 1 rfl ?_
        refine ww_cVi (As := []) (rest := [.int r29, .ref (gad g 156)]) C ok_X0_nextGamma bw_743 dX5_expandStream_61 (run_X0_nextGamma (c := c) (r := r) (by rw [hT_S28]; exact hm) hr (fun _ => h)) (rc_BitReader (q := c) (r := r) (by rw [hT_S28]; exact hm)) rfl ⟨Nat.le_of_ble_eq_true rfl, Nat.le_of_ble_eq_true rfl⟩ (Nat.le_of_ble_eq_true rfl) (c2 := 0) (s2 := 0) rfl rfl ⟨Nat.le_of_ble_eq_true rfl, Nat.le_of_ble_eq_true rfl⟩ rfl (fun r31 S30 hp hTg => ?_)
        replace h := hp
        have hT_S30 : S30.2.2.1 = T0 := by rw [hTg]; exact hT_S28
        refine ww_cVi (As := [.int r29, .int r31]) (rest := []) C ok_X5_repeatBytes bw_748 dX5_expandStream_64 (run_X5_repeatBytes  (fun _ => h)) rc_PackedReader rfl ⟨Nat.le_of_ble_eq_true rfl, Nat.le_of_ble_eq_true rfl⟩ (Nat.le_of_ble_eq_true rfl) (c2 := 0) (s2 := 0) rfl rfl ⟨Nat.le_of_ble_eq_true rfl, Nat.le_of_ble_eq_true rfl⟩ rfl (fun r33 S32 hp hTg => ?_)
        replace h := hp
        have hT_S32 : S32.2.2.1 = T0 := by rw [hTg]; exact hT_S30
        refine ww_if_ne (tgt := 72) C dX5_expandStream_67 (by decide) (fun q34 => ?_) (fun q34 => ?_)
        · replace h := h.1 q34
          exact ww_sub [0, 1, 2] rfl (h hT_S32)
        · replace h := h.2 q34
          refine ww_iconst (v := 0) C dX5_expandStream_70 (by decide) ?_
          exact ww_zret C hrt dX5_expandStream_71 hT_S32 (by decide) h
      · replace h := h.2 q27
        refine ww_aload_n C dX5_expandStream_39 0 rfl ?_
        refine gf_PackedReader_stream C bw_140 dX5_expandStream_40 ?_
        refine ww_aload_n C dX5_expandStream_43 1 rfl ?_
        refine ww_bipush (v := 8) C dX5_expandStream_44 (by decide) ?_
        refine ww_cVi (As := [.int 8]) (rest := [.ref (gad g 65)]) C ok_X0_nextBits bw_737 dX5_expandStream_46 (run_X0_nextBits (c := c) (r := r) (by rw [hT_S25]; exact hm) hr (fun _ => h)) (rc_BitReader (q := c) (r := r) (by rw [hT_S25]; exact hm)) rfl ⟨Nat.le_of_ble_eq_true rfl, Nat.le_of_ble_eq_true rfl⟩ (Nat.le_of_ble_eq_true rfl) (c2 := 0) (s2 := 0) rfl rfl ⟨Nat.le_of_ble_eq_true rfl, Nat.le_of_ble_eq_true rfl⟩ rfl (fun r36 S35 hp hTg => ?_)
        replace h := hp
        have hT_S35 : S35.2.2.1 = T0 := by rw [hTg]; exact hT_S25
        refine ww_cVg (As := [.int r36]) (rest := []) C ok_X8_add bw_742 dX5_expandStream_49 (cm_X8_add (by decide)) (rc_Row (by decide)) rfl ⟨Nat.le_of_ble_eq_true rfl, Nat.le_of_ble_eq_true rfl⟩ (Nat.le_of_ble_eq_true rfl) (c2 := 0) (s2 := 0) rfl rfl ⟨Nat.le_of_ble_eq_true rfl, Nat.le_of_ble_eq_true rfl⟩ rfl (fun hTg => ?_)
        refine ww_nm (fun S37 e_S37 => ?_)
        replace h := h S37 e_S37
        have hT_S37 : S37.2.2.1 = T0 := by rw [e_S37, hTg]; exact hT_S35
        refine ww_goto (tgt := 72) C dX5_expandStream_52 (by decide) ?_
        exact ww_sub [0, 1, 2] rfl (h hT_S37)
set_option maxHeartbeats 4000000 in
set_option maxRecDepth 100000 in
theorem run_X5_expandStream_72 {f : Fx} {g : Gx} {T0 : List (Nat × Nat × Nat)} {S : St} {c : Nat} {r : Nat} {P : Int32 → St → Prop} (C : Cx f g cX5_expandStream 3 RX5) (hrt : (fmeth f).sig.returnType = (some .boolean)) (hm : (c, 0, r) ∈ T0) (hr : r < 68) {v2 : Int32} (h : st_X5_expandStream_72 c r P (at_X5_expandStream_9 f g T0 c r P) (at_X5_expandStream_72 f g T0 c r P) (at_X5_expandStream_87 f g T0 c r P) S v2) : at_X5_expandStream_72 f g T0 c r P S v2 := by
  intro hT 
  unfold st_X5_expandStream_72 at h
  refine ww_aload_n C dX5_expandStream_72 1 rfl ?_
  refine ww_cVi (As := []) (rest := []) C ok_X0_isBroken bw_752 dX5_expandStream_73 (run_X0_isBroken (c := c) (r := r) (by rw [hT]; exact hm) hr (fun _ => h)) (rc_BitReader (q := c) (r := r) (by rw [hT]; exact hm)) rfl ⟨Nat.le_of_ble_eq_true rfl, Nat.le_of_ble_eq_true rfl⟩ (Nat.le_of_ble_eq_true rfl) (c2 := 0) (s2 := 0) rfl rfl ⟨Nat.le_of_ble_eq_true rfl, Nat.le_of_ble_eq_true rfl⟩ rfl (fun r39 S38 hp hTg => ?_)
  replace h := hp
  have hT_S38 : S38.2.2.1 = T0 := by rw [hTg]; exact hT
  refine ww_if_eq (tgt := 81) C dX5_expandStream_76 (by decide) (fun q40 => ?_) (fun q40 => ?_)
  · replace h := h.1 q40
    obtain ⟨x41, e_x41⟩ : ∃ z : Int32, z = v2 + 1 := ⟨_, rfl⟩
    replace h := h x41 e_x41
    refine ww_iinc (v := x41) (lv2 := [(2, .int x41), (0, .ref (gad g 156)), (1, .ref c)]) C dX5_expandStream_81 2 rfl (by rw [e_x41]; rfl) (Nat.le_of_ble_eq_true rfl) rfl ?_
    refine ww_goto (tgt := 9) C dX5_expandStream_84 (by decide) ?_
    exact ww_sub [1, 2, 0] rfl (h hT_S38)
  · replace h := h.2 q40
    refine ww_iconst (v := 0) C dX5_expandStream_79 (by decide) ?_
    exact ww_zret C hrt dX5_expandStream_80 hT_S38 (by decide) h
set_option maxHeartbeats 4000000 in
set_option maxRecDepth 100000 in
theorem run_X5_expandStream_87 {f : Fx} {g : Gx} {T0 : List (Nat × Nat × Nat)} {S : St} {c : Nat} {r : Nat} {P : Int32 → St → Prop} (C : Cx f g cX5_expandStream 3 RX5) (hrt : (fmeth f).sig.returnType = (some .boolean)) (hm : (c, 0, r) ∈ T0) (hr : r < 68)  (h : st_X5_expandStream_87 c r P (at_X5_expandStream_9 f g T0 c r P) (at_X5_expandStream_72 f g T0 c r P) (at_X5_expandStream_87 f g T0 c r P) S ) : at_X5_expandStream_87 f g T0 c r P S  := by
  intro hT 
  unfold st_X5_expandStream_87 at h
  refine ww_aload_n C dX5_expandStream_87 0 rfl ?_
  refine ww_cVi (As := []) (rest := []) C ok_X0_hasOnlyFillLeft bw_756 dX5_expandStream_88 (run_X0_hasOnlyFillLeft (c := c) (r := r) (by rw [hT]; exact hm) hr (fun _ => h)) (rc_BitReader (q := c) (r := r) (by rw [hT]; exact hm)) rfl ⟨Nat.le_of_ble_eq_true rfl, Nat.le_of_ble_eq_true rfl⟩ (Nat.le_of_ble_eq_true rfl) (c2 := 0) (s2 := 0) rfl rfl ⟨Nat.le_of_ble_eq_true rfl, Nat.le_of_ble_eq_true rfl⟩ rfl (fun r43 S42 hp hTg => ?_)
  replace h := hp
  have hT_S42 : S42.2.2.1 = T0 := by rw [hTg]; exact hT
  exact ww_zret C hrt dX5_expandStream_91 hT_S42 h.1 h.2
def wp_X5_expandStream (S : St) (c : Nat) (r : Nat) (P : Int32 → St → Prop) : Prop :=
  ∀ (X9 : St → Int32 → Prop) (X72 : St → Int32 → Prop) (X87 : St → Prop), (∀ S v2, st_X5_expandStream_9 c r P X9 X72 X87 S v2 → X9 S v2) → (∀ S v2, st_X5_expandStream_72 c r P X9 X72 X87 S v2 → X72 S v2) → (∀ S , st_X5_expandStream_87 c r P X9 X72 X87 S  → X87 S ) → ∀ S44 : St, S44 = rMake S 65 → X9 S44 0
set_option maxHeartbeats 4000000 in
set_option maxRecDepth 100000 in
theorem run_X5_expandStream {l : Launch} {g : Gx} {S : St} {c : Nat} {r : Nat} {P : Int32 → St → Prop} (hm : (c, 0, r) ∈ S.2.2.1) (hr : r < 68) (h : rowsLe S → wp_X5_expandStream S c r P) : CMi g l yX5_expandStream cX5_expandStream 3 (some .boolean) rm_X5_expandStream [.ref (gad g 156), .ref c] S P := cm_entry (own := RX5) (plainFor_of_name (by decide)) rfl (Nat.le_of_ble_eq_true rfl) rfl (fun hle f hf C hrt => by
  subst hf
  replace h := h hle
  obtain ⟨T0, hT⟩ : ∃ T, S.2.2.1 = T := ⟨_, rfl⟩
  rw [hT] at hm
  rw [hT]
  replace h := h (at_X5_expandStream_9 f g T0 c r P) (at_X5_expandStream_72 f g T0 c r P) (at_X5_expandStream_87 f g T0 c r P) (fun S v2 h => run_X5_expandStream_9 C hrt hm hr h) (fun S v2 h => run_X5_expandStream_72 C hrt hm hr h) (fun S  h => run_X5_expandStream_87 C hrt hm hr h)
  refine ww_aload_n C dX5_expandStream_0 0 rfl ?_
  refine gf_PackedReader_stream C bw_140 dX5_expandStream_1 ?_
  refine ww_cVg (As := []) (rest := []) C ok_X8_makeEmpty bw_689 dX5_expandStream_4 (cm_X8_makeEmpty (by decide)) (rc_Row (by decide)) rfl ⟨Nat.le_of_ble_eq_true rfl, Nat.le_of_ble_eq_true rfl⟩ (Nat.le_of_ble_eq_true rfl) (c2 := 0) (s2 := 0) rfl rfl ⟨Nat.le_of_ble_eq_true rfl, Nat.le_of_ble_eq_true rfl⟩ rfl (fun hTg => ?_)
  refine ww_nm (fun S44 e_S44 => ?_)
  replace h := h S44 e_S44
  have hT_S44 : S44.2.2.1 = T0 := by rw [e_S44, hTg]; exact hT
  refine ww_iconst (v := 0) C dX5_expandStream_7 (by decide) ?_
  refine ww_istore_n (lv2 := [(2, .int 0), (0, .ref (gad g 156)), (1, .ref c)]) C dX5_expandStream_8 rfl (Nat.le_of_ble_eq_true rfl) rfl ?_
  exact ww_sub [1, 2, 0] rfl (h hT_S44))
abbrev rm_X5_readContours : Room := { frames := 3, cells := 0, slots := 0, locals := 62 }
theorem ok_X5_readContours : SOK yX5_readContours cX5_readContours 7 (some .boolean) 2 := ⟨bw_765, bw_66, bw_766, by decide +kernel⟩
def st_X5_readContours_16 (c : Nat) (r : Nat) (j : Nat) (P : Int32 → St → Prop) (X16 : St → Prop) (X20 : St → Int32 → Int32 → Prop) (X44 : St → Prop) (X60 : St → Int32 → Int32 → Int32 → Nat → Int32 → Prop) (S : St)  : Prop :=
  P 0 S
def st_X5_readContours_20 (c : Nat) (r : Nat) (j : Nat) (P : Int32 → St → Prop) (X16 : St → Prop) (X20 : St → Int32 → Int32 → Prop) (X44 : St → Prop) (X60 : St → Int32 → Int32 → Int32 → Nat → Int32 → Prop) (S : St) (v2 : Int32) (v3 : Int32) : Prop :=
  ((v2 ≤ v3 → P 1 S) ∧ (¬ v2 ≤ v3 → ∀ (r21 : Int32) (S20 : St), r21 = fv_X2_next S c r → S20 = fs_X2_next S c r → wp_X2_isBroken S20 c r (fun r23 S22 => ((¬ r23 = 0 → X44 S22) ∧ (r23 = 0 → ((r21 ≤ 4 → ∀ (r27 : Int32) (S26 : St), r27 = fv_X3_addGlyph S22 j 0 → S26 = fs_X3_addGlyph S22 j 0 → X60 S26 v2 v3 r21 (glId S26 j r27) 0) ∧ (¬ r21 ≤ 4 → X44 S22)))))))
def st_X5_readContours_44 (c : Nat) (r : Nat) (j : Nat) (P : Int32 → St → Prop) (X16 : St → Prop) (X20 : St → Int32 → Int32 → Prop) (X44 : St → Prop) (X60 : St → Int32 → Int32 → Int32 → Nat → Int32 → Prop) (S : St)  : Prop :=
  P 0 S
def st_X5_readContours_60 (c : Nat) (r : Nat) (j : Nat) (P : Int32 → St → Prop) (X16 : St → Prop) (X20 : St → Int32 → Int32 → Prop) (X44 : St → Prop) (X60 : St → Int32 → Int32 → Int32 → Nat → Int32 → Prop) (S : St) (v2 : Int32) (v3 : Int32) (v4 : Int32) (v5 : Nat) (v6 : Int32) : Prop :=
  ((v4 ≤ v6 → ∀ x29 : Int32, x29 = v3 + 1 → X20 S v2 x29) ∧ (¬ v4 ≤ v6 → ∀ (r31 : Int32) (S30 : St), r31 = fv_X4_addContour S v5 → S30 = fs_X4_addContour S v5 → ∀ x32 : Int32, x32 = v6 + 1 → X60 S30 v2 v3 v4 v5 x32))
def at_X5_readContours_16 (f : Fx) (g : Gx) (T0 : List (Nat × Nat × Nat)) (c : Nat) (r : Nat) (j : Nat) (P : Int32 → St → Prop) (S : St)  : Prop := S.2.2.1 = T0 → WW f rm_X5_readContours g 7 0 0 (Qi f g 0 0 T0 P) S 16 [] []
def at_X5_readContours_20 (f : Fx) (g : Gx) (T0 : List (Nat × Nat × Nat)) (c : Nat) (r : Nat) (j : Nat) (P : Int32 → St → Prop) (S : St) (v2 : Int32) (v3 : Int32) : Prop := S.2.2.1 = T0 → WW f rm_X5_readContours g 7 0 0 (Qi f g 0 0 T0 P) S 20 [(0, .ref c), (1, .ref (gad g (148 + j))), (2, .int v2), (3, .int v3)] []
def at_X5_readContours_44 (f : Fx) (g : Gx) (T0 : List (Nat × Nat × Nat)) (c : Nat) (r : Nat) (j : Nat) (P : Int32 → St → Prop) (S : St)  : Prop := S.2.2.1 = T0 → WW f rm_X5_readContours g 7 0 0 (Qi f g 0 0 T0 P) S 44 [] []
def at_X5_readContours_60 (f : Fx) (g : Gx) (T0 : List (Nat × Nat × Nat)) (c : Nat) (r : Nat) (j : Nat) (P : Int32 → St → Prop) (S : St) (v2 : Int32) (v3 : Int32) (v4 : Int32) (v5 : Nat) (v6 : Int32) : Prop := S.2.2.1 = T0 → v5 < 12 → WW f rm_X5_readContours g 7 0 0 (Qi f g 0 0 T0 P) S 60 [(0, .ref c), (1, .ref (gad g (148 + j))), (2, .int v2), (3, .int v3), (4, .int v4), (5, .ref (gad g (136 + v5))), (6, .int v6)] []
set_option maxHeartbeats 4000000 in
set_option maxRecDepth 100000 in
theorem run_X5_readContours_16 {f : Fx} {g : Gx} {T0 : List (Nat × Nat × Nat)} {S : St} {c : Nat} {r : Nat} {j : Nat} {P : Int32 → St → Prop} (C : Cx f g cX5_readContours 7 RX5) (hrt : (fmeth f).sig.returnType = (some .boolean)) (hm : (c, 2, r) ∈ T0) (hr : r < 68) (hj : j < 2)  (h : st_X5_readContours_16 c r j P (at_X5_readContours_16 f g T0 c r j P) (at_X5_readContours_20 f g T0 c r j P) (at_X5_readContours_44 f g T0 c r j P) (at_X5_readContours_60 f g T0 c r j P) S ) : at_X5_readContours_16 f g T0 c r j P S  := by
  intro hT 
  unfold st_X5_readContours_16 at h
  refine ww_iconst (v := 0) C dX5_readContours_16 (by decide) ?_
  exact ww_zret C hrt dX5_readContours_17 hT (by decide) h
set_option maxHeartbeats 4000000 in
set_option maxRecDepth 100000 in
theorem run_X5_readContours_20 {f : Fx} {g : Gx} {T0 : List (Nat × Nat × Nat)} {S : St} {c : Nat} {r : Nat} {j : Nat} {P : Int32 → St → Prop} (C : Cx f g cX5_readContours 7 RX5) (hrt : (fmeth f).sig.returnType = (some .boolean)) (hm : (c, 2, r) ∈ T0) (hr : r < 68) (hj : j < 2) {v2 : Int32} {v3 : Int32} (h : st_X5_readContours_20 c r j P (at_X5_readContours_16 f g T0 c r j P) (at_X5_readContours_20 f g T0 c r j P) (at_X5_readContours_44 f g T0 c r j P) (at_X5_readContours_60 f g T0 c r j P) S v2 v3) : at_X5_readContours_20 f g T0 c r j P S v2 v3 := by
  intro hT 
  unfold st_X5_readContours_20 at h
  refine ww_iload_n C dX5_readContours_20 3 rfl ?_
  refine ww_iload_n C dX5_readContours_21 2 rfl ?_
  refine ww_icmp_ge (tgt := 85) C dX5_readContours_22 (by decide) (fun q19 => ?_) (fun q19 => ?_)
  · replace h := h.1 q19
    refine ww_iconst (v := 1) C dX5_readContours_85 (by decide) ?_
    exact ww_zret C hrt dX5_readContours_86 hT (by decide) h
  · replace h := h.2 q19
    refine ww_aload_n C dX5_readContours_25 0 rfl ?_
    refine ww_cVi (As := []) (rest := []) C ok_X2_next bw_684 dX5_readContours_26 (cm_X2_next (c := c) (r := r) (by rw [hT]; exact hm) hr) (rc_Cursor (q := c) (r := r) (by rw [hT]; exact hm)) rfl ⟨Nat.le_of_ble_eq_true rfl, Nat.le_of_ble_eq_true rfl⟩ (Nat.le_of_ble_eq_true rfl) (c2 := 0) (s2 := 0) rfl rfl ⟨Nat.le_of_ble_eq_true rfl, Nat.le_of_ble_eq_true rfl⟩ rfl (fun r21 S20 hp hTg => ?_)
    obtain ⟨e_r21, e_S20⟩ := hp
    replace h := h r21 S20 e_r21 e_S20
    have hT_S20 : S20.2.2.1 = T0 := by rw [hTg]; exact hT
    refine ww_istore (lv2 := [(4, .int r21), (0, .ref c), (1, .ref (gad g (148 + j))), (2, .int v2), (3, .int v3)]) C dX5_readContours_29 (Nat.le_of_ble_eq_true rfl) rfl ?_
    refine ww_aload_n C dX5_readContours_31 1 rfl ?_
    refine ww_cVi (As := []) (rest := []) C ok_X2_isBroken bw_694 dX5_readContours_32 (run_X2_isBroken (c := c) (r := r) (by rw [hT_S20]; exact hm) hr (fun _ => h)) (rc_Cursor (q := c) (r := r) (by rw [hT_S20]; exact hm)) rfl ⟨Nat.le_of_ble_eq_true rfl, Nat.le_of_ble_eq_true rfl⟩ (Nat.le_of_ble_eq_true rfl) (c2 := 0) (s2 := 0) rfl rfl ⟨Nat.le_of_ble_eq_true rfl, Nat.le_of_ble_eq_true rfl⟩ rfl (fun r23 S22 hp hTg => ?_)
    replace h := hp
    have hT_S22 : S22.2.2.1 = T0 := by rw [hTg]; exact hT_S20
    refine ww_if_ne (tgt := 44) C dX5_readContours_35 (by decide) (fun q24 => ?_) (fun q24 => ?_)
    · replace h := h.1 q24
      exact ww_sub [] rfl (h hT_S22)
    · replace h := h.2 q24
      refine ww_iload C dX5_readContours_38 0 rfl ?_
      refine ww_iconst (v := 4) C dX5_readContours_40 (by decide) ?_
      refine ww_icmp_le (tgt := 46) C dX5_readContours_41 (by decide) (fun q25 => ?_) (fun q25 => ?_)
      · replace h := h.1 q25
        refine ww_aload_n C dX5_readContours_46 2 rfl ?_
        refine ww_aload_n C dX5_readContours_47 2 rfl ?_
        refine ww_iconst (v := 0) C dX5_readContours_48 (by decide) ?_
        refine ww_cVi (As := [.int 0]) (rest := [.ref (gad g (148 + j))]) C ok_X3_addGlyph bw_767 dX5_readContours_49 (cm_X3_addGlyph hj) (rc_Font hj) rfl ⟨Nat.le_of_ble_eq_true rfl, Nat.le_of_ble_eq_true rfl⟩ (Nat.le_of_ble_eq_true rfl) (c2 := 0) (s2 := 0) rfl rfl ⟨Nat.le_of_ble_eq_true rfl, Nat.le_of_ble_eq_true rfl⟩ rfl (fun r27 S26 hp hTg => ?_)
        obtain ⟨e_r27, e_S26⟩ := hp
        replace h := h r27 S26 e_r27 e_S26
        have hT_S26 : S26.2.2.1 = T0 := by rw [hTg]; exact hT_S22
        refine ww_cVr (As := [.int r27]) (rest := []) C ok_X3_glyphAt bw_768 dX5_readContours_52 (cm_X3_glyphAt hj) (rc_Font hj) rfl ⟨Nat.le_of_ble_eq_true rfl, Nat.le_of_ble_eq_true rfl⟩ (Nat.le_of_ble_eq_true rfl) (c2 := 0) (s2 := 0) rfl rfl ⟨Nat.le_of_ble_eq_true rfl, Nat.le_of_ble_eq_true rfl⟩ rfl ?_
        refine ww_astore (lv2 := [(5, .ref (gad g (136 + (glId S26 j r27)))), (4, .int r21), (0, .ref c), (1, .ref (gad g (148 + j))), (2, .int v2), (3, .int v3)]) C dX5_readContours_55 (Nat.le_of_ble_eq_true rfl) rfl ?_
        refine ww_iconst (v := 0) C dX5_readContours_57 (by decide) ?_
        refine ww_istore (lv2 := [(6, .int 0), (5, .ref (gad g (136 + (glId S26 j r27)))), (4, .int r21), (0, .ref c), (1, .ref (gad g (148 + j))), (2, .int v2), (3, .int v3)]) C dX5_readContours_58 (Nat.le_of_ble_eq_true rfl) rfl ?_
        exact ww_sub [3, 4, 5, 6, 2, 1, 0] rfl (h hT_S26 (glId_lt hj))
      · replace h := h.2 q25
        exact ww_sub [] rfl (h hT_S22)
set_option maxHeartbeats 4000000 in
set_option maxRecDepth 100000 in
theorem run_X5_readContours_44 {f : Fx} {g : Gx} {T0 : List (Nat × Nat × Nat)} {S : St} {c : Nat} {r : Nat} {j : Nat} {P : Int32 → St → Prop} (C : Cx f g cX5_readContours 7 RX5) (hrt : (fmeth f).sig.returnType = (some .boolean)) (hm : (c, 2, r) ∈ T0) (hr : r < 68) (hj : j < 2)  (h : st_X5_readContours_44 c r j P (at_X5_readContours_16 f g T0 c r j P) (at_X5_readContours_20 f g T0 c r j P) (at_X5_readContours_44 f g T0 c r j P) (at_X5_readContours_60 f g T0 c r j P) S ) : at_X5_readContours_44 f g T0 c r j P S  := by
  intro hT 
  unfold st_X5_readContours_44 at h
  refine ww_iconst (v := 0) C dX5_readContours_44 (by decide) ?_
  exact ww_zret C hrt dX5_readContours_45 hT (by decide) h
set_option maxHeartbeats 4000000 in
set_option maxRecDepth 100000 in
theorem run_X5_readContours_60 {f : Fx} {g : Gx} {T0 : List (Nat × Nat × Nat)} {S : St} {c : Nat} {r : Nat} {j : Nat} {P : Int32 → St → Prop} (C : Cx f g cX5_readContours 7 RX5) (hrt : (fmeth f).sig.returnType = (some .boolean)) (hm : (c, 2, r) ∈ T0) (hr : r < 68) (hj : j < 2) {v2 : Int32} {v3 : Int32} {v4 : Int32} {v5 : Nat} {v6 : Int32} (h : st_X5_readContours_60 c r j P (at_X5_readContours_16 f g T0 c r j P) (at_X5_readContours_20 f g T0 c r j P) (at_X5_readContours_44 f g T0 c r j P) (at_X5_readContours_60 f g T0 c r j P) S v2 v3 v4 v5 v6) : at_X5_readContours_60 f g T0 c r j P S v2 v3 v4 v5 v6 := by
  intro hT hv5
  unfold st_X5_readContours_60 at h
  refine ww_iload C dX5_readContours_60 6 rfl ?_
  refine ww_iload C dX5_readContours_62 4 rfl ?_
  refine ww_icmp_ge (tgt := 79) C dX5_readContours_64 (by decide) (fun q28 => ?_) (fun q28 => ?_)
  · replace h := h.1 q28
    obtain ⟨x29, e_x29⟩ : ∃ z : Int32, z = v3 + 1 := ⟨_, rfl⟩
    replace h := h x29 e_x29
    refine ww_iinc (v := x29) (lv2 := [(3, .int x29), (0, .ref c), (1, .ref (gad g (148 + j))), (2, .int v2), (4, .int v4), (5, .ref (gad g (136 + v5))), (6, .int v6)]) C dX5_readContours_79 3 rfl (by rw [e_x29]; rfl) (Nat.le_of_ble_eq_true rfl) rfl ?_
    refine ww_goto (tgt := 20) C dX5_readContours_82 (by decide) ?_
    exact ww_sub [1, 2, 3, 0] rfl (h hT)
  · replace h := h.2 q28
    refine ww_aload C dX5_readContours_67 5 rfl ?_
    refine ww_cVi (As := []) (rest := []) C ok_X4_addContour bw_769 dX5_readContours_69 (cm_X4_addContour hv5) (rc_Glyph hv5) rfl ⟨Nat.le_of_ble_eq_true rfl, Nat.le_of_ble_eq_true rfl⟩ (Nat.le_of_ble_eq_true rfl) (c2 := 0) (s2 := 0) rfl rfl ⟨Nat.le_of_ble_eq_true rfl, Nat.le_of_ble_eq_true rfl⟩ rfl (fun r31 S30 hp hTg => ?_)
    obtain ⟨e_r31, e_S30⟩ := hp
    replace h := h r31 S30 e_r31 e_S30
    have hT_S30 : S30.2.2.1 = T0 := by rw [hTg]; exact hT
    refine ww_pop C dX5_readContours_72 rfl ?_
    obtain ⟨x32, e_x32⟩ : ∃ z : Int32, z = v6 + 1 := ⟨_, rfl⟩
    replace h := h x32 e_x32
    refine ww_iinc (v := x32) (lv2 := [(6, .int x32), (0, .ref c), (1, .ref (gad g (148 + j))), (2, .int v2), (3, .int v3), (4, .int v4), (5, .ref (gad g (136 + v5)))]) C dX5_readContours_73 6 rfl (by rw [e_x32]; rfl) (Nat.le_of_ble_eq_true rfl) rfl ?_
    refine ww_goto (tgt := 60) C dX5_readContours_76 (by decide) ?_
    exact ww_sub [1, 2, 3, 4, 5, 6, 0] rfl (h hT_S30 hv5)
def wp_X5_readContours (S : St) (c : Nat) (r : Nat) (j : Nat) (P : Int32 → St → Prop) : Prop :=
  ∀ (X16 : St → Prop) (X20 : St → Int32 → Int32 → Prop) (X44 : St → Prop) (X60 : St → Int32 → Int32 → Int32 → Nat → Int32 → Prop), (∀ S , st_X5_readContours_16 c r j P X16 X20 X44 X60 S  → X16 S ) → (∀ S v2 v3, st_X5_readContours_20 c r j P X16 X20 X44 X60 S v2 v3 → X20 S v2 v3) → (∀ S , st_X5_readContours_44 c r j P X16 X20 X44 X60 S  → X44 S ) → (∀ S v2 v3 v4 v5 v6, st_X5_readContours_60 c r j P X16 X20 X44 X60 S v2 v3 v4 v5 v6 → X60 S v2 v3 v4 v5 v6) → ∀ (r34 : Int32) (S33 : St), r34 = fv_X2_next S c r → S33 = fs_X2_next S c r → ((r34 < 1 → X16 S33) ∧ (¬ r34 < 1 → ((r34 ≤ 6 → X20 S33 r34 0) ∧ (¬ r34 ≤ 6 → X16 S33))))
set_option maxHeartbeats 4000000 in
set_option maxRecDepth 100000 in
theorem run_X5_readContours {l : Launch} {g : Gx} {S : St} {c : Nat} {r : Nat} {j : Nat} {P : Int32 → St → Prop} (hm : (c, 2, r) ∈ S.2.2.1) (hr : r < 68) (hj : j < 2) (h : rowsLe S → wp_X5_readContours S c r j P) : CMi g l yX5_readContours cX5_readContours 7 (some .boolean) rm_X5_readContours [.ref c, .ref (gad g (148 + j))] S P := cm_entry (own := RX5) (plainFor_of_name (by decide)) rfl (Nat.le_of_ble_eq_true rfl) rfl (fun hle f hf C hrt => by
  subst hf
  replace h := h hle
  obtain ⟨T0, hT⟩ : ∃ T, S.2.2.1 = T := ⟨_, rfl⟩
  rw [hT] at hm
  rw [hT]
  replace h := h (at_X5_readContours_16 f g T0 c r j P) (at_X5_readContours_20 f g T0 c r j P) (at_X5_readContours_44 f g T0 c r j P) (at_X5_readContours_60 f g T0 c r j P) (fun S  h => run_X5_readContours_16 C hrt hm hr hj h) (fun S v2 v3 h => run_X5_readContours_20 C hrt hm hr hj h) (fun S  h => run_X5_readContours_44 C hrt hm hr hj h) (fun S v2 v3 v4 v5 v6 h => run_X5_readContours_60 C hrt hm hr hj h)
  refine ww_aload_n C dX5_readContours_0 0 rfl ?_
  refine ww_cVi (As := []) (rest := []) C ok_X2_next bw_684 dX5_readContours_1 (cm_X2_next (c := c) (r := r) (by rw [hT]; exact hm) hr) (rc_Cursor (q := c) (r := r) (by rw [hT]; exact hm)) rfl ⟨Nat.le_of_ble_eq_true rfl, Nat.le_of_ble_eq_true rfl⟩ (Nat.le_of_ble_eq_true rfl) (c2 := 0) (s2 := 0) rfl rfl ⟨Nat.le_of_ble_eq_true rfl, Nat.le_of_ble_eq_true rfl⟩ rfl (fun r34 S33 hp hTg => ?_)
  obtain ⟨e_r34, e_S33⟩ := hp
  replace h := h r34 S33 e_r34 e_S33
  have hT_S33 : S33.2.2.1 = T0 := by rw [hTg]; exact hT
  refine ww_istore_n (lv2 := [(2, .int r34), (0, .ref c), (1, .ref (gad g (148 + j)))]) C dX5_readContours_4 rfl (Nat.le_of_ble_eq_true rfl) rfl ?_
  refine ww_iload_n C dX5_readContours_5 0 rfl ?_
  refine ww_iconst (v := 1) C dX5_readContours_6 (by decide) ?_
  refine ww_icmp_lt (tgt := 16) C dX5_readContours_7 (by decide) (fun q35 => ?_) (fun q35 => ?_)
  · replace h := h.1 q35
    exact ww_sub [] rfl (h hT_S33)
  · replace h := h.2 q35
    refine ww_iload_n C dX5_readContours_10 0 rfl ?_
    refine ww_bipush (v := 6) C dX5_readContours_11 (by decide) ?_
    refine ww_icmp_le (tgt := 18) C dX5_readContours_13 (by decide) (fun q36 => ?_) (fun q36 => ?_)
    · replace h := h.1 q36
      refine ww_iconst (v := 0) C dX5_readContours_18 (by decide) ?_
      refine ww_istore_n (lv2 := [(3, .int 0), (2, .int r34), (0, .ref c), (1, .ref (gad g (148 + j)))]) C dX5_readContours_19 rfl (Nat.le_of_ble_eq_true rfl) rfl ?_
      exact ww_sub [2, 3, 1, 0] rfl (h hT_S33)
    · replace h := h.2 q36
      exact ww_sub [] rfl (h hT_S33))
abbrev rm_X5_readSizes : Room := { frames := 3, cells := 0, slots := 0, locals := 64 }
theorem ok_X5_readSizes : SOK yX5_readSizes cX5_readSizes 4 (some .boolean) 2 := ⟨bw_772, bw_66, bw_773, by decide +kernel⟩
def st_X5_readSizes_2 (c : Nat) (r : Nat) (q : Nat) (P : Int32 → St → Prop) (X2 : St → Int32 → Prop) (X38 : St → Prop) (S : St) (v2 : Int32) : Prop :=
  (((fv_X4_contourCount S q) ≤ v2 → P 1 S) ∧ (¬ (fv_X4_contourCount S q) ≤ v2 → ∀ (r15 : Int32) (S14 : St), r15 = fv_X2_nextShort S c r → S14 = fs_X2_nextShort S c r → wp_X2_isBroken S14 c r (fun r17 S16 => ((¬ r17 = 0 → X38 S16) ∧ (r17 = 0 → ((r15 < 1 → X38 S16) ∧ (¬ r15 < 1 → wp_X4_sizesTogether S16 q (fun r21 S20 => ((r15 ≤ (16 - r21) → ∀ S23 : St, S23 = fs_X4_changeContourSize S20 q v2 r15 → ∀ x24 : Int32, x24 = v2 + 1 → X2 S23 x24) ∧ (¬ r15 ≤ (16 - r21) → X38 S20))))))))))
def st_X5_readSizes_38 (c : Nat) (r : Nat) (q : Nat) (P : Int32 → St → Prop) (X2 : St → Int32 → Prop) (X38 : St → Prop) (S : St)  : Prop :=
  P 0 S
def at_X5_readSizes_2 (f : Fx) (g : Gx) (T0 : List (Nat × Nat × Nat)) (c : Nat) (r : Nat) (q : Nat) (P : Int32 → St → Prop) (S : St) (v2 : Int32) : Prop := S.2.2.1 = T0 → WW f rm_X5_readSizes g 4 0 0 (Qi f g 0 0 T0 P) S 2 [(0, .ref c), (1, .ref (gad g (136 + q))), (2, .int v2)] []
def at_X5_readSizes_38 (f : Fx) (g : Gx) (T0 : List (Nat × Nat × Nat)) (c : Nat) (r : Nat) (q : Nat) (P : Int32 → St → Prop) (S : St)  : Prop := S.2.2.1 = T0 → WW f rm_X5_readSizes g 4 0 0 (Qi f g 0 0 T0 P) S 38 [] []
set_option maxHeartbeats 4000000 in
set_option maxRecDepth 100000 in
theorem run_X5_readSizes_2 {f : Fx} {g : Gx} {T0 : List (Nat × Nat × Nat)} {S : St} {c : Nat} {r : Nat} {q : Nat} {P : Int32 → St → Prop} (C : Cx f g cX5_readSizes 4 RX5) (hrt : (fmeth f).sig.returnType = (some .boolean)) (hm : (c, 2, r) ∈ T0) (hr : r < 68) (hq : q < 12) {v2 : Int32} (h : st_X5_readSizes_2 c r q P (at_X5_readSizes_2 f g T0 c r q P) (at_X5_readSizes_38 f g T0 c r q P) S v2) : at_X5_readSizes_2 f g T0 c r q P S v2 := by
  intro hT 
  unfold st_X5_readSizes_2 at h
  refine ww_iload_n C dX5_readSizes_2 2 rfl ?_
  refine ww_aload_n C dX5_readSizes_3 1 rfl ?_
  refine ww_cVf (As := []) (rest := [.int v2]) C ok_X4_contourCount bw_774 dX5_readSizes_4 (cm_X4_contourCount hq) (rc_Glyph hq) rfl ⟨Nat.le_of_ble_eq_true rfl, Nat.le_of_ble_eq_true rfl⟩ (Nat.le_of_ble_eq_true rfl) (c2 := 0) (s2 := 0) rfl rfl ⟨Nat.le_of_ble_eq_true rfl, Nat.le_of_ble_eq_true rfl⟩ rfl ?_
  refine ww_icmp_ge (tgt := 52) C dX5_readSizes_7 (by decide) (fun q13 => ?_) (fun q13 => ?_)
  · replace h := h.1 q13
    refine ww_iconst (v := 1) C dX5_readSizes_52 (by decide) ?_
    exact ww_zret C hrt dX5_readSizes_53 hT (by decide) h
  · replace h := h.2 q13
    refine ww_aload_n C dX5_readSizes_10 0 rfl ?_
    refine ww_cVi (As := []) (rest := []) C ok_X2_nextShort bw_775 dX5_readSizes_11 (cm_X2_nextShort (c := c) (r := r) (by rw [hT]; exact hm) hr) (rc_Cursor (q := c) (r := r) (by rw [hT]; exact hm)) rfl ⟨Nat.le_of_ble_eq_true rfl, Nat.le_of_ble_eq_true rfl⟩ (Nat.le_of_ble_eq_true rfl) (c2 := 0) (s2 := 0) rfl rfl ⟨Nat.le_of_ble_eq_true rfl, Nat.le_of_ble_eq_true rfl⟩ rfl (fun r15 S14 hp hTg => ?_)
    obtain ⟨e_r15, e_S14⟩ := hp
    replace h := h r15 S14 e_r15 e_S14
    have hT_S14 : S14.2.2.1 = T0 := by rw [hTg]; exact hT
    refine ww_istore_n (lv2 := [(3, .int r15), (0, .ref c), (1, .ref (gad g (136 + q))), (2, .int v2)]) C dX5_readSizes_14 rfl (Nat.le_of_ble_eq_true rfl) rfl ?_
    refine ww_aload_n C dX5_readSizes_15 1 rfl ?_
    refine ww_cVi (As := []) (rest := []) C ok_X2_isBroken bw_694 dX5_readSizes_16 (run_X2_isBroken (c := c) (r := r) (by rw [hT_S14]; exact hm) hr (fun _ => h)) (rc_Cursor (q := c) (r := r) (by rw [hT_S14]; exact hm)) rfl ⟨Nat.le_of_ble_eq_true rfl, Nat.le_of_ble_eq_true rfl⟩ (Nat.le_of_ble_eq_true rfl) (c2 := 0) (s2 := 0) rfl rfl ⟨Nat.le_of_ble_eq_true rfl, Nat.le_of_ble_eq_true rfl⟩ rfl (fun r17 S16 hp hTg => ?_)
    replace h := hp
    have hT_S16 : S16.2.2.1 = T0 := by rw [hTg]; exact hT_S14
    refine ww_if_ne (tgt := 38) C dX5_readSizes_19 (by decide) (fun q18 => ?_) (fun q18 => ?_)
    · replace h := h.1 q18
      exact ww_sub [] rfl (h hT_S16)
    · replace h := h.2 q18
      refine ww_iload_n C dX5_readSizes_22 0 rfl ?_
      refine ww_iconst (v := 1) C dX5_readSizes_23 (by decide) ?_
      refine ww_icmp_lt (tgt := 38) C dX5_readSizes_24 (by decide) (fun q19 => ?_) (fun q19 => ?_)
      · replace h := h.1 q19
        exact ww_sub [] rfl (h hT_S16)
      · replace h := h.2 q19
        refine ww_iload_n C dX5_readSizes_27 0 rfl ?_
        refine ww_bipush (v := 16) C dX5_readSizes_28 (by decide) ?_
        refine ww_aload_n C dX5_readSizes_30 2 rfl ?_
        refine ww_cVi (As := []) (rest := [.int 16, .int r15]) C ok_X4_sizesTogether bw_779 dX5_readSizes_31 (run_X4_sizesTogether hq (fun _ => h)) (rc_Glyph hq) rfl ⟨Nat.le_of_ble_eq_true rfl, Nat.le_of_ble_eq_true rfl⟩ (Nat.le_of_ble_eq_true rfl) (c2 := 0) (s2 := 0) rfl rfl ⟨Nat.le_of_ble_eq_true rfl, Nat.le_of_ble_eq_true rfl⟩ rfl (fun r21 S20 hp hTg => ?_)
        replace h := hp
        have hT_S20 : S20.2.2.1 = T0 := by rw [hTg]; exact hT_S16
        refine ww_isub C dX5_readSizes_34 ?_
        refine ww_icmp_le (tgt := 40) C dX5_readSizes_35 (by decide) (fun q22 => ?_) (fun q22 => ?_)
        · replace h := h.1 q22
          refine ww_aload_n C dX5_readSizes_40 2 rfl ?_
          refine ww_iload_n C dX5_readSizes_41 3 rfl ?_
          refine ww_iload_n C dX5_readSizes_42 0 rfl ?_
          refine ww_cVg (As := [.int v2, .int r15]) (rest := []) C ok_X4_changeContourSize bw_783 dX5_readSizes_43 (cm_X4_changeContourSize hq) (rc_Glyph hq) rfl ⟨Nat.le_of_ble_eq_true rfl, Nat.le_of_ble_eq_true rfl⟩ (Nat.le_of_ble_eq_true rfl) (c2 := 0) (s2 := 0) rfl rfl ⟨Nat.le_of_ble_eq_true rfl, Nat.le_of_ble_eq_true rfl⟩ rfl (fun hTg => ?_)
          refine ww_nm (fun S23 e_S23 => ?_)
          replace h := h S23 e_S23
          have hT_S23 : S23.2.2.1 = T0 := by rw [e_S23, hTg]; exact hT_S20
          obtain ⟨x24, e_x24⟩ : ∃ z : Int32, z = v2 + 1 := ⟨_, rfl⟩
          replace h := h x24 e_x24
          refine ww_iinc (v := x24) (lv2 := [(2, .int x24), (3, .int r15), (0, .ref c), (1, .ref (gad g (136 + q)))]) C dX5_readSizes_46 3 rfl (by rw [e_x24]; rfl) (Nat.le_of_ble_eq_true rfl) rfl ?_
          refine ww_goto (tgt := 2) C dX5_readSizes_49 (by decide) ?_
          exact ww_sub [2, 3, 0] rfl (h hT_S23)
        · replace h := h.2 q22
          exact ww_sub [] rfl (h hT_S20)
set_option maxHeartbeats 4000000 in
set_option maxRecDepth 100000 in
theorem run_X5_readSizes_38 {f : Fx} {g : Gx} {T0 : List (Nat × Nat × Nat)} {S : St} {c : Nat} {r : Nat} {q : Nat} {P : Int32 → St → Prop} (C : Cx f g cX5_readSizes 4 RX5) (hrt : (fmeth f).sig.returnType = (some .boolean)) (hm : (c, 2, r) ∈ T0) (hr : r < 68) (hq : q < 12)  (h : st_X5_readSizes_38 c r q P (at_X5_readSizes_2 f g T0 c r q P) (at_X5_readSizes_38 f g T0 c r q P) S ) : at_X5_readSizes_38 f g T0 c r q P S  := by
  intro hT 
  unfold st_X5_readSizes_38 at h
  refine ww_iconst (v := 0) C dX5_readSizes_38 (by decide) ?_
  exact ww_zret C hrt dX5_readSizes_39 hT (by decide) h
def wp_X5_readSizes (S : St) (c : Nat) (r : Nat) (q : Nat) (P : Int32 → St → Prop) : Prop :=
  ∀ (X2 : St → Int32 → Prop) (X38 : St → Prop), (∀ S v2, st_X5_readSizes_2 c r q P X2 X38 S v2 → X2 S v2) → (∀ S , st_X5_readSizes_38 c r q P X2 X38 S  → X38 S ) → X2 S 0
set_option maxHeartbeats 4000000 in
set_option maxRecDepth 100000 in
theorem run_X5_readSizes {l : Launch} {g : Gx} {S : St} {c : Nat} {r : Nat} {q : Nat} {P : Int32 → St → Prop} (hm : (c, 2, r) ∈ S.2.2.1) (hr : r < 68) (hq : q < 12) (h : rowsLe S → wp_X5_readSizes S c r q P) : CMi g l yX5_readSizes cX5_readSizes 4 (some .boolean) rm_X5_readSizes [.ref c, .ref (gad g (136 + q))] S P := cm_entry (own := RX5) (plainFor_of_name (by decide)) rfl (Nat.le_of_ble_eq_true rfl) rfl (fun hle f hf C hrt => by
  subst hf
  replace h := h hle
  obtain ⟨T0, hT⟩ : ∃ T, S.2.2.1 = T := ⟨_, rfl⟩
  rw [hT] at hm
  rw [hT]
  replace h := h (at_X5_readSizes_2 f g T0 c r q P) (at_X5_readSizes_38 f g T0 c r q P) (fun S v2 h => run_X5_readSizes_2 C hrt hm hr hq h) (fun S  h => run_X5_readSizes_38 C hrt hm hr hq h)
  refine ww_iconst (v := 0) C dX5_readSizes_0 (by decide) ?_
  refine ww_istore_n (lv2 := [(2, .int 0), (0, .ref c), (1, .ref (gad g (136 + q)))]) C dX5_readSizes_1 rfl (Nat.le_of_ble_eq_true rfl) rfl ?_
  exact ww_sub [1, 2, 0] rfl (h hT))
abbrev rm_X5_readPoints : Room := { frames := 3, cells := 0, slots := 0, locals := 68 }
theorem ok_X5_readPoints : MOK yX5_readPoints RX5 cX5_readPoints 9 (some .boolean) 3 := ⟨bw_789, bw_10, bw_66, bw_790, by decide +kernel⟩
def st_X5_readPoints_15 (q : Nat) (c : Nat) (r : Nat) (d : Nat) (o : Nat) (P : Int32 → St → Prop) (X15 : St → Int32 → Int32 → Int32 → Int32 → Prop) (X80 : St → Prop) (X100 : St → Int32 → Int32 → Int32 → Int32 → Int32 → Int32 → Int32 → Prop) (S : St) (v4 : Int32) (v5 : Int32) (v6 : Int32) (v7 : Int32) : Prop :=
  ((v6 ≤ v7 → P 1 S) ∧ (¬ v6 ≤ v7 → ∀ (r24 : Int32) (S23 : St), r24 = fv_X2_next S c r → S23 = fs_X2_next S c r → ∀ S25 : St, S25 = fs_X5_readStep S23 (r24 - r24 / 128 * 128) d o → ∀ x26 : Int32, x26 = v4 + (S25.2.1 2 2) → ∀ x27 : Int32, x27 = v5 + (S25.2.1 2 3) → wp_X2_isBroken S25 d o (fun r29 S28 => ((¬ r29 = 0 → X80 S28) ∧ (r29 = 0 → wp_X10_isTooFar S28 x26 (fun r32 S31 => ((¬ r32 = 0 → X80 S31) ∧ (r32 = 0 → wp_X10_isTooFar S31 x27 (fun r35 S34 => ((r35 = 0 → ((128 ≤ r24 → X100 S34 x26 x27 v6 v7 0 x27 x26) ∧ (¬ 128 ≤ r24 → X100 S34 x26 x27 v6 v7 1 x27 x26))) ∧ (¬ r35 = 0 → X80 S34)))))))))))
def st_X5_readPoints_80 (q : Nat) (c : Nat) (r : Nat) (d : Nat) (o : Nat) (P : Int32 → St → Prop) (X15 : St → Int32 → Int32 → Int32 → Int32 → Prop) (X80 : St → Prop) (X100 : St → Int32 → Int32 → Int32 → Int32 → Int32 → Int32 → Int32 → Prop) (S : St)  : Prop :=
  P 0 S
def st_X5_readPoints_100 (q : Nat) (c : Nat) (r : Nat) (d : Nat) (o : Nat) (P : Int32 → St → Prop) (X15 : St → Int32 → Int32 → Int32 → Int32 → Prop) (X80 : St → Prop) (X100 : St → Int32 → Int32 → Int32 → Int32 → Int32 → Int32 → Int32 → Prop) (S : St) (v4 : Int32) (v5 : Int32) (v6 : Int32) (v7 : Int32) (s0 : Int32) (s1 : Int32) (s2 : Int32) : Prop :=
  ∀ (r39 : Int32) (S38 : St), r39 = fv_X4_addPoint S q s2 s1 s0 → S38 = fs_X4_addPoint S q s2 s1 s0 → ∀ x40 : Int32, x40 = v7 + 1 → X15 S38 v4 v5 v6 x40
def at_X5_readPoints_15 (f : Fx) (g : Gx) (T0 : List (Nat × Nat × Nat)) (q : Nat) (c : Nat) (r : Nat) (d : Nat) (o : Nat) (P : Int32 → St → Prop) (S : St) (v4 : Int32) (v5 : Int32) (v6 : Int32) (v7 : Int32) : Prop := S.2.2.1 = T0 → WW f rm_X5_readPoints g 9 0 0 (Qi f g 0 0 T0 P) S 15 [(0, .ref (gad g 156)), (1, .ref (gad g (136 + q))), (2, .ref c), (3, .ref d), (4, .int v4), (5, .int v5), (6, .int v6), (7, .int v7)] []
def at_X5_readPoints_80 (f : Fx) (g : Gx) (T0 : List (Nat × Nat × Nat)) (q : Nat) (c : Nat) (r : Nat) (d : Nat) (o : Nat) (P : Int32 → St → Prop) (S : St)  : Prop := S.2.2.1 = T0 → WW f rm_X5_readPoints g 9 0 0 (Qi f g 0 0 T0 P) S 80 [] []
def at_X5_readPoints_100 (f : Fx) (g : Gx) (T0 : List (Nat × Nat × Nat)) (q : Nat) (c : Nat) (r : Nat) (d : Nat) (o : Nat) (P : Int32 → St → Prop) (S : St) (v4 : Int32) (v5 : Int32) (v6 : Int32) (v7 : Int32) (s0 : Int32) (s1 : Int32) (s2 : Int32) : Prop := S.2.2.1 = T0 → WW f rm_X5_readPoints g 9 0 0 (Qi f g 0 0 T0 P) S 100 [(0, .ref (gad g 156)), (1, .ref (gad g (136 + q))), (2, .ref c), (3, .ref d), (4, .int v4), (5, .int v5), (6, .int v6), (7, .int v7)] [.int s0, .int s1, .int s2, .ref (gad g (136 + q))]
set_option maxHeartbeats 4000000 in
set_option maxRecDepth 100000 in
theorem run_X5_readPoints_15 {f : Fx} {g : Gx} {T0 : List (Nat × Nat × Nat)} {S : St} {q : Nat} {c : Nat} {r : Nat} {d : Nat} {o : Nat} {P : Int32 → St → Prop} (C : Cx f g cX5_readPoints 9 RX5) (hrt : (fmeth f).sig.returnType = (some .boolean)) (hq : q < 12) (hm : (c, 2, r) ∈ T0) (hr : r < 68) (hm2 : (d, 2, o) ∈ T0) (ho : o < 68) {v4 : Int32} {v5 : Int32} {v6 : Int32} {v7 : Int32} (h : st_X5_readPoints_15 q c r d o P (at_X5_readPoints_15 f g T0 q c r d o P) (at_X5_readPoints_80 f g T0 q c r d o P) (at_X5_readPoints_100 f g T0 q c r d o P) S v4 v5 v6 v7) : at_X5_readPoints_15 f g T0 q c r d o P S v4 v5 v6 v7 := by
  intro hT 
  unfold st_X5_readPoints_15 at h
  refine ww_iload C dX5_readPoints_15 7 rfl ?_
  refine ww_iload C dX5_readPoints_17 6 rfl ?_
  refine ww_icmp_ge (tgt := 110) C dX5_readPoints_19 (by decide) (fun q22 => ?_) (fun q22 => ?_)
  · replace h := h.1 q22
    refine ww_iconst (v := 1) C dX5_readPoints_110 (by decide) ?_
    exact ww_zret C hrt dX5_readPoints_111 hT (by decide) h
  · replace h := h.2 q22
    refine ww_aload_n C dX5_readPoints_22 2 rfl ?_
    refine ww_cVi (As := []) (rest := []) C ok_X2_next bw_684 dX5_readPoints_23 (cm_X2_next (c := c) (r := r) (by rw [hT]; exact hm) hr) (rc_Cursor (q := c) (r := r) (by rw [hT]; exact hm)) rfl ⟨Nat.le_of_ble_eq_true rfl, Nat.le_of_ble_eq_true rfl⟩ (Nat.le_of_ble_eq_true rfl) (c2 := 0) (s2 := 0) rfl rfl ⟨Nat.le_of_ble_eq_true rfl, Nat.le_of_ble_eq_true rfl⟩ rfl (fun r24 S23 hp hTg => ?_)
    obtain ⟨e_r24, e_S23⟩ := hp
    replace h := h r24 S23 e_r24 e_S23
    have hT_S23 : S23.2.2.1 = T0 := by rw [hTg]; exact hT
    refine ww_istore (lv2 := [(8, .int r24), (0, .ref (gad g 156)), (1, .ref (gad g (136 + q))), (2, .ref c), (3, .ref d), (4, .int v4), (5, .int v5), (6, .int v6), (7, .int v7)]) C dX5_readPoints_26 (Nat.le_of_ble_eq_true rfl) rfl ?_
    refine ww_aload_n C dX5_readPoints_28 1 rfl ?_
    refine ww_iload C dX5_readPoints_29 0 rfl ?_
    refine ww_sipush (v := 128) C dX5_readPoints_31 (by decide) ?_
    refine ww_irem C dX5_readPoints_34 (by decide) ?_
    refine ww_aload_n C dX5_readPoints_35 4 rfl ?_
    refine ww_cVg (As := [.int (r24 - r24 / 128 * 128), .ref d]) (rest := []) C ok_X5_readStep bw_791 dX5_readPoints_36 (cm_X5_readStep (c := d) (r := o) (by rw [hT_S23]; exact hm2) ho) rc_PackedReader rfl ⟨Nat.le_of_ble_eq_true rfl, Nat.le_of_ble_eq_true rfl⟩ (Nat.le_of_ble_eq_true rfl) (c2 := 0) (s2 := 0) rfl rfl ⟨Nat.le_of_ble_eq_true rfl, Nat.le_of_ble_eq_true rfl⟩ rfl (fun hTg => ?_)
    refine ww_nm (fun S25 e_S25 => ?_)
    replace h := h S25 e_S25
    have hT_S25 : S25.2.2.1 = T0 := by rw [e_S25, hTg]; exact hT_S23
    refine ww_iload C dX5_readPoints_39 5 rfl ?_
    refine ww_aload_n C dX5_readPoints_41 1 rfl ?_
    refine gf_PackedReader_dx C bw_145 dX5_readPoints_42 ?_
    refine ww_iadd C dX5_readPoints_45 ?_
    refine ww_topi (fun x26 e_x26 => ?_)
    replace h := h x26 e_x26
    refine ww_istore (lv2 := [(4, .int x26), (8, .int r24), (0, .ref (gad g 156)), (1, .ref (gad g (136 + q))), (2, .ref c), (3, .ref d), (5, .int v5), (6, .int v6), (7, .int v7)]) C dX5_readPoints_46 (Nat.le_of_ble_eq_true rfl) rfl ?_
    refine ww_iload C dX5_readPoints_48 6 rfl ?_
    refine ww_aload_n C dX5_readPoints_50 2 rfl ?_
    refine gf_PackedReader_dy C bw_146 dX5_readPoints_51 ?_
    refine ww_iadd C dX5_readPoints_54 ?_
    refine ww_topi (fun x27 e_x27 => ?_)
    replace h := h x27 e_x27
    refine ww_istore (lv2 := [(5, .int x27), (4, .int x26), (8, .int r24), (0, .ref (gad g 156)), (1, .ref (gad g (136 + q))), (2, .ref c), (3, .ref d), (6, .int v6), (7, .int v7)]) C dX5_readPoints_55 (Nat.le_of_ble_eq_true rfl) rfl ?_
    refine ww_aload_n C dX5_readPoints_57 6 rfl ?_
    refine ww_cVi (As := []) (rest := []) C ok_X2_isBroken bw_694 dX5_readPoints_58 (run_X2_isBroken (c := d) (r := o) (by rw [hT_S25]; exact hm2) ho (fun _ => h)) (rc_Cursor (q := d) (r := o) (by rw [hT_S25]; exact hm2)) rfl ⟨Nat.le_of_ble_eq_true rfl, Nat.le_of_ble_eq_true rfl⟩ (Nat.le_of_ble_eq_true rfl) (c2 := 0) (s2 := 0) rfl rfl ⟨Nat.le_of_ble_eq_true rfl, Nat.le_of_ble_eq_true rfl⟩ rfl (fun r29 S28 hp hTg => ?_)
    replace h := hp
    have hT_S28 : S28.2.2.1 = T0 := by rw [hTg]; exact hT_S25
    refine ww_if_ne (tgt := 80) C dX5_readPoints_61 (by decide) (fun q30 => ?_) (fun q30 => ?_)
    · replace h := h.1 q30
      exact ww_sub [] rfl (h hT_S28)
    · replace h := h.2 q30
      refine ww_iload C dX5_readPoints_64 1 rfl ?_
      refine ww_cNi (As := [.int x26]) (rest := []) C ok_X10_isTooFar dX5_readPoints_66 (run_X10_isTooFar  (fun _ => h)) rfl ⟨Nat.le_of_ble_eq_true rfl, Nat.le_of_ble_eq_true rfl⟩ (Nat.le_of_ble_eq_true rfl) (c2 := 0) (s2 := 0) rfl rfl ⟨Nat.le_of_ble_eq_true rfl, Nat.le_of_ble_eq_true rfl⟩ rfl (fun r32 S31 hp hTg => ?_)
      replace h := hp
      have hT_S31 : S31.2.2.1 = T0 := by rw [hTg]; exact hT_S28
      refine ww_if_ne (tgt := 80) C dX5_readPoints_69 (by decide) (fun q33 => ?_) (fun q33 => ?_)
      · replace h := h.1 q33
        exact ww_sub [] rfl (h hT_S31)
      · replace h := h.2 q33
        refine ww_iload C dX5_readPoints_72 0 rfl ?_
        refine ww_cNi (As := [.int x27]) (rest := []) C ok_X10_isTooFar dX5_readPoints_74 (run_X10_isTooFar  (fun _ => h)) rfl ⟨Nat.le_of_ble_eq_true rfl, Nat.le_of_ble_eq_true rfl⟩ (Nat.le_of_ble_eq_true rfl) (c2 := 0) (s2 := 0) rfl rfl ⟨Nat.le_of_ble_eq_true rfl, Nat.le_of_ble_eq_true rfl⟩ rfl (fun r35 S34 hp hTg => ?_)
        replace h := hp
        have hT_S34 : S34.2.2.1 = T0 := by rw [hTg]; exact hT_S31
        refine ww_if_eq (tgt := 82) C dX5_readPoints_77 (by decide) (fun q36 => ?_) (fun q36 => ?_)
        · replace h := h.1 q36
          refine ww_aload_n C dX5_readPoints_82 4 rfl ?_
          refine ww_iload C dX5_readPoints_83 1 rfl ?_
          refine ww_iload C dX5_readPoints_85 0 rfl ?_
          refine ww_iload C dX5_readPoints_87 2 rfl ?_
          refine ww_sipush (v := 128) C dX5_readPoints_89 (by decide) ?_
          refine ww_icmp_ge (tgt := 99) C dX5_readPoints_92 (by decide) (fun q37 => ?_) (fun q37 => ?_)
          · replace h := h.1 q37
            refine ww_iconst (v := 0) C dX5_readPoints_99 (by decide) ?_
            exact ww_sub [3, 4, 5, 6, 1, 0, 7, 8] rfl (h hT_S34)
          · replace h := h.2 q37
            refine ww_iconst (v := 1) C dX5_readPoints_95 (by decide) ?_
            refine ww_goto (tgt := 100) C dX5_readPoints_96 (by decide) ?_
            exact ww_sub [3, 4, 5, 6, 1, 0, 7, 8] rfl (h hT_S34)
        · replace h := h.2 q36
          exact ww_sub [] rfl (h hT_S34)
set_option maxHeartbeats 4000000 in
set_option maxRecDepth 100000 in
theorem run_X5_readPoints_80 {f : Fx} {g : Gx} {T0 : List (Nat × Nat × Nat)} {S : St} {q : Nat} {c : Nat} {r : Nat} {d : Nat} {o : Nat} {P : Int32 → St → Prop} (C : Cx f g cX5_readPoints 9 RX5) (hrt : (fmeth f).sig.returnType = (some .boolean)) (hq : q < 12) (hm : (c, 2, r) ∈ T0) (hr : r < 68) (hm2 : (d, 2, o) ∈ T0) (ho : o < 68)  (h : st_X5_readPoints_80 q c r d o P (at_X5_readPoints_15 f g T0 q c r d o P) (at_X5_readPoints_80 f g T0 q c r d o P) (at_X5_readPoints_100 f g T0 q c r d o P) S ) : at_X5_readPoints_80 f g T0 q c r d o P S  := by
  intro hT 
  unfold st_X5_readPoints_80 at h
  refine ww_iconst (v := 0) C dX5_readPoints_80 (by decide) ?_
  exact ww_zret C hrt dX5_readPoints_81 hT (by decide) h
set_option maxHeartbeats 4000000 in
set_option maxRecDepth 100000 in
theorem run_X5_readPoints_100 {f : Fx} {g : Gx} {T0 : List (Nat × Nat × Nat)} {S : St} {q : Nat} {c : Nat} {r : Nat} {d : Nat} {o : Nat} {P : Int32 → St → Prop} (C : Cx f g cX5_readPoints 9 RX5) (hrt : (fmeth f).sig.returnType = (some .boolean)) (hq : q < 12) (hm : (c, 2, r) ∈ T0) (hr : r < 68) (hm2 : (d, 2, o) ∈ T0) (ho : o < 68) {v4 : Int32} {v5 : Int32} {v6 : Int32} {v7 : Int32} {s0 : Int32} {s1 : Int32} {s2 : Int32} (h : st_X5_readPoints_100 q c r d o P (at_X5_readPoints_15 f g T0 q c r d o P) (at_X5_readPoints_80 f g T0 q c r d o P) (at_X5_readPoints_100 f g T0 q c r d o P) S v4 v5 v6 v7 s0 s1 s2) : at_X5_readPoints_100 f g T0 q c r d o P S v4 v5 v6 v7 s0 s1 s2 := by
  intro hT 
  unfold st_X5_readPoints_100 at h
  refine ww_cVi (As := [.int s2, .int s1, .int s0]) (rest := []) C ok_X4_addPoint bw_803 dX5_readPoints_100 (cm_X4_addPoint hq) (rc_Glyph hq) rfl ⟨Nat.le_of_ble_eq_true rfl, Nat.le_of_ble_eq_true rfl⟩ (Nat.le_of_ble_eq_true rfl) (c2 := 0) (s2 := 0) rfl rfl ⟨Nat.le_of_ble_eq_true rfl, Nat.le_of_ble_eq_true rfl⟩ rfl (fun r39 S38 hp hTg => ?_)
  obtain ⟨e_r39, e_S38⟩ := hp
  replace h := h r39 S38 e_r39 e_S38
  have hT_S38 : S38.2.2.1 = T0 := by rw [hTg]; exact hT
  refine ww_pop C dX5_readPoints_103 rfl ?_
  obtain ⟨x40, e_x40⟩ : ∃ z : Int32, z = v7 + 1 := ⟨_, rfl⟩
  replace h := h x40 e_x40
  refine ww_iinc (v := x40) (lv2 := [(7, .int x40), (0, .ref (gad g 156)), (1, .ref (gad g (136 + q))), (2, .ref c), (3, .ref d), (4, .int v4), (5, .int v5), (6, .int v6)]) C dX5_readPoints_104 7 rfl (by rw [e_x40]; rfl) (Nat.le_of_ble_eq_true rfl) rfl ?_
  refine ww_goto (tgt := 15) C dX5_readPoints_107 (by decide) ?_
  exact ww_sub [1, 2, 3, 4, 5, 6, 7, 0] rfl (h hT_S38)
def wp_X5_readPoints (S : St) (q : Nat) (c : Nat) (r : Nat) (d : Nat) (o : Nat) (P : Int32 → St → Prop) : Prop :=
  ∀ (X15 : St → Int32 → Int32 → Int32 → Int32 → Prop) (X80 : St → Prop) (X100 : St → Int32 → Int32 → Int32 → Int32 → Int32 → Int32 → Int32 → Prop), (∀ S v4 v5 v6 v7, st_X5_readPoints_15 q c r d o P X15 X80 X100 S v4 v5 v6 v7 → X15 S v4 v5 v6 v7) → (∀ S , st_X5_readPoints_80 q c r d o P X15 X80 X100 S  → X80 S ) → (∀ S v4 v5 v6 v7 s0 s1 s2, st_X5_readPoints_100 q c r d o P X15 X80 X100 S v4 v5 v6 v7 s0 s1 s2 → X100 S v4 v5 v6 v7 s0 s1 s2) → wp_X4_sizesTogether S q (fun r42 S41 => X15 S41 0 0 r42 0)
set_option maxHeartbeats 4000000 in
set_option maxRecDepth 100000 in
theorem run_X5_readPoints {l : Launch} {g : Gx} {S : St} {q : Nat} {c : Nat} {r : Nat} {d : Nat} {o : Nat} {P : Int32 → St → Prop} (hq : q < 12) (hm : (c, 2, r) ∈ S.2.2.1) (hr : r < 68) (hm2 : (d, 2, o) ∈ S.2.2.1) (ho : o < 68) (h : rowsLe S → wp_X5_readPoints S q c r d o P) : CMi g l yX5_readPoints cX5_readPoints 9 (some .boolean) rm_X5_readPoints [.ref (gad g 156), .ref (gad g (136 + q)), .ref c, .ref d] S P := cm_entry (own := RX5) (plainFor_of_name (by decide)) rfl (Nat.le_of_ble_eq_true rfl) rfl (fun hle f hf C hrt => by
  subst hf
  replace h := h hle
  obtain ⟨T0, hT⟩ : ∃ T, S.2.2.1 = T := ⟨_, rfl⟩
  rw [hT] at hm
  rw [hT] at hm2
  rw [hT]
  replace h := h (at_X5_readPoints_15 f g T0 q c r d o P) (at_X5_readPoints_80 f g T0 q c r d o P) (at_X5_readPoints_100 f g T0 q c r d o P) (fun S v4 v5 v6 v7 h => run_X5_readPoints_15 C hrt hq hm hr hm2 ho h) (fun S  h => run_X5_readPoints_80 C hrt hq hm hr hm2 ho h) (fun S v4 v5 v6 v7 s0 s1 s2 h => run_X5_readPoints_100 C hrt hq hm hr hm2 ho h)
  refine ww_iconst (v := 0) C dX5_readPoints_0 (by decide) ?_
  refine ww_istore (lv2 := [(4, .int 0), (0, .ref (gad g 156)), (1, .ref (gad g (136 + q))), (2, .ref c), (3, .ref d)]) C dX5_readPoints_1 (Nat.le_of_ble_eq_true rfl) rfl ?_
  refine ww_iconst (v := 0) C dX5_readPoints_3 (by decide) ?_
  refine ww_istore (lv2 := [(5, .int 0), (4, .int 0), (0, .ref (gad g 156)), (1, .ref (gad g (136 + q))), (2, .ref c), (3, .ref d)]) C dX5_readPoints_4 (Nat.le_of_ble_eq_true rfl) rfl ?_
  refine ww_aload_n C dX5_readPoints_6 3 rfl ?_
  refine ww_cVi (As := []) (rest := []) C ok_X4_sizesTogether bw_779 dX5_readPoints_7 (run_X4_sizesTogether hq (fun _ => h)) (rc_Glyph hq) rfl ⟨Nat.le_of_ble_eq_true rfl, Nat.le_of_ble_eq_true rfl⟩ (Nat.le_of_ble_eq_true rfl) (c2 := 0) (s2 := 0) rfl rfl ⟨Nat.le_of_ble_eq_true rfl, Nat.le_of_ble_eq_true rfl⟩ rfl (fun r42 S41 hp hTg => ?_)
  replace h := hp
  have hT_S41 : S41.2.2.1 = T0 := by rw [hTg]; exact hT
  refine ww_istore (lv2 := [(6, .int r42), (5, .int 0), (4, .int 0), (0, .ref (gad g 156)), (1, .ref (gad g (136 + q))), (2, .ref c), (3, .ref d)]) C dX5_readPoints_10 (Nat.le_of_ble_eq_true rfl) rfl ?_
  refine ww_iconst (v := 0) C dX5_readPoints_12 (by decide) ?_
  refine ww_istore (lv2 := [(7, .int 0), (6, .int r42), (5, .int 0), (4, .int 0), (0, .ref (gad g 156)), (1, .ref (gad g (136 + q))), (2, .ref c), (3, .ref d)]) C dX5_readPoints_13 (Nat.le_of_ble_eq_true rfl) rfl ?_
  exact ww_sub [4, 5, 6, 7, 3, 2, 1, 0] rfl (h hT_S41))
abbrev rm_X5_readBareTables : Room := { frames := 1, cells := 0, slots := 0, locals := 21 }
theorem ok_X5_readBareTables : MOK yX5_readBareTables RX5 cX5_readBareTables 5 none 1 := ⟨bw_818, bw_14, bw_66, bw_819, by decide +kernel⟩
def st_X5_readBareTables_20 (j : Nat) (P : St → Prop) (X20 : St → Int32 → Int32 → Prop) (X29 : St → Int32 → Int32 → Int32 → Prop) (S : St) (v2 : Int32) (v3 : Int32) : Prop :=
  ((7 ≤ v3 → P S) ∧ (¬ 7 ≤ v3 → X29 S v2 v3 0))
def st_X5_readBareTables_29 (j : Nat) (P : St → Prop) (X20 : St → Int32 → Int32 → Prop) (X29 : St → Int32 → Int32 → Int32 → Prop) (S : St) (v2 : Int32) (v3 : Int32) (v4 : Int32) : Prop :=
  (((rGet S 67 v3) ≤ v4 → ∀ x10 : Int32, x10 = v3 + 1 → X20 S v2 x10) ∧ (¬ (rGet S 67 v3) ≤ v4 → ∀ S11 : St, S11 = rAdd S (rwId S j v3) (rGet S 65 v2) → ∀ x12 : Int32, x12 = v2 + 1 → ∀ x13 : Int32, x13 = v4 + 1 → X29 S11 x12 v3 x13))
def at_X5_readBareTables_20 (f : Fx) (g : Gx) (T0 : List (Nat × Nat × Nat)) (j : Nat) (P : St → Prop) (S : St) (v2 : Int32) (v3 : Int32) : Prop := S.2.2.1 = T0 → WW f rm_X5_readBareTables g 5 0 0 (Qv f g 0 0 T0 P) S 20 [(0, .ref (gad g 156)), (1, .ref (gad g (148 + j))), (2, .int v2), (3, .int v3)] []
def at_X5_readBareTables_29 (f : Fx) (g : Gx) (T0 : List (Nat × Nat × Nat)) (j : Nat) (P : St → Prop) (S : St) (v2 : Int32) (v3 : Int32) (v4 : Int32) : Prop := S.2.2.1 = T0 → WW f rm_X5_readBareTables g 5 0 0 (Qv f g 0 0 T0 P) S 29 [(0, .ref (gad g 156)), (1, .ref (gad g (148 + j))), (2, .int v2), (3, .int v3), (4, .int v4)] []
set_option maxHeartbeats 4000000 in
set_option maxRecDepth 100000 in
theorem run_X5_readBareTables_20 {f : Fx} {g : Gx} {T0 : List (Nat × Nat × Nat)} {S : St} {j : Nat} {P : St → Prop} (C : Cx f g cX5_readBareTables 5 RX5) (hrt : (fmeth f).sig.returnType = none) (hj : j < 2) {v2 : Int32} {v3 : Int32} (h : st_X5_readBareTables_20 j P (at_X5_readBareTables_20 f g T0 j P) (at_X5_readBareTables_29 f g T0 j P) S v2 v3) : at_X5_readBareTables_20 f g T0 j P S v2 v3 := by
  intro hT 
  unfold st_X5_readBareTables_20 at h
  refine ww_iload_n C dX5_readBareTables_20 3 rfl ?_
  refine ww_bipush (v := 7) C dX5_readBareTables_21 (by decide) ?_
  refine ww_icmp_ge (tgt := 73) C dX5_readBareTables_23 (by decide) (fun q8 => ?_) (fun q8 => ?_)
  · replace h := h.1 q8
    exact ww_vret C hrt dX5_readBareTables_73 hT h
  · replace h := h.2 q8
    refine ww_iconst (v := 0) C dX5_readBareTables_26 (by decide) ?_
    refine ww_istore (lv2 := [(4, .int 0), (0, .ref (gad g 156)), (1, .ref (gad g (148 + j))), (2, .int v2), (3, .int v3)]) C dX5_readBareTables_27 (Nat.le_of_ble_eq_true rfl) rfl ?_
    exact ww_sub [1, 2, 3, 4, 0] rfl (h hT)
set_option maxHeartbeats 4000000 in
set_option maxRecDepth 100000 in
theorem run_X5_readBareTables_29 {f : Fx} {g : Gx} {T0 : List (Nat × Nat × Nat)} {S : St} {j : Nat} {P : St → Prop} (C : Cx f g cX5_readBareTables 5 RX5) (hrt : (fmeth f).sig.returnType = none) (hj : j < 2) {v2 : Int32} {v3 : Int32} {v4 : Int32} (h : st_X5_readBareTables_29 j P (at_X5_readBareTables_20 f g T0 j P) (at_X5_readBareTables_29 f g T0 j P) S v2 v3 v4) : at_X5_readBareTables_29 f g T0 j P S v2 v3 v4 := by
  intro hT 
  unfold st_X5_readBareTables_29 at h
  refine ww_iload C dX5_readBareTables_29 4 rfl ?_
  refine ww_aload_n C dX5_readBareTables_31 0 rfl ?_
  refine gf_PackedReader_streamLengths C bw_142 dX5_readBareTables_32 ?_
  refine ww_iload_n C dX5_readBareTables_35 3 rfl ?_
  refine ww_cVf (As := [.int v3]) (rest := [.int v4]) C ok_X8_get bw_708 dX5_readBareTables_36 (cm_X8_get (by decide)) (rc_Row (by decide)) rfl ⟨Nat.le_of_ble_eq_true rfl, Nat.le_of_ble_eq_true rfl⟩ (Nat.le_of_ble_eq_true rfl) (c2 := 0) (s2 := 0) rfl rfl ⟨Nat.le_of_ble_eq_true rfl, Nat.le_of_ble_eq_true rfl⟩ rfl ?_
  refine ww_icmp_ge (tgt := 67) C dX5_readBareTables_39 (by decide) (fun q9 => ?_) (fun q9 => ?_)
  · replace h := h.1 q9
    obtain ⟨x10, e_x10⟩ : ∃ z : Int32, z = v3 + 1 := ⟨_, rfl⟩
    replace h := h x10 e_x10
    refine ww_iinc (v := x10) (lv2 := [(3, .int x10), (0, .ref (gad g 156)), (1, .ref (gad g (148 + j))), (2, .int v2), (4, .int v4)]) C dX5_readBareTables_67 3 rfl (by rw [e_x10]; rfl) (Nat.le_of_ble_eq_true rfl) rfl ?_
    refine ww_goto (tgt := 20) C dX5_readBareTables_70 (by decide) ?_
    exact ww_sub [1, 2, 3, 0] rfl (h hT)
  · replace h := h.2 q9
    refine ww_aload_n C dX5_readBareTables_42 1 rfl ?_
    refine ww_iload_n C dX5_readBareTables_43 3 rfl ?_
    refine ww_cVr (As := [.int v3]) (rest := []) C ok_X3_tableRow bw_820 dX5_readBareTables_44 (cm_X3_tableRow hj) (rc_Font hj) rfl ⟨Nat.le_of_ble_eq_true rfl, Nat.le_of_ble_eq_true rfl⟩ (Nat.le_of_ble_eq_true rfl) (c2 := 0) (s2 := 0) rfl rfl ⟨Nat.le_of_ble_eq_true rfl, Nat.le_of_ble_eq_true rfl⟩ rfl ?_
    refine ww_aload_n C dX5_readBareTables_47 0 rfl ?_
    refine gf_PackedReader_stream C bw_140 dX5_readBareTables_48 ?_
    refine ww_iload_n C dX5_readBareTables_51 2 rfl ?_
    refine ww_cVf (As := [.int v2]) (rest := [.ref (gad g (rwId S j v3))]) C ok_X8_get bw_708 dX5_readBareTables_52 (cm_X8_get (by decide)) (rc_Row (by decide)) rfl ⟨Nat.le_of_ble_eq_true rfl, Nat.le_of_ble_eq_true rfl⟩ (Nat.le_of_ble_eq_true rfl) (c2 := 0) (s2 := 0) rfl rfl ⟨Nat.le_of_ble_eq_true rfl, Nat.le_of_ble_eq_true rfl⟩ rfl ?_
    refine ww_cVg (As := [.int (rGet S 65 v2)]) (rest := []) C ok_X8_add bw_742 dX5_readBareTables_55 (cm_X8_add (rwId_lt hj)) (rc_Row (rwId_lt hj)) rfl ⟨Nat.le_of_ble_eq_true rfl, Nat.le_of_ble_eq_true rfl⟩ (Nat.le_of_ble_eq_true rfl) (c2 := 0) (s2 := 0) rfl rfl ⟨Nat.le_of_ble_eq_true rfl, Nat.le_of_ble_eq_true rfl⟩ rfl (fun hTg => ?_)
    refine ww_nm (fun S11 e_S11 => ?_)
    replace h := h S11 e_S11
    have hT_S11 : S11.2.2.1 = T0 := by rw [e_S11, hTg]; exact hT
    obtain ⟨x12, e_x12⟩ : ∃ z : Int32, z = v2 + 1 := ⟨_, rfl⟩
    replace h := h x12 e_x12
    refine ww_iinc (v := x12) (lv2 := [(2, .int x12), (0, .ref (gad g 156)), (1, .ref (gad g (148 + j))), (3, .int v3), (4, .int v4)]) C dX5_readBareTables_58 2 rfl (by rw [e_x12]; rfl) (Nat.le_of_ble_eq_true rfl) rfl ?_
    obtain ⟨x13, e_x13⟩ : ∃ z : Int32, z = v4 + 1 := ⟨_, rfl⟩
    replace h := h x13 e_x13
    refine ww_iinc (v := x13) (lv2 := [(4, .int x13), (2, .int x12), (0, .ref (gad g 156)), (1, .ref (gad g (148 + j))), (3, .int v3)]) C dX5_readBareTables_61 4 rfl (by rw [e_x13]; rfl) (Nat.le_of_ble_eq_true rfl) rfl ?_
    refine ww_goto (tgt := 29) C dX5_readBareTables_64 (by decide) ?_
    exact ww_sub [2, 3, 1, 4, 0] rfl (h hT_S11)
def wp_X5_readBareTables (S : St) (j : Nat) (P : St → Prop) : Prop :=
  ∀ (X20 : St → Int32 → Int32 → Prop) (X29 : St → Int32 → Int32 → Int32 → Prop), (∀ S v2 v3, st_X5_readBareTables_20 j P X20 X29 S v2 v3 → X20 S v2 v3) → (∀ S v2 v3 v4, st_X5_readBareTables_29 j P X20 X29 S v2 v3 v4 → X29 S v2 v3 v4) → ∀ x14 : Int32, x14 = (rGet S 67 0) + (rGet S 67 1) → X20 S x14 2
set_option maxHeartbeats 4000000 in
set_option maxRecDepth 100000 in
theorem run_X5_readBareTables {l : Launch} {g : Gx} {S : St} {j : Nat} {P : St → Prop} (hj : j < 2) (h : rowsLe S → wp_X5_readBareTables S j P) : CMv g l yX5_readBareTables cX5_readBareTables 5 none rm_X5_readBareTables [.ref (gad g 156), .ref (gad g (148 + j))] S P := cm_entry (own := RX5) (plainFor_of_name (by decide)) rfl (Nat.le_of_ble_eq_true rfl) rfl (fun hle f hf C hrt => by
  subst hf
  replace h := h hle
  obtain ⟨T0, hT⟩ : ∃ T, S.2.2.1 = T := ⟨_, rfl⟩
  rw [hT]
  replace h := h (at_X5_readBareTables_20 f g T0 j P) (at_X5_readBareTables_29 f g T0 j P) (fun S v2 v3 h => run_X5_readBareTables_20 C hrt hj h) (fun S v2 v3 v4 h => run_X5_readBareTables_29 C hrt hj h)
  refine ww_aload_n C dX5_readBareTables_0 0 rfl ?_
  refine gf_PackedReader_streamLengths C bw_142 dX5_readBareTables_1 ?_
  refine ww_iconst (v := 0) C dX5_readBareTables_4 (by decide) ?_
  refine ww_cVf (As := [.int 0]) (rest := []) C ok_X8_get bw_708 dX5_readBareTables_5 (cm_X8_get (by decide)) (rc_Row (by decide)) rfl ⟨Nat.le_of_ble_eq_true rfl, Nat.le_of_ble_eq_true rfl⟩ (Nat.le_of_ble_eq_true rfl) (c2 := 0) (s2 := 0) rfl rfl ⟨Nat.le_of_ble_eq_true rfl, Nat.le_of_ble_eq_true rfl⟩ rfl ?_
  refine ww_aload_n C dX5_readBareTables_8 0 rfl ?_
  refine gf_PackedReader_streamLengths C bw_142 dX5_readBareTables_9 ?_
  refine ww_iconst (v := 1) C dX5_readBareTables_12 (by decide) ?_
  refine ww_cVf (As := [.int 1]) (rest := [.int (rGet S 67 0)]) C ok_X8_get bw_708 dX5_readBareTables_13 (cm_X8_get (by decide)) (rc_Row (by decide)) rfl ⟨Nat.le_of_ble_eq_true rfl, Nat.le_of_ble_eq_true rfl⟩ (Nat.le_of_ble_eq_true rfl) (c2 := 0) (s2 := 0) rfl rfl ⟨Nat.le_of_ble_eq_true rfl, Nat.le_of_ble_eq_true rfl⟩ rfl ?_
  refine ww_iadd C dX5_readBareTables_16 ?_
  refine ww_topi (fun x14 e_x14 => ?_)
  replace h := h x14 e_x14
  refine ww_istore_n (lv2 := [(2, .int x14), (0, .ref (gad g 156)), (1, .ref (gad g (148 + j)))]) C dX5_readBareTables_17 rfl (Nat.le_of_ble_eq_true rfl) rfl ?_
  refine ww_iconst (v := 2) C dX5_readBareTables_18 (by decide) ?_
  refine ww_istore_n (lv2 := [(3, .int 2), (2, .int x14), (0, .ref (gad g 156)), (1, .ref (gad g (148 + j)))]) C dX5_readBareTables_19 rfl (Nat.le_of_ble_eq_true rfl) rfl ?_
  exact ww_sub [2, 3, 1, 0] rfl (h hT))
