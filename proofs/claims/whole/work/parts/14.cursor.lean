abbrev rm_X2_isBroken : Room := { frames := 0, cells := 0, slots := 0, locals := 0 }
theorem ok_X2_isBroken : MOK yX2_isBroken RX2 cX2_isBroken 1 (some .boolean) 0 := ⟨bw_695, bw_696, bw_77, bw_697, by decide +kernel⟩
def wp_X2_isBroken (S : St) (c : Nat) (r : Nat) (P : Int32 → St → Prop) : Prop :=
  (((S.2.1 (1000 + c) 2) = 0 ∨ (S.2.1 (1000 + c) 2) = 1) ∧ P (S.2.1 (1000 + c) 2) S)
set_option maxHeartbeats 4000000 in
set_option maxRecDepth 100000 in
theorem run_X2_isBroken {l : Launch} {g : Gx} {S : St} {c : Nat} {r : Nat} {P : Int32 → St → Prop} (hm : (c, 2, r) ∈ S.2.2.1) (hr : r < 68) (h : rowsLe S → wp_X2_isBroken S c r P) : CMi g l yX2_isBroken cX2_isBroken 1 (some .boolean) rm_X2_isBroken [.ref c] S P := cm_entry (own := RX2) (plainFor_of_name (by decide)) rfl (Nat.le_of_ble_eq_true rfl) rfl (fun hle f hf C hrt => by
  subst hf
  replace h := h hle
  obtain ⟨T0, hT⟩ : ∃ T, S.2.2.1 = T := ⟨_, rfl⟩
  rw [hT] at hm
  rw [hT]
  unfold wp_X2_isBroken at h
  refine ww_aload_n C dX2_isBroken_0 0 rfl ?_
  refine gf_Cursor_broken C (q := c) (r := r) (by rw [hT]; exact hm) bw_670 dX2_isBroken_1 ?_
  exact ww_zret C hrt dX2_isBroken_4 hT h.1 h.2)
abbrev rm_X2_isAtEnd : Room := { frames := 0, cells := 0, slots := 0, locals := 0 }
theorem ok_X2_isAtEnd : MOK yX2_isAtEnd RX2 cX2_isAtEnd 1 (some .boolean) 0 := ⟨bw_805, bw_806, bw_77, bw_807, by decide +kernel⟩
def wp_X2_isAtEnd_23 (c : Nat) (r : Nat) (S : St) (s0 : Int32) (P : Int32 → St → Prop) : Prop :=
  ((s0 = 0 ∨ s0 = 1) ∧ P s0 S)
set_option maxHeartbeats 4000000 in
set_option maxRecDepth 100000 in
theorem run_X2_isAtEnd_23 {f : Fx} {g : Gx} {T0 : List (Nat × Nat × Nat)} {S : St} {c : Nat} {r : Nat} {P : Int32 → St → Prop} (C : Cx f g cX2_isAtEnd 1 RX2) (hrt : (fmeth f).sig.returnType = (some .boolean)) (hm : (c, 2, r) ∈ T0) (hr : r < 68) {s0 : Int32} (hT : S.2.2.1 = T0)  (h : wp_X2_isAtEnd_23 c r S s0 P) : WW f rm_X2_isAtEnd g 1 0 0 (Qi f g 0 0 T0 P) S 23 [] [.int s0] := by
  unfold wp_X2_isAtEnd_23 at h
  exact ww_zret C hrt dX2_isAtEnd_23 hT h.1 h.2
def wp_X2_isAtEnd_22 (c : Nat) (r : Nat) (S : St)  (P : Int32 → St → Prop) : Prop :=
  wp_X2_isAtEnd_23 c r S 0 P
set_option maxHeartbeats 4000000 in
set_option maxRecDepth 100000 in
theorem run_X2_isAtEnd_22 {f : Fx} {g : Gx} {T0 : List (Nat × Nat × Nat)} {S : St} {c : Nat} {r : Nat} {P : Int32 → St → Prop} (C : Cx f g cX2_isAtEnd 1 RX2) (hrt : (fmeth f).sig.returnType = (some .boolean)) (hm : (c, 2, r) ∈ T0) (hr : r < 68)  (hT : S.2.2.1 = T0)  (h : wp_X2_isAtEnd_22 c r S  P) : WW f rm_X2_isAtEnd g 1 0 0 (Qi f g 0 0 T0 P) S 22 [] [] := by
  unfold wp_X2_isAtEnd_22 at h
  refine ww_iconst (v := 0) C dX2_isAtEnd_22 (by decide) ?_
  exact ww_sub [] rfl (run_X2_isAtEnd_23 C hrt hm hr hT  h)
def wp_X2_isAtEnd (S : St) (c : Nat) (r : Nat) (P : Int32 → St → Prop) : Prop :=
  ((¬ (S.2.1 (1000 + c) 2) = 0 → wp_X2_isAtEnd_22 c r S  P) ∧ ((S.2.1 (1000 + c) 2) = 0 → ((¬ (S.2.1 (1000 + c) 1) = (S.2.1 (1000 + c) 0) → wp_X2_isAtEnd_22 c r S  P) ∧ ((S.2.1 (1000 + c) 1) = (S.2.1 (1000 + c) 0) → wp_X2_isAtEnd_23 c r S 1 P))))
set_option maxHeartbeats 4000000 in
set_option maxRecDepth 100000 in
theorem run_X2_isAtEnd {l : Launch} {g : Gx} {S : St} {c : Nat} {r : Nat} {P : Int32 → St → Prop} (hm : (c, 2, r) ∈ S.2.2.1) (hr : r < 68) (h : rowsLe S → wp_X2_isAtEnd S c r P) : CMi g l yX2_isAtEnd cX2_isAtEnd 1 (some .boolean) rm_X2_isAtEnd [.ref c] S P := cm_entry (own := RX2) (plainFor_of_name (by decide)) rfl (Nat.le_of_ble_eq_true rfl) rfl (fun hle f hf C hrt => by
  subst hf
  replace h := h hle
  obtain ⟨T0, hT⟩ : ∃ T, S.2.2.1 = T := ⟨_, rfl⟩
  rw [hT] at hm
  rw [hT]
  unfold wp_X2_isAtEnd at h
  refine ww_aload_n C dX2_isAtEnd_0 0 rfl ?_
  refine gf_Cursor_broken C (q := c) (r := r) (by rw [hT]; exact hm) bw_670 dX2_isAtEnd_1 ?_
  refine ww_if_ne (tgt := 22) C dX2_isAtEnd_4 (by decide) (fun q3 => ?_) (fun q3 => ?_)
  · replace h := h.1 q3
    exact ww_sub [] rfl (run_X2_isAtEnd_22 C hrt hm hr hT  h)
  · replace h := h.2 q3
    refine ww_aload_n C dX2_isAtEnd_7 0 rfl ?_
    refine gf_Cursor_place C (q := c) (r := r) (by rw [hT]; exact hm) bw_669 dX2_isAtEnd_8 ?_
    refine ww_aload_n C dX2_isAtEnd_11 0 rfl ?_
    refine gf_Cursor_end C (q := c) (r := r) (by rw [hT]; exact hm) bw_668 dX2_isAtEnd_12 ?_
    refine ww_icmp_ne (tgt := 22) C dX2_isAtEnd_15 (by decide) (fun q4 => ?_) (fun q4 => ?_)
    · replace h := h.1 q4
      exact ww_sub [] rfl (run_X2_isAtEnd_22 C hrt hm hr hT  h)
    · replace h := h.2 q4
      refine ww_iconst (v := 1) C dX2_isAtEnd_18 (by decide) ?_
      refine ww_goto (tgt := 23) C dX2_isAtEnd_19 (by decide) ?_
      exact ww_sub [] rfl (run_X2_isAtEnd_23 C hrt hm hr hT  h))
abbrev rm_X2_place : Room := { frames := 0, cells := 0, slots := 0, locals := 0 }
theorem ok_X2_place : MOK yX2_place RX2 cX2_place 1 (some .int) 0 := ⟨bw_712, bw_713, bw_77, bw_714, by decide +kernel⟩
def wp_X2_place (S : St) (c : Nat) (r : Nat) (P : Int32 → St → Prop) : Prop :=
  P (S.2.1 (1000 + c) 1) S
set_option maxHeartbeats 4000000 in
set_option maxRecDepth 100000 in
theorem run_X2_place {l : Launch} {g : Gx} {S : St} {c : Nat} {r : Nat} {P : Int32 → St → Prop} (hm : (c, 2, r) ∈ S.2.2.1) (hr : r < 68) (h : rowsLe S → wp_X2_place S c r P) : CMi g l yX2_place cX2_place 1 (some .int) rm_X2_place [.ref c] S P := cm_entry (own := RX2) (plainFor_of_name (by decide)) rfl (Nat.le_of_ble_eq_true rfl) rfl (fun hle f hf C hrt => by
  subst hf
  replace h := h hle
  obtain ⟨T0, hT⟩ : ∃ T, S.2.2.1 = T := ⟨_, rfl⟩
  rw [hT] at hm
  rw [hT]
  unfold wp_X2_place at h
  refine ww_aload_n C dX2_place_0 0 rfl ?_
  refine gf_Cursor_place C (q := c) (r := r) (by rw [hT]; exact hm) bw_669 dX2_place_1 ?_
  exact ww_iret C hrt dX2_place_4 hT h)
def fv_X2_place (S : St) (c : Nat) (r : Nat)  : Int32 := (S.2.1 (1000 + c) 1)
set_option maxHeartbeats 4000000 in
set_option maxRecDepth 100000 in
theorem sp_X2_place {S : St} {c : Nat} {r : Nat}  {P : Int32 → St → Prop} (h : P (fv_X2_place S c r ) S) : wp_X2_place S c r P := by
  unfold wp_X2_place
  unfold fv_X2_place at h
  exact h
theorem cm_X2_place {l : Launch} {g : Gx} {S : St} {c : Nat} {r : Nat} (hm : (c, 2, r) ∈ S.2.2.1) (hr : r < 68) : CMi g l yX2_place cX2_place 1 (some .int) rm_X2_place [.ref c] S (fun v S2 => v = fv_X2_place S c r ∧ S2 = S) := run_X2_place hm hr (fun _ => sp_X2_place ⟨rfl, rfl⟩)
abbrev rm_X2_next : Room := { frames := 1, cells := 0, slots := 0, locals := 21 }
theorem ok_X2_next : MOK yX2_next RX2 cX2_next 2 (some .int) 0 := ⟨bw_685, bw_686, bw_77, bw_687, by decide +kernel⟩
def wp_X2_next_18 (c : Nat) (r : Nat) (S : St)  (P : Int32 → St → Prop) : Prop :=
  ∀ S6 : St, S6 = stM S (1000 + c) 2 1 → P 0 S6
set_option maxHeartbeats 4000000 in
set_option maxRecDepth 100000 in
theorem run_X2_next_18 {f : Fx} {g : Gx} {T0 : List (Nat × Nat × Nat)} {S : St} {c : Nat} {r : Nat} {P : Int32 → St → Prop} (C : Cx f g cX2_next 2 RX2) (hrt : (fmeth f).sig.returnType = (some .int)) (hm : (c, 2, r) ∈ T0) (hr : r < 68)  (hT : S.2.2.1 = T0)  (h : wp_X2_next_18 c r S  P) : WW f rm_X2_next g 2 0 0 (Qi f g 0 0 T0 P) S 18 [(0, .ref c)] [] := by
  unfold wp_X2_next_18 at h
  refine ww_aload_n C dX2_next_18 0 rfl ?_
  refine ww_iconst (v := 1) C dX2_next_19 (by decide) ?_
  refine pf_Cursor_broken C (q := c) (r := r) (by decide) (by rw [hT]; exact hm) bw_670 dX2_next_20 ?_
  refine ww_nm (fun S6 e_S6 => ?_)
  replace h := h S6 e_S6
  have hT_S6 : S6.2.2.1 = T0 := by rw [e_S6]; exact hT
  refine ww_iconst (v := 0) C dX2_next_23 (by decide) ?_
  exact ww_iret C hrt dX2_next_24 hT_S6 h
def wp_X2_next (S : St) (c : Nat) (r : Nat) (P : Int32 → St → Prop) : Prop :=
  ((¬ (S.2.1 (1000 + c) 2) = 0 → wp_X2_next_18 c r S  P) ∧ ((S.2.1 (1000 + c) 2) = 0 → (((S.2.1 (1000 + c) 1) < (S.2.1 (1000 + c) 0) → ∀ x9 : Int32, x9 = rGet S r (S.2.1 (1000 + c) 1) → ∀ S10 : St, S10 = stM S (1000 + c) 1 ((S.2.1 (1000 + c) 1) + 1) → P x9 S10) ∧ (¬ (S.2.1 (1000 + c) 1) < (S.2.1 (1000 + c) 0) → wp_X2_next_18 c r S  P))))
set_option maxHeartbeats 4000000 in
set_option maxRecDepth 100000 in
theorem run_X2_next {l : Launch} {g : Gx} {S : St} {c : Nat} {r : Nat} {P : Int32 → St → Prop} (hm : (c, 2, r) ∈ S.2.2.1) (hr : r < 68) (h : rowsLe S → wp_X2_next S c r P) : CMi g l yX2_next cX2_next 2 (some .int) rm_X2_next [.ref c] S P := cm_entry (own := RX2) (plainFor_of_name (by decide)) rfl (Nat.le_of_ble_eq_true rfl) rfl (fun hle f hf C hrt => by
  subst hf
  replace h := h hle
  obtain ⟨T0, hT⟩ : ∃ T, S.2.2.1 = T := ⟨_, rfl⟩
  rw [hT] at hm
  rw [hT]
  unfold wp_X2_next at h
  refine ww_aload_n C dX2_next_0 0 rfl ?_
  refine gf_Cursor_broken C (q := c) (r := r) (by rw [hT]; exact hm) bw_670 dX2_next_1 ?_
  refine ww_if_ne (tgt := 18) C dX2_next_4 (by decide) (fun q7 => ?_) (fun q7 => ?_)
  · replace h := h.1 q7
    exact ww_sub [0] rfl (run_X2_next_18 C hrt hm hr hT  h)
  · replace h := h.2 q7
    refine ww_aload_n C dX2_next_7 0 rfl ?_
    refine gf_Cursor_place C (q := c) (r := r) (by rw [hT]; exact hm) bw_669 dX2_next_8 ?_
    refine ww_aload_n C dX2_next_11 0 rfl ?_
    refine gf_Cursor_end C (q := c) (r := r) (by rw [hT]; exact hm) bw_668 dX2_next_12 ?_
    refine ww_icmp_lt (tgt := 25) C dX2_next_15 (by decide) (fun q8 => ?_) (fun q8 => ?_)
    · replace h := h.1 q8
      refine ww_aload_n C dX2_next_25 0 rfl ?_
      refine gf_Cursor_row C (q := c) (r := r) (by rw [hT]; exact hm) bw_667 dX2_next_26 ?_
      refine ww_aload_n C dX2_next_29 0 rfl ?_
      refine gf_Cursor_place C (q := c) (r := r) (by rw [hT]; exact hm) bw_669 dX2_next_30 ?_
      refine ww_cVf (As := [.int (S.2.1 (1000 + c) 1)]) (rest := []) C ok_X8_get bw_688 dX2_next_33 (cm_X8_get hr) (rc_Row hr) rfl ⟨Nat.le_of_ble_eq_true rfl, Nat.le_of_ble_eq_true rfl⟩ (Nat.le_of_ble_eq_true rfl) (c2 := 0) (s2 := 0) rfl rfl ⟨Nat.le_of_ble_eq_true rfl, Nat.le_of_ble_eq_true rfl⟩ rfl ?_
      refine ww_topi (fun x9 e_x9 => ?_)
      replace h := h x9 e_x9
      refine ww_istore_n (lv2 := [(1, .int x9), (0, .ref c)]) C dX2_next_36 rfl (Nat.le_of_ble_eq_true rfl) rfl ?_
      refine ww_aload_n C dX2_next_37 1 rfl ?_
      refine ww_dup C dX2_next_38 rfl ?_
      refine gf_Cursor_place C (q := c) (r := r) (by rw [hT]; exact hm) bw_669 dX2_next_39 ?_
      refine ww_iconst (v := 1) C dX2_next_42 (by decide) ?_
      refine ww_iadd C dX2_next_43 ?_
      refine pf_Cursor_place C (q := c) (r := r) (by rw [hT]; exact hm) bw_669 dX2_next_44 ?_
      refine ww_nm (fun S10 e_S10 => ?_)
      replace h := h S10 e_S10
      have hT_S10 : S10.2.2.1 = T0 := by rw [e_S10]; exact hT
      refine ww_iload_n C dX2_next_47 0 rfl ?_
      exact ww_iret C hrt dX2_next_48 hT_S10 h
    · replace h := h.2 q8
      exact ww_sub [0] rfl (run_X2_next_18 C hrt hm hr hT  h))
def fv_X2_next_18 (S : St) (c : Nat) (r : Nat)  : Int32 := 0
def fs_X2_next_18 (S : St) (c : Nat) (r : Nat)  : St := ((stM S (1000 + c) 2 1))
set_option maxHeartbeats 4000000 in
set_option maxRecDepth 100000 in
theorem sp_X2_next_18 {S : St} {c : Nat} {r : Nat}  {P : Int32 → St → Prop} (h : P (fv_X2_next_18 S c r ) (fs_X2_next_18 S c r )) : wp_X2_next_18 c r S  P := by
  unfold wp_X2_next_18
  unfold fv_X2_next_18 fs_X2_next_18 at h
  intro S6 e_S6
  subst e_S6
  exact h
def fv_X2_next (S : St) (c : Nat) (r : Nat)  : Int32 := (if (S.2.1 (1000 + c) 2) = 0 then (if (S.2.1 (1000 + c) 1) < (S.2.1 (1000 + c) 0) then ((rGet S r (S.2.1 (1000 + c) 1))) else (fv_X2_next_18 S c r)) else (fv_X2_next_18 S c r))
def fs_X2_next (S : St) (c : Nat) (r : Nat)  : St := (if (S.2.1 (1000 + c) 2) = 0 then (if (S.2.1 (1000 + c) 1) < (S.2.1 (1000 + c) 0) then ((stM S (1000 + c) 1 ((S.2.1 (1000 + c) 1) + 1))) else (fs_X2_next_18 S c r)) else (fs_X2_next_18 S c r))
set_option maxHeartbeats 4000000 in
set_option maxRecDepth 100000 in
theorem sp_X2_next {S : St} {c : Nat} {r : Nat}  {P : Int32 → St → Prop} (h : P (fv_X2_next S c r ) (fs_X2_next S c r )) : wp_X2_next S c r P := by
  unfold wp_X2_next
  unfold fv_X2_next fs_X2_next at h
  refine ⟨fun q7 => ?_, fun q7 => ?_⟩
  · simp only [if_neg q7] at h
    exact sp_X2_next_18 h
  · simp only [if_pos q7] at h
    refine ⟨fun q8 => ?_, fun q8 => ?_⟩
    · simp only [if_pos q8] at h
      intro x9 e_x9
      subst e_x9
      intro S10 e_S10
      subst e_S10
      exact h
    · simp only [if_neg q8] at h
      exact sp_X2_next_18 h
theorem cm_X2_next {l : Launch} {g : Gx} {S : St} {c : Nat} {r : Nat} (hm : (c, 2, r) ∈ S.2.2.1) (hr : r < 68) : CMi g l yX2_next cX2_next 2 (some .int) rm_X2_next [.ref c] S (fun v S2 => v = fv_X2_next S c r ∧ S2 = fs_X2_next S c r) := run_X2_next hm hr (fun _ => sp_X2_next ⟨rfl, rfl⟩)
abbrev rm_X2_nextShort : Room := { frames := 2, cells := 0, slots := 0, locals := 42 }
theorem ok_X2_nextShort : MOK yX2_nextShort RX2 cX2_nextShort 3 (some .int) 0 := ⟨bw_776, bw_777, bw_77, bw_778, by decide +kernel⟩
def wp_X2_nextShort (S : St) (c : Nat) (r : Nat) (P : Int32 → St → Prop) : Prop :=
  ∀ (r15 : Int32) (S14 : St), r15 = fv_X2_next S c r → S14 = fs_X2_next S c r → ((r15 = 253 → ∀ (r17 : Int32) (S16 : St), r17 = fv_X2_next S14 c r → S16 = fs_X2_next S14 c r → ∀ (r19 : Int32) (S18 : St), r19 = fv_X2_next S16 c r → S18 = fs_X2_next S16 c r → P ((r17 * 256) + r19) S18) ∧ (r15 = 254 → ∀ (r22 : Int32) (S21 : St), r22 = fv_X2_next S14 c r → S21 = fs_X2_next S14 c r → P (506 + r22) S21) ∧ (r15 = 255 → ∀ (r25 : Int32) (S24 : St), r25 = fv_X2_next S14 c r → S24 = fs_X2_next S14 c r → P (253 + r25) S24) ∧ (¬ r15 = 253 → ¬ r15 = 254 → ¬ r15 = 255 → P r15 S14))
set_option maxHeartbeats 4000000 in
set_option maxRecDepth 100000 in
theorem run_X2_nextShort {l : Launch} {g : Gx} {S : St} {c : Nat} {r : Nat} {P : Int32 → St → Prop} (hm : (c, 2, r) ∈ S.2.2.1) (hr : r < 68) (h : rowsLe S → wp_X2_nextShort S c r P) : CMi g l yX2_nextShort cX2_nextShort 3 (some .int) rm_X2_nextShort [.ref c] S P := cm_entry (own := RX2) (plainFor_of_name (by decide)) rfl (Nat.le_of_ble_eq_true rfl) rfl (fun hle f hf C hrt => by
  subst hf
  replace h := h hle
  obtain ⟨T0, hT⟩ : ∃ T, S.2.2.1 = T := ⟨_, rfl⟩
  rw [hT] at hm
  rw [hT]
  unfold wp_X2_nextShort at h
  refine ww_aload_n C dX2_nextShort_0 0 rfl ?_
  refine ww_cVi (As := []) (rest := []) C ok_X2_next bw_706 dX2_nextShort_1 (cm_X2_next (c := c) (r := r) (by rw [hT]; exact hm) hr) (rc_Cursor (q := c) (r := r) (by rw [hT]; exact hm)) rfl ⟨Nat.le_of_ble_eq_true rfl, Nat.le_of_ble_eq_true rfl⟩ (Nat.le_of_ble_eq_true rfl) (c2 := 0) (s2 := 0) rfl rfl ⟨Nat.le_of_ble_eq_true rfl, Nat.le_of_ble_eq_true rfl⟩ rfl (fun r15 S14 hp hTg => ?_)
  obtain ⟨e_r15, e_S14⟩ := hp
  replace h := h r15 S14 e_r15 e_S14
  have hT_S14 : S14.2.2.1 = T0 := by rw [hTg]; exact hT
  refine ww_istore_n (lv2 := [(1, .int r15), (0, .ref c)]) C dX2_nextShort_4 rfl (Nat.le_of_ble_eq_true rfl) rfl ?_
  refine ww_iload_n C dX2_nextShort_5 0 rfl ?_
  by_cases q20 : r15 = 253
  · replace h := h.1 q20
    refine ww_table_in (off := 44) (tgt := 50) C dX2_nextShort_6 (by rw [q20]; decide) (by rw [q20]; decide) (by rw [q20]; decide) (by decide) ?_
    refine ww_aload_n C dX2_nextShort_50 1 rfl ?_
    refine ww_cVi (As := []) (rest := []) C ok_X2_next bw_706 dX2_nextShort_51 (cm_X2_next (c := c) (r := r) (by rw [hT_S14]; exact hm) hr) (rc_Cursor (q := c) (r := r) (by rw [hT_S14]; exact hm)) rfl ⟨Nat.le_of_ble_eq_true rfl, Nat.le_of_ble_eq_true rfl⟩ (Nat.le_of_ble_eq_true rfl) (c2 := 0) (s2 := 0) rfl rfl ⟨Nat.le_of_ble_eq_true rfl, Nat.le_of_ble_eq_true rfl⟩ rfl (fun r17 S16 hp hTg => ?_)
    obtain ⟨e_r17, e_S16⟩ := hp
    replace h := h r17 S16 e_r17 e_S16
    have hT_S16 : S16.2.2.1 = T0 := by rw [hTg]; exact hT_S14
    refine ww_istore_n (lv2 := [(2, .int r17), (1, .int r15), (0, .ref c)]) C dX2_nextShort_54 rfl (Nat.le_of_ble_eq_true rfl) rfl ?_
    refine ww_iload_n C dX2_nextShort_55 0 rfl ?_
    refine ww_sipush (v := 256) C dX2_nextShort_56 (by decide) ?_
    refine ww_imul C dX2_nextShort_59 ?_
    refine ww_aload_n C dX2_nextShort_60 2 rfl ?_
    refine ww_cVi (As := []) (rest := [.int (r17 * 256)]) C ok_X2_next bw_706 dX2_nextShort_61 (cm_X2_next (c := c) (r := r) (by rw [hT_S16]; exact hm) hr) (rc_Cursor (q := c) (r := r) (by rw [hT_S16]; exact hm)) rfl ⟨Nat.le_of_ble_eq_true rfl, Nat.le_of_ble_eq_true rfl⟩ (Nat.le_of_ble_eq_true rfl) (c2 := 0) (s2 := 0) rfl rfl ⟨Nat.le_of_ble_eq_true rfl, Nat.le_of_ble_eq_true rfl⟩ rfl (fun r19 S18 hp hTg => ?_)
    obtain ⟨e_r19, e_S18⟩ := hp
    replace h := h r19 S18 e_r19 e_S18
    have hT_S18 : S18.2.2.1 = T0 := by rw [hTg]; exact hT_S16
    refine ww_iadd C dX2_nextShort_64 ?_
    exact ww_iret C hrt dX2_nextShort_65 hT_S18 h
  by_cases q23 : r15 = 254
  · replace h := h.2.1 q23
    refine ww_table_in (off := 35) (tgt := 41) C dX2_nextShort_6 (by rw [q23]; decide) (by rw [q23]; decide) (by rw [q23]; decide) (by decide) ?_
    refine ww_sipush (v := 506) C dX2_nextShort_41 (by decide) ?_
    refine ww_aload_n C dX2_nextShort_44 1 rfl ?_
    refine ww_cVi (As := []) (rest := [.int 506]) C ok_X2_next bw_706 dX2_nextShort_45 (cm_X2_next (c := c) (r := r) (by rw [hT_S14]; exact hm) hr) (rc_Cursor (q := c) (r := r) (by rw [hT_S14]; exact hm)) rfl ⟨Nat.le_of_ble_eq_true rfl, Nat.le_of_ble_eq_true rfl⟩ (Nat.le_of_ble_eq_true rfl) (c2 := 0) (s2 := 0) rfl rfl ⟨Nat.le_of_ble_eq_true rfl, Nat.le_of_ble_eq_true rfl⟩ rfl (fun r22 S21 hp hTg => ?_)
    obtain ⟨e_r22, e_S21⟩ := hp
    replace h := h r22 S21 e_r22 e_S21
    have hT_S21 : S21.2.2.1 = T0 := by rw [hTg]; exact hT_S14
    refine ww_iadd C dX2_nextShort_48 ?_
    exact ww_iret C hrt dX2_nextShort_49 hT_S21 h
  by_cases q26 : r15 = 255
  · replace h := h.2.2.1 q26
    refine ww_table_in (off := 26) (tgt := 32) C dX2_nextShort_6 (by rw [q26]; decide) (by rw [q26]; decide) (by rw [q26]; decide) (by decide) ?_
    refine ww_sipush (v := 253) C dX2_nextShort_32 (by decide) ?_
    refine ww_aload_n C dX2_nextShort_35 1 rfl ?_
    refine ww_cVi (As := []) (rest := [.int 253]) C ok_X2_next bw_706 dX2_nextShort_36 (cm_X2_next (c := c) (r := r) (by rw [hT_S14]; exact hm) hr) (rc_Cursor (q := c) (r := r) (by rw [hT_S14]; exact hm)) rfl ⟨Nat.le_of_ble_eq_true rfl, Nat.le_of_ble_eq_true rfl⟩ (Nat.le_of_ble_eq_true rfl) (c2 := 0) (s2 := 0) rfl rfl ⟨Nat.le_of_ble_eq_true rfl, Nat.le_of_ble_eq_true rfl⟩ rfl (fun r25 S24 hp hTg => ?_)
    obtain ⟨e_r25, e_S24⟩ := hp
    replace h := h r25 S24 e_r25 e_S24
    have hT_S24 : S24.2.2.1 = T0 := by rw [hTg]; exact hT_S14
    refine ww_iadd C dX2_nextShort_39 ?_
    exact ww_iret C hrt dX2_nextShort_40 hT_S24 h
  replace h := h.2.2.2 q20 q23 q26
  refine ww_table_out (tgt := 66) C dX2_nextShort_6 (by have a0 := sw_ne q20; rw [show ((253 : Int32)).toInt = 253 from by decide] at a0; have a1 := sw_ne q23; rw [show ((254 : Int32)).toInt = 254 from by decide] at a1; have a2 := sw_ne q26; rw [show ((255 : Int32)).toInt = 255 from by decide] at a2; omega) (by decide) ?_
  refine ww_iload_n C dX2_nextShort_66 0 rfl ?_
  exact ww_iret C hrt dX2_nextShort_67 hT_S14 h)
def fv_X2_nextShort (S : St) (c : Nat) (r : Nat)  : Int32 := (if (fv_X2_next S c r) = 253 then (((fv_X2_next (fs_X2_next S c r) c r) * 256) + (fv_X2_next (fs_X2_next (fs_X2_next S c r) c r) c r)) else (if (fv_X2_next S c r) = 254 then (506 + (fv_X2_next (fs_X2_next S c r) c r)) else (if (fv_X2_next S c r) = 255 then (253 + (fv_X2_next (fs_X2_next S c r) c r)) else ((fv_X2_next S c r)))))
def fs_X2_nextShort (S : St) (c : Nat) (r : Nat)  : St := (if (fv_X2_next S c r) = 253 then ((fs_X2_next (fs_X2_next (fs_X2_next S c r) c r) c r)) else (if (fv_X2_next S c r) = 254 then ((fs_X2_next (fs_X2_next S c r) c r)) else (if (fv_X2_next S c r) = 255 then ((fs_X2_next (fs_X2_next S c r) c r)) else ((fs_X2_next S c r)))))
set_option maxHeartbeats 4000000 in
set_option maxRecDepth 100000 in
theorem sp_X2_nextShort {S : St} {c : Nat} {r : Nat}  {P : Int32 → St → Prop} (h : P (fv_X2_nextShort S c r ) (fs_X2_nextShort S c r )) : wp_X2_nextShort S c r P := by
  unfold wp_X2_nextShort
  unfold fv_X2_nextShort fs_X2_nextShort at h
  intro r15 S14 e_r15 e_S14
  subst e_r15
  subst e_S14
  refine ⟨fun q20 => ?_, fun q23 => ?_, fun q26 => ?_, fun q20 q23 q26 => ?_⟩
  · simp only [if_pos q20] at h
    intro r17 S16 e_r17 e_S16
    subst e_r17
    subst e_S16
    intro r19 S18 e_r19 e_S18
    subst e_r19
    subst e_S18
    exact h
  · have nq20 := fun z => absurd (b := False) (q23.symm.trans z) (by decide : ¬ ((254 : Int32) = 253))
    simp only [if_neg nq20, if_pos q23] at h
    intro r22 S21 e_r22 e_S21
    subst e_r22
    subst e_S21
    exact h
  · have nq20 := fun z => absurd (b := False) (q26.symm.trans z) (by decide : ¬ ((255 : Int32) = 253))
    have nq23 := fun z => absurd (b := False) (q26.symm.trans z) (by decide : ¬ ((255 : Int32) = 254))
    simp only [if_neg nq20, if_neg nq23, if_pos q26] at h
    intro r25 S24 e_r25 e_S24
    subst e_r25
    subst e_S24
    exact h
  · simp only [if_neg q20, if_neg q23, if_neg q26] at h
    exact h
theorem cm_X2_nextShort {l : Launch} {g : Gx} {S : St} {c : Nat} {r : Nat} (hm : (c, 2, r) ∈ S.2.2.1) (hr : r < 68) : CMi g l yX2_nextShort cX2_nextShort 3 (some .int) rm_X2_nextShort [.ref c] S (fun v S2 => v = fv_X2_nextShort S c r ∧ S2 = fs_X2_nextShort S c r) := run_X2_nextShort hm hr (fun _ => sp_X2_nextShort ⟨rfl, rfl⟩)
abbrev rm_X2_nextLong : Room := { frames := 2, cells := 0, slots := 0, locals := 42 }
theorem ok_X2_nextLong : MOK yX2_nextLong RX2 cX2_nextLong 4 (some .int) 0 := ⟨bw_703, bw_704, bw_77, bw_705, by decide +kernel⟩
def st_X2_nextLong_4 (c : Nat) (r : Nat) (P : Int32 → St → Prop) (X4 : St → Int32 → Int32 → Prop) (X28 : St → Int32 → Int32 → Int32 → Prop) (X55 : St → Prop) (S : St) (v1 : Int32) (v2 : Int32) : Prop :=
  ((3 ≤ v2 → X55 S) ∧ (¬ 3 ≤ v2 → ∀ (r12 : Int32) (S11 : St), r12 = fv_X2_next S c r → S11 = fs_X2_next S c r → ((¬ v2 = 0 → X28 S11 v1 v2 r12) ∧ (v2 = 0 → ((¬ r12 = 128 → X28 S11 v1 v2 r12) ∧ (r12 = 128 → X55 S11))))))
def st_X2_nextLong_28 (c : Nat) (r : Nat) (P : Int32 → St → Prop) (X4 : St → Int32 → Int32 → Prop) (X28 : St → Int32 → Int32 → Int32 → Prop) (X55 : St → Prop) (S : St) (v1 : Int32) (v2 : Int32) (v3 : Int32) : Prop :=
  ∀ x15 : Int32, x15 = (v1 * 128) + (v3 - v3 / 128 * 128) → ((128 ≤ v3 → ∀ x17 : Int32, x17 = v2 + 1 → X4 S x15 x17) ∧ (¬ 128 ≤ v3 → P x15 S))
def st_X2_nextLong_55 (c : Nat) (r : Nat) (P : Int32 → St → Prop) (X4 : St → Int32 → Int32 → Prop) (X28 : St → Int32 → Int32 → Int32 → Prop) (X55 : St → Prop) (S : St)  : Prop :=
  ∀ S18 : St, S18 = stM S (1000 + c) 2 1 → P 0 S18
def at_X2_nextLong_4 (f : Fx) (g : Gx) (T0 : List (Nat × Nat × Nat)) (c : Nat) (r : Nat) (P : Int32 → St → Prop) (S : St) (v1 : Int32) (v2 : Int32) : Prop := S.2.2.1 = T0 → WW f rm_X2_nextLong g 4 0 0 (Qi f g 0 0 T0 P) S 4 [(0, .ref c), (1, .int v1), (2, .int v2)] []
def at_X2_nextLong_28 (f : Fx) (g : Gx) (T0 : List (Nat × Nat × Nat)) (c : Nat) (r : Nat) (P : Int32 → St → Prop) (S : St) (v1 : Int32) (v2 : Int32) (v3 : Int32) : Prop := S.2.2.1 = T0 → WW f rm_X2_nextLong g 4 0 0 (Qi f g 0 0 T0 P) S 28 [(0, .ref c), (1, .int v1), (2, .int v2), (3, .int v3)] []
def at_X2_nextLong_55 (f : Fx) (g : Gx) (T0 : List (Nat × Nat × Nat)) (c : Nat) (r : Nat) (P : Int32 → St → Prop) (S : St)  : Prop := S.2.2.1 = T0 → WW f rm_X2_nextLong g 4 0 0 (Qi f g 0 0 T0 P) S 55 [(0, .ref c)] []
set_option maxHeartbeats 4000000 in
set_option maxRecDepth 100000 in
theorem run_X2_nextLong_4 {f : Fx} {g : Gx} {T0 : List (Nat × Nat × Nat)} {S : St} {c : Nat} {r : Nat} {P : Int32 → St → Prop} (C : Cx f g cX2_nextLong 4 RX2) (hrt : (fmeth f).sig.returnType = (some .int)) (hm : (c, 2, r) ∈ T0) (hr : r < 68) {v1 : Int32} {v2 : Int32} (h : st_X2_nextLong_4 c r P (at_X2_nextLong_4 f g T0 c r P) (at_X2_nextLong_28 f g T0 c r P) (at_X2_nextLong_55 f g T0 c r P) S v1 v2) : at_X2_nextLong_4 f g T0 c r P S v1 v2 := by
  intro hT 
  unfold st_X2_nextLong_4 at h
  refine ww_iload_n C dX2_nextLong_4 2 rfl ?_
  refine ww_iconst (v := 3) C dX2_nextLong_5 (by decide) ?_
  refine ww_icmp_ge (tgt := 55) C dX2_nextLong_6 (by decide) (fun q10 => ?_) (fun q10 => ?_)
  · replace h := h.1 q10
    exact ww_sub [0] rfl (h hT)
  · replace h := h.2 q10
    refine ww_aload_n C dX2_nextLong_9 0 rfl ?_
    refine ww_cVi (As := []) (rest := []) C ok_X2_next bw_706 dX2_nextLong_10 (cm_X2_next (c := c) (r := r) (by rw [hT]; exact hm) hr) (rc_Cursor (q := c) (r := r) (by rw [hT]; exact hm)) rfl ⟨Nat.le_of_ble_eq_true rfl, Nat.le_of_ble_eq_true rfl⟩ (Nat.le_of_ble_eq_true rfl) (c2 := 0) (s2 := 0) rfl rfl ⟨Nat.le_of_ble_eq_true rfl, Nat.le_of_ble_eq_true rfl⟩ rfl (fun r12 S11 hp hTg => ?_)
    obtain ⟨e_r12, e_S11⟩ := hp
    replace h := h r12 S11 e_r12 e_S11
    have hT_S11 : S11.2.2.1 = T0 := by rw [hTg]; exact hT
    refine ww_istore_n (lv2 := [(3, .int r12), (0, .ref c), (1, .int v1), (2, .int v2)]) C dX2_nextLong_13 rfl (Nat.le_of_ble_eq_true rfl) rfl ?_
    refine ww_iload_n C dX2_nextLong_14 3 rfl ?_
    refine ww_if_ne (tgt := 28) C dX2_nextLong_15 (by decide) (fun q13 => ?_) (fun q13 => ?_)
    · replace h := h.1 q13
      exact ww_sub [1, 2, 3, 0] rfl (h hT_S11)
    · replace h := h.2 q13
      refine ww_iload_n C dX2_nextLong_18 0 rfl ?_
      refine ww_sipush (v := 128) C dX2_nextLong_19 (by decide) ?_
      refine ww_icmp_ne (tgt := 28) C dX2_nextLong_22 (by decide) (fun q14 => ?_) (fun q14 => ?_)
      · replace h := h.1 q14
        exact ww_sub [1, 2, 3, 0] rfl (h hT_S11)
      · replace h := h.2 q14
        refine ww_goto (tgt := 55) C dX2_nextLong_25 (by decide) ?_
        exact ww_sub [1] rfl (h hT_S11)
set_option maxHeartbeats 4000000 in
set_option maxRecDepth 100000 in
theorem run_X2_nextLong_28 {f : Fx} {g : Gx} {T0 : List (Nat × Nat × Nat)} {S : St} {c : Nat} {r : Nat} {P : Int32 → St → Prop} (C : Cx f g cX2_nextLong 4 RX2) (hrt : (fmeth f).sig.returnType = (some .int)) (hm : (c, 2, r) ∈ T0) (hr : r < 68) {v1 : Int32} {v2 : Int32} {v3 : Int32} (h : st_X2_nextLong_28 c r P (at_X2_nextLong_4 f g T0 c r P) (at_X2_nextLong_28 f g T0 c r P) (at_X2_nextLong_55 f g T0 c r P) S v1 v2 v3) : at_X2_nextLong_28 f g T0 c r P S v1 v2 v3 := by
  intro hT 
  unfold st_X2_nextLong_28 at h
  refine ww_iload_n C dX2_nextLong_28 1 rfl ?_
  refine ww_sipush (v := 128) C dX2_nextLong_29 (by decide) ?_
  refine ww_imul C dX2_nextLong_32 ?_
  refine ww_iload_n C dX2_nextLong_33 3 rfl ?_
  refine ww_sipush (v := 128) C dX2_nextLong_34 (by decide) ?_
  refine ww_irem C dX2_nextLong_37 (by decide) ?_
  refine ww_iadd C dX2_nextLong_38 ?_
  refine ww_topi (fun x15 e_x15 => ?_)
  replace h := h x15 e_x15
  refine ww_istore_n (lv2 := [(1, .int x15), (0, .ref c), (2, .int v2), (3, .int v3)]) C dX2_nextLong_39 rfl (Nat.le_of_ble_eq_true rfl) rfl ?_
  refine ww_iload_n C dX2_nextLong_40 3 rfl ?_
  refine ww_sipush (v := 128) C dX2_nextLong_41 (by decide) ?_
  refine ww_icmp_ge (tgt := 49) C dX2_nextLong_44 (by decide) (fun q16 => ?_) (fun q16 => ?_)
  · replace h := h.1 q16
    obtain ⟨x17, e_x17⟩ : ∃ z : Int32, z = v2 + 1 := ⟨_, rfl⟩
    replace h := h x17 e_x17
    refine ww_iinc (v := x17) (lv2 := [(2, .int x17), (1, .int x15), (0, .ref c), (3, .int v3)]) C dX2_nextLong_49 2 rfl (by rw [e_x17]; rfl) (Nat.le_of_ble_eq_true rfl) rfl ?_
    refine ww_goto (tgt := 4) C dX2_nextLong_52 (by decide) ?_
    exact ww_sub [2, 1, 0] rfl (h hT)
  · replace h := h.2 q16
    refine ww_iload_n C dX2_nextLong_47 0 rfl ?_
    exact ww_iret C hrt dX2_nextLong_48 hT h
set_option maxHeartbeats 4000000 in
set_option maxRecDepth 100000 in
theorem run_X2_nextLong_55 {f : Fx} {g : Gx} {T0 : List (Nat × Nat × Nat)} {S : St} {c : Nat} {r : Nat} {P : Int32 → St → Prop} (C : Cx f g cX2_nextLong 4 RX2) (hrt : (fmeth f).sig.returnType = (some .int)) (hm : (c, 2, r) ∈ T0) (hr : r < 68)  (h : st_X2_nextLong_55 c r P (at_X2_nextLong_4 f g T0 c r P) (at_X2_nextLong_28 f g T0 c r P) (at_X2_nextLong_55 f g T0 c r P) S ) : at_X2_nextLong_55 f g T0 c r P S  := by
  intro hT 
  unfold st_X2_nextLong_55 at h
  refine ww_aload_n C dX2_nextLong_55 0 rfl ?_
  refine ww_iconst (v := 1) C dX2_nextLong_56 (by decide) ?_
  refine pf_Cursor_broken C (q := c) (r := r) (by decide) (by rw [hT]; exact hm) bw_670 dX2_nextLong_57 ?_
  refine ww_nm (fun S18 e_S18 => ?_)
  replace h := h S18 e_S18
  have hT_S18 : S18.2.2.1 = T0 := by rw [e_S18]; exact hT
  refine ww_iconst (v := 0) C dX2_nextLong_60 (by decide) ?_
  exact ww_iret C hrt dX2_nextLong_61 hT_S18 h
def wp_X2_nextLong (S : St) (c : Nat) (r : Nat) (P : Int32 → St → Prop) : Prop :=
  ∀ (X4 : St → Int32 → Int32 → Prop) (X28 : St → Int32 → Int32 → Int32 → Prop) (X55 : St → Prop), (∀ S v1 v2, st_X2_nextLong_4 c r P X4 X28 X55 S v1 v2 → X4 S v1 v2) → (∀ S v1 v2 v3, st_X2_nextLong_28 c r P X4 X28 X55 S v1 v2 v3 → X28 S v1 v2 v3) → (∀ S , st_X2_nextLong_55 c r P X4 X28 X55 S  → X55 S ) → X4 S 0 0
set_option maxHeartbeats 4000000 in
set_option maxRecDepth 100000 in
theorem run_X2_nextLong {l : Launch} {g : Gx} {S : St} {c : Nat} {r : Nat} {P : Int32 → St → Prop} (hm : (c, 2, r) ∈ S.2.2.1) (hr : r < 68) (h : rowsLe S → wp_X2_nextLong S c r P) : CMi g l yX2_nextLong cX2_nextLong 4 (some .int) rm_X2_nextLong [.ref c] S P := cm_entry (own := RX2) (plainFor_of_name (by decide)) rfl (Nat.le_of_ble_eq_true rfl) rfl (fun hle f hf C hrt => by
  subst hf
  replace h := h hle
  obtain ⟨T0, hT⟩ : ∃ T, S.2.2.1 = T := ⟨_, rfl⟩
  rw [hT] at hm
  rw [hT]
  replace h := h (at_X2_nextLong_4 f g T0 c r P) (at_X2_nextLong_28 f g T0 c r P) (at_X2_nextLong_55 f g T0 c r P) (fun S v1 v2 h => run_X2_nextLong_4 C hrt hm hr h) (fun S v1 v2 v3 h => run_X2_nextLong_28 C hrt hm hr h) (fun S  h => run_X2_nextLong_55 C hrt hm hr h)
  refine ww_iconst (v := 0) C dX2_nextLong_0 (by decide) ?_
  refine ww_istore_n (lv2 := [(1, .int 0), (0, .ref c)]) C dX2_nextLong_1 rfl (Nat.le_of_ble_eq_true rfl) rfl ?_
  refine ww_iconst (v := 0) C dX2_nextLong_2 (by decide) ?_
  refine ww_istore_n (lv2 := [(2, .int 0), (1, .int 0), (0, .ref c)]) C dX2_nextLong_3 rfl (Nat.le_of_ble_eq_true rfl) rfl ?_
  exact ww_sub [2, 1, 0] rfl (h hT))
