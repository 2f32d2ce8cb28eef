abbrev rm_J9_floorMod_7cf53 : Room := { frames := 0, cells := 0, slots := 0, locals := 0 }
theorem ok_J9_floorMod_7cf53 : SOK yJ9_floorMod_7cf53 cJ9_floorMod_7cf53 3 (some .int) 2 := ⟨bw_645, bw_63, bw_646, by decide +kernel⟩
def wp_J9_floorMod_7cf53_18 (x : Int32) (y : Int32) (S : St) (v2 : Int32) (P : Int32 → St → Prop) : Prop :=
  P v2 S
set_option maxHeartbeats 4000000 in
set_option maxRecDepth 100000 in
theorem run_J9_floorMod_7cf53_18 {f : Fx} {g : Gx} {T0 : List (Nat × Nat × Nat)} {S : St} {x : Int32} {y : Int32} {P : Int32 → St → Prop} (C : Cx f g cJ9_floorMod_7cf53 3 RJ9) (hrt : (fmeth f).sig.returnType = (some .int))  {v2 : Int32} (hT : S.2.2.1 = T0)  (h : wp_J9_floorMod_7cf53_18 x y S v2 P) : WW f rm_J9_floorMod_7cf53 g 3 0 0 (Qi f g 0 0 T0 P) S 18 [(2, .int v2)] [] := by
  unfold wp_J9_floorMod_7cf53_18 at h
  refine ww_iload_n C dJ9_floorMod_7cf53_18 0 rfl ?_
  exact ww_iret C hrt dJ9_floorMod_7cf53_19 hT h
def wp_J9_floorMod_7cf53 (S : St) (x : Int32) (y : Int32) (P : Int32 → St → Prop) : Prop :=
  (¬ y = 0 ∧ ∀ x4 : Int32, x4 = x - x / y * y → ((0 ≤ (x ^^^ y) → wp_J9_floorMod_7cf53_18 x y S x4 P) ∧ (¬ 0 ≤ (x ^^^ y) → ((x4 = 0 → wp_J9_floorMod_7cf53_18 x y S x4 P) ∧ (¬ x4 = 0 → P (x4 + y) S)))))
set_option maxHeartbeats 4000000 in
set_option maxRecDepth 100000 in
theorem run_J9_floorMod_7cf53 {l : Launch} {g : Gx} {S : St} {x : Int32} {y : Int32} {P : Int32 → St → Prop}  (h : rowsLe S → wp_J9_floorMod_7cf53 S x y P) : CMi g l yJ9_floorMod_7cf53 cJ9_floorMod_7cf53 3 (some .int) rm_J9_floorMod_7cf53 [.int x, .int y] S P := cm_entry (own := RJ9) (by decide +kernel) rfl (Nat.le_of_ble_eq_true rfl) rfl (fun hle f hf C hrt => by
  subst hf
  replace h := h hle
  obtain ⟨T0, hT⟩ : ∃ T, S.2.2.1 = T := ⟨_, rfl⟩
  rw [hT]
  unfold wp_J9_floorMod_7cf53 at h
  refine ww_iload_n C dJ9_floorMod_7cf53_0 0 rfl ?_
  refine ww_iload_n C dJ9_floorMod_7cf53_1 1 rfl ?_
  refine ww_irem C dJ9_floorMod_7cf53_2 h.1 ?_
  replace h := h.2
  refine ww_topi (fun x4 e_x4 => ?_)
  replace h := h x4 e_x4
  refine ww_istore_n (lv2 := [(2, .int x4), (0, .int x), (1, .int y)]) C dJ9_floorMod_7cf53_3 rfl (Nat.le_of_ble_eq_true rfl) rfl ?_
  refine ww_iload_n C dJ9_floorMod_7cf53_4 1 rfl ?_
  refine ww_iload_n C dJ9_floorMod_7cf53_5 2 rfl ?_
  refine ww_ixor C dJ9_floorMod_7cf53_6 ?_
  refine ww_if_ge (tgt := 18) C dJ9_floorMod_7cf53_7 (by decide) (fun q5 => ?_) (fun q5 => ?_)
  · replace h := h.1 q5
    exact ww_sub [0] rfl (run_J9_floorMod_7cf53_18 C hrt  hT  h)
  · replace h := h.2 q5
    refine ww_iload_n C dJ9_floorMod_7cf53_10 0 rfl ?_
    refine ww_if_eq (tgt := 18) C dJ9_floorMod_7cf53_11 (by decide) (fun q6 => ?_) (fun q6 => ?_)
    · replace h := h.1 q6
      exact ww_sub [0] rfl (run_J9_floorMod_7cf53_18 C hrt  hT  h)
    · replace h := h.2 q6
      refine ww_iload_n C dJ9_floorMod_7cf53_14 0 rfl ?_
      refine ww_iload_n C dJ9_floorMod_7cf53_15 2 rfl ?_
      refine ww_iadd C dJ9_floorMod_7cf53_16 ?_
      exact ww_iret C hrt dJ9_floorMod_7cf53_17 hT h)
abbrev rm_X7_fillOf : Room := { frames := 1, cells := 0, slots := 0, locals := 22 }
theorem ok_X7_fillOf : SOK yX7_fillOf cX7_fillOf 1 (some .int) 1 := ⟨bw_642, bw_75, bw_643, by decide +kernel⟩
def wp_X7_fillOf (S : St) (r : Nat) (P : Int32 → St → Prop) : Prop :=
  wp_J9_floorMod_7cf53 S (-(rLen S r)) 4 (fun r4 S3 => P r4 S3)
set_option maxHeartbeats 4000000 in
set_option maxRecDepth 100000 in
theorem run_X7_fillOf {l : Launch} {g : Gx} {S : St} {r : Nat} {P : Int32 → St → Prop} (hr : r < 68) (h : rowsLe S → wp_X7_fillOf S r P) : CMi g l yX7_fillOf cX7_fillOf 1 (some .int) rm_X7_fillOf [.ref (gad g r)] S P := cm_entry (own := RX7) (plainFor_of_name (by decide)) rfl (Nat.le_of_ble_eq_true rfl) rfl (fun hle f hf C hrt => by
  subst hf
  replace h := h hle
  obtain ⟨T0, hT⟩ : ∃ T, S.2.2.1 = T := ⟨_, rfl⟩
  rw [hT]
  unfold wp_X7_fillOf at h
  refine ww_aload_n C dX7_fillOf_0 0 rfl ?_
  refine ww_cVf (As := []) (rest := []) C ok_X8_length bw_473 dX7_fillOf_1 (cm_X8_length hr) (rc_Row hr) rfl ⟨Nat.le_of_ble_eq_true rfl, Nat.le_of_ble_eq_true rfl⟩ (Nat.le_of_ble_eq_true rfl) (c2 := 0) (s2 := 0) rfl rfl ⟨Nat.le_of_ble_eq_true rfl, Nat.le_of_ble_eq_true rfl⟩ rfl ?_
  refine ww_ineg C dX7_fillOf_4 ?_
  refine ww_iconst (v := 4) C dX7_fillOf_5 (by decide) ?_
  refine ww_cSi (As := [.int (-(rLen S r)), .int 4]) (rest := []) C ok_J9_floorMod_7cf53 bw_644 dX7_fillOf_6 (run_J9_floorMod_7cf53  (fun _ => h)) rfl ⟨Nat.le_of_ble_eq_true rfl, Nat.le_of_ble_eq_true rfl⟩ (Nat.le_of_ble_eq_true rfl) (c2 := 0) (s2 := 0) rfl rfl ⟨Nat.le_of_ble_eq_true rfl, Nat.le_of_ble_eq_true rfl⟩ rfl (fun r4 S3 hp hTg => ?_)
  replace h := hp
  have hT_S3 : S3.2.2.1 = T0 := by rw [hTg]; exact hT
  exact ww_iret C hrt dX7_fillOf_9 hT_S3 h)
abbrev rm_X7_checkOf : Room := { frames := 1, cells := 0, slots := 0, locals := 21 }
theorem ok_X7_checkOf : SOK yX7_checkOf cX7_checkOf 3 (some .int) 1 := ⟨bw_638, bw_75, bw_639, by decide +kernel⟩
def st_X7_checkOf_4 (r : Nat) (P : Int32 → St → Prop) (X4 : St → Int32 → Int32 → Prop) (S : St) (v1 : Int32) (v2 : Int32) : Prop :=
  (((rLen S r) ≤ v2 → P v1 S) ∧ (¬ (rLen S r) ≤ v2 → ∀ x5 : Int32, x5 = v1 + ((rGet S r v2) <<< ((24 - ((v2 - v2 / 4 * 4) * 8)) &&& 31)) → ∀ x6 : Int32, x6 = v2 + 1 → X4 S x5 x6))
def at_X7_checkOf_4 (f : Fx) (g : Gx) (T0 : List (Nat × Nat × Nat)) (r : Nat) (P : Int32 → St → Prop) (S : St) (v1 : Int32) (v2 : Int32) : Prop := S.2.2.1 = T0 → WW f rm_X7_checkOf g 3 0 0 (Qi f g 0 0 T0 P) S 4 [(0, .ref (gad g r)), (1, .int v1), (2, .int v2)] []
set_option maxHeartbeats 4000000 in
set_option maxRecDepth 100000 in
theorem run_X7_checkOf_4 {f : Fx} {g : Gx} {T0 : List (Nat × Nat × Nat)} {S : St} {r : Nat} {P : Int32 → St → Prop} (C : Cx f g cX7_checkOf 3 RX7) (hrt : (fmeth f).sig.returnType = (some .int)) (hr : r < 68) {v1 : Int32} {v2 : Int32} (h : st_X7_checkOf_4 r P (at_X7_checkOf_4 f g T0 r P) S v1 v2) : at_X7_checkOf_4 f g T0 r P S v1 v2 := by
  intro hT 
  unfold st_X7_checkOf_4 at h
  refine ww_iload_n C dX7_checkOf_4 2 rfl ?_
  refine ww_aload_n C dX7_checkOf_5 0 rfl ?_
  refine ww_cVf (As := []) (rest := [.int v2]) C ok_X8_length bw_473 dX7_checkOf_6 (cm_X8_length hr) (rc_Row hr) rfl ⟨Nat.le_of_ble_eq_true rfl, Nat.le_of_ble_eq_true rfl⟩ (Nat.le_of_ble_eq_true rfl) (c2 := 0) (s2 := 0) rfl rfl ⟨Nat.le_of_ble_eq_true rfl, Nat.le_of_ble_eq_true rfl⟩ rfl ?_
  refine ww_icmp_ge (tgt := 36) C dX7_checkOf_9 (by decide) (fun q4 => ?_) (fun q4 => ?_)
  · replace h := h.1 q4
    refine ww_iload_n C dX7_checkOf_36 1 rfl ?_
    exact ww_iret C hrt dX7_checkOf_37 hT h
  · replace h := h.2 q4
    refine ww_iload_n C dX7_checkOf_12 1 rfl ?_
    refine ww_aload_n C dX7_checkOf_13 0 rfl ?_
    refine ww_iload_n C dX7_checkOf_14 2 rfl ?_
    refine ww_cVf (As := [.int v2]) (rest := [.int v1]) C ok_X8_get bw_640 dX7_checkOf_15 (cm_X8_get hr) (rc_Row hr) rfl ⟨Nat.le_of_ble_eq_true rfl, Nat.le_of_ble_eq_true rfl⟩ (Nat.le_of_ble_eq_true rfl) (c2 := 0) (s2 := 0) rfl rfl ⟨Nat.le_of_ble_eq_true rfl, Nat.le_of_ble_eq_true rfl⟩ rfl ?_
    refine ww_bipush (v := 24) C dX7_checkOf_18 (by decide) ?_
    refine ww_iload_n C dX7_checkOf_20 2 rfl ?_
    refine ww_iconst (v := 4) C dX7_checkOf_21 (by decide) ?_
    refine ww_irem C dX7_checkOf_22 (by decide) ?_
    refine ww_bipush (v := 8) C dX7_checkOf_23 (by decide) ?_
    refine ww_imul C dX7_checkOf_25 ?_
    refine ww_isub C dX7_checkOf_26 ?_
    refine ww_ishl C dX7_checkOf_27 ?_
    refine ww_iadd C dX7_checkOf_28 ?_
    refine ww_topi (fun x5 e_x5 => ?_)
    replace h := h x5 e_x5
    refine ww_istore_n (lv2 := [(1, .int x5), (0, .ref (gad g r)), (2, .int v2)]) C dX7_checkOf_29 rfl (Nat.le_of_ble_eq_true rfl) rfl ?_
    obtain ⟨x6, e_x6⟩ : ∃ z : Int32, z = v2 + 1 := ⟨_, rfl⟩
    replace h := h x6 e_x6
    refine ww_iinc (v := x6) (lv2 := [(2, .int x6), (1, .int x5), (0, .ref (gad g r))]) C dX7_checkOf_30 2 rfl (by rw [e_x6]; rfl) (Nat.le_of_ble_eq_true rfl) rfl ?_
    refine ww_goto (tgt := 4) C dX7_checkOf_33 (by decide) ?_
    exact ww_sub [2, 1, 0] rfl (h hT)
def wp_X7_checkOf (S : St) (r : Nat) (P : Int32 → St → Prop) : Prop :=
  ∀ (X4 : St → Int32 → Int32 → Prop), (∀ S v1 v2, st_X7_checkOf_4 r P X4 S v1 v2 → X4 S v1 v2) → X4 S 0 0
set_option maxHeartbeats 4000000 in
set_option maxRecDepth 100000 in
theorem run_X7_checkOf {l : Launch} {g : Gx} {S : St} {r : Nat} {P : Int32 → St → Prop} (hr : r < 68) (h : rowsLe S → wp_X7_checkOf S r P) : CMi g l yX7_checkOf cX7_checkOf 3 (some .int) rm_X7_checkOf [.ref (gad g r)] S P := cm_entry (own := RX7) (plainFor_of_name (by decide)) rfl (Nat.le_of_ble_eq_true rfl) rfl (fun hle f hf C hrt => by
  subst hf
  replace h := h hle
  obtain ⟨T0, hT⟩ : ∃ T, S.2.2.1 = T := ⟨_, rfl⟩
  rw [hT]
  replace h := h (at_X7_checkOf_4 f g T0 r P) (fun S v1 v2 h => run_X7_checkOf_4 C hrt hr h)
  refine ww_iconst (v := 0) C dX7_checkOf_0 (by decide) ?_
  refine ww_istore_n (lv2 := [(1, .int 0), (0, .ref (gad g r))]) C dX7_checkOf_1 rfl (Nat.le_of_ble_eq_true rfl) rfl ?_
  refine ww_iconst (v := 0) C dX7_checkOf_2 (by decide) ?_
  refine ww_istore_n (lv2 := [(2, .int 0), (1, .int 0), (0, .ref (gad g r))]) C dX7_checkOf_3 rfl (Nat.le_of_ble_eq_true rfl) rfl ?_
  exact ww_sub [2, 1, 0] rfl (h hT))
abbrev rm_X7_addContours : Room := { frames := 2, cells := 0, slots := 0, locals := 42 }
theorem ok_X7_addContours : SOK yX7_addContours cX7_addContours 4 none 2 := ⟨bw_481, bw_75, bw_482, by decide +kernel⟩
def st_X7_addContours_12 (q : Nat) (r : Nat) (P : St → Prop) (X12 : St → Int32 → Int32 → Prop) (S : St) (v2 : Int32) (v3 : Int32) : Prop :=
  (((fv_X4_contourCount S q) ≤ v3 → P S) ∧ (¬ (fv_X4_contourCount S q) ≤ v3 → ∀ x8 : Int32, x8 = v2 + (fv_X4_contourSize S q v3) → ∀ S9 : St, S9 = rAdd S r x8 → ∀ x10 : Int32, x10 = v3 + 1 → X12 S9 x8 x10))
def at_X7_addContours_12 (f : Fx) (g : Gx) (T0 : List (Nat × Nat × Nat)) (q : Nat) (r : Nat) (P : St → Prop) (S : St) (v2 : Int32) (v3 : Int32) : Prop := S.2.2.1 = T0 → WW f rm_X7_addContours g 4 0 0 (Qv f g 0 0 T0 P) S 12 [(0, .ref (gad g (136 + q))), (1, .ref (gad g r)), (2, .int v2), (3, .int v3)] []
set_option maxHeartbeats 4000000 in
set_option maxRecDepth 100000 in
theorem run_X7_addContours_12 {f : Fx} {g : Gx} {T0 : List (Nat × Nat × Nat)} {S : St} {q : Nat} {r : Nat} {P : St → Prop} (C : Cx f g cX7_addContours 4 RX7) (hrt : (fmeth f).sig.returnType = none) (hq : q < 12) (hr : r < 68) {v2 : Int32} {v3 : Int32} (h : st_X7_addContours_12 q r P (at_X7_addContours_12 f g T0 q r P) S v2 v3) : at_X7_addContours_12 f g T0 q r P S v2 v3 := by
  intro hT 
  unfold st_X7_addContours_12 at h
  refine ww_iload_n C dX7_addContours_12 3 rfl ?_
  refine ww_aload_n C dX7_addContours_13 0 rfl ?_
  refine ww_cVf (As := []) (rest := [.int v3]) C ok_X4_contourCount bw_479 dX7_addContours_14 (cm_X4_contourCount hq) (rc_Glyph hq) rfl ⟨Nat.le_of_ble_eq_true rfl, Nat.le_of_ble_eq_true rfl⟩ (Nat.le_of_ble_eq_true rfl) (c2 := 0) (s2 := 0) rfl rfl ⟨Nat.le_of_ble_eq_true rfl, Nat.le_of_ble_eq_true rfl⟩ rfl ?_
  refine ww_icmp_ge (tgt := 39) C dX7_addContours_17 (by decide) (fun q7 => ?_) (fun q7 => ?_)
  · replace h := h.1 q7
    exact ww_vret C hrt dX7_addContours_39 hT h
  · replace h := h.2 q7
    refine ww_iload_n C dX7_addContours_20 2 rfl ?_
    refine ww_aload_n C dX7_addContours_21 0 rfl ?_
    refine ww_iload_n C dX7_addContours_22 3 rfl ?_
    refine ww_cVf (As := [.int v3]) (rest := [.int v2]) C ok_X4_contourSize bw_484 dX7_addContours_23 (cm_X4_contourSize hq) (rc_Glyph hq) rfl ⟨Nat.le_of_ble_eq_true rfl, Nat.le_of_ble_eq_true rfl⟩ (Nat.le_of_ble_eq_true rfl) (c2 := 0) (s2 := 0) rfl rfl ⟨Nat.le_of_ble_eq_true rfl, Nat.le_of_ble_eq_true rfl⟩ rfl ?_
    refine ww_iadd C dX7_addContours_26 ?_
    refine ww_topi (fun x8 e_x8 => ?_)
    replace h := h x8 e_x8
    refine ww_istore_n (lv2 := [(2, .int x8), (0, .ref (gad g (136 + q))), (1, .ref (gad g r)), (3, .int v3)]) C dX7_addContours_27 rfl (Nat.le_of_ble_eq_true rfl) rfl ?_
    refine ww_aload_n C dX7_addContours_28 2 rfl ?_
    refine ww_iload_n C dX7_addContours_29 0 rfl ?_
    refine ww_cVg (As := [.int x8]) (rest := []) C ok_X8_add bw_483 dX7_addContours_30 (cm_X8_add hr) (rc_Row hr) rfl ⟨Nat.le_of_ble_eq_true rfl, Nat.le_of_ble_eq_true rfl⟩ (Nat.le_of_ble_eq_true rfl) (c2 := 0) (s2 := 0) rfl rfl ⟨Nat.le_of_ble_eq_true rfl, Nat.le_of_ble_eq_true rfl⟩ rfl (fun hTg => ?_)
    refine ww_nm (fun S9 e_S9 => ?_)
    replace h := h S9 e_S9
    have hT_S9 : S9.2.2.1 = T0 := by rw [e_S9, hTg]; exact hT
    obtain ⟨x10, e_x10⟩ : ∃ z : Int32, z = v3 + 1 := ⟨_, rfl⟩
    replace h := h x10 e_x10
    refine ww_iinc (v := x10) (lv2 := [(3, .int x10), (2, .int x8), (0, .ref (gad g (136 + q))), (1, .ref (gad g r))]) C dX7_addContours_33 3 rfl (by rw [e_x10]; rfl) (Nat.le_of_ble_eq_true rfl) rfl ?_
    refine ww_goto (tgt := 12) C dX7_addContours_36 (by decide) ?_
    exact ww_sub [2, 3, 1, 0] rfl (h hT_S9)
def wp_X7_addContours (S : St) (q : Nat) (r : Nat) (P : St → Prop) : Prop :=
  ∀ (X12 : St → Int32 → Int32 → Prop), (∀ S v2 v3, st_X7_addContours_12 q r P X12 S v2 v3 → X12 S v2 v3) → ∀ S11 : St, S11 = rAdd S r (fv_X4_contourCount S q) → ∀ x12 : Int32, x12 = (-1) → X12 S11 x12 0
set_option maxHeartbeats 4000000 in
set_option maxRecDepth 100000 in
theorem run_X7_addContours {l : Launch} {g : Gx} {S : St} {q : Nat} {r : Nat} {P : St → Prop} (hq : q < 12) (hr : r < 68) (h : rowsLe S → wp_X7_addContours S q r P) : CMv g l yX7_addContours cX7_addContours 4 none rm_X7_addContours [.ref (gad g (136 + q)), .ref (gad g r)] S P := cm_entry (own := RX7) (plainFor_of_name (by decide)) rfl (Nat.le_of_ble_eq_true rfl) rfl (fun hle f hf C hrt => by
  subst hf
  replace h := h hle
  obtain ⟨T0, hT⟩ : ∃ T, S.2.2.1 = T := ⟨_, rfl⟩
  rw [hT]
  replace h := h (at_X7_addContours_12 f g T0 q r P) (fun S v2 v3 h => run_X7_addContours_12 C hrt hq hr h)
  refine ww_aload_n C dX7_addContours_0 1 rfl ?_
  refine ww_aload_n C dX7_addContours_1 0 rfl ?_
  refine ww_cVf (As := []) (rest := [.ref (gad g r)]) C ok_X4_contourCount bw_479 dX7_addContours_2 (cm_X4_contourCount hq) (rc_Glyph hq) rfl ⟨Nat.le_of_ble_eq_true rfl, Nat.le_of_ble_eq_true rfl⟩ (Nat.le_of_ble_eq_true rfl) (c2 := 0) (s2 := 0) rfl rfl ⟨Nat.le_of_ble_eq_true rfl, Nat.le_of_ble_eq_true rfl⟩ rfl ?_
  refine ww_cVg (As := [.int (fv_X4_contourCount S q)]) (rest := []) C ok_X8_add bw_483 dX7_addContours_5 (cm_X8_add hr) (rc_Row hr) rfl ⟨Nat.le_of_ble_eq_true rfl, Nat.le_of_ble_eq_true rfl⟩ (Nat.le_of_ble_eq_true rfl) (c2 := 0) (s2 := 0) rfl rfl ⟨Nat.le_of_ble_eq_true rfl, Nat.le_of_ble_eq_true rfl⟩ rfl (fun hTg => ?_)
  refine ww_nm (fun S11 e_S11 => ?_)
  replace h := h S11 e_S11
  have hT_S11 : S11.2.2.1 = T0 := by rw [e_S11, hTg]; exact hT
  refine ww_iconst (v := (-1)) C dX7_addContours_8 (by decide) ?_
  refine ww_topi (fun x12 e_x12 => ?_)
  replace h := h x12 e_x12
  refine ww_istore_n (lv2 := [(2, .int x12), (0, .ref (gad g (136 + q))), (1, .ref (gad g r))]) C dX7_addContours_9 rfl (Nat.le_of_ble_eq_true rfl) rfl ?_
  refine ww_iconst (v := 0) C dX7_addContours_10 (by decide) ?_
  refine ww_istore_n (lv2 := [(3, .int 0), (2, .int x12), (0, .ref (gad g (136 + q))), (1, .ref (gad g r))]) C dX7_addContours_11 rfl (Nat.le_of_ble_eq_true rfl) rfl ?_
  exact ww_sub [2, 3, 1, 0] rfl (h hT_S11))
abbrev rm_X7_isSmall : Room := { frames := 0, cells := 0, slots := 0, locals := 0 }
theorem ok_X7_isSmall : SOK yX7_isSmall cX7_isSmall 1 (some .boolean) 1 := ⟨bw_508, bw_75, bw_509, by decide +kernel⟩
def wp_X7_isSmall_19 (x : Int32) (S : St) (s0 : Int32) (P : Int32 → St → Prop) : Prop :=
  ((s0 = 0 ∨ s0 = 1) ∧ P s0 S)
set_option maxHeartbeats 4000000 in
set_option maxRecDepth 100000 in
theorem run_X7_isSmall_19 {f : Fx} {g : Gx} {T0 : List (Nat × Nat × Nat)} {S : St} {x : Int32} {P : Int32 → St → Prop} (C : Cx f g cX7_isSmall 1 RX7) (hrt : (fmeth f).sig.returnType = (some .boolean))  {s0 : Int32} (hT : S.2.2.1 = T0)  (h : wp_X7_isSmall_19 x S s0 P) : WW f rm_X7_isSmall g 1 0 0 (Qi f g 0 0 T0 P) S 19 [] [.int s0] := by
  unfold wp_X7_isSmall_19 at h
  exact ww_zret C hrt dX7_isSmall_19 hT h.1 h.2
def wp_X7_isSmall_18 (x : Int32) (S : St)  (P : Int32 → St → Prop) : Prop :=
  wp_X7_isSmall_19 x S 0 P
set_option maxHeartbeats 4000000 in
set_option maxRecDepth 100000 in
theorem run_X7_isSmall_18 {f : Fx} {g : Gx} {T0 : List (Nat × Nat × Nat)} {S : St} {x : Int32} {P : Int32 → St → Prop} (C : Cx f g cX7_isSmall 1 RX7) (hrt : (fmeth f).sig.returnType = (some .boolean))   (hT : S.2.2.1 = T0)  (h : wp_X7_isSmall_18 x S  P) : WW f rm_X7_isSmall g 1 0 0 (Qi f g 0 0 T0 P) S 18 [] [] := by
  unfold wp_X7_isSmall_18 at h
  refine ww_iconst (v := 0) C dX7_isSmall_18 (by decide) ?_
  exact ww_sub [] rfl (run_X7_isSmall_19 C hrt  hT  h)
def wp_X7_isSmall (S : St) (x : Int32) (P : Int32 → St → Prop) : Prop :=
  ((x < ((-255)) → wp_X7_isSmall_18 x S  P) ∧ (¬ x < ((-255)) → ((255 < x → wp_X7_isSmall_18 x S  P) ∧ (¬ 255 < x → wp_X7_isSmall_19 x S 1 P))))
set_option maxHeartbeats 4000000 in
set_option maxRecDepth 100000 in
theorem run_X7_isSmall {l : Launch} {g : Gx} {S : St} {x : Int32} {P : Int32 → St → Prop}  (h : rowsLe S → wp_X7_isSmall S x P) : CMi g l yX7_isSmall cX7_isSmall 1 (some .boolean) rm_X7_isSmall [.int x] S P := cm_entry (own := RX7) (plainFor_of_name (by decide)) rfl (Nat.le_of_ble_eq_true rfl) rfl (fun hle f hf C hrt => by
  subst hf
  replace h := h hle
  obtain ⟨T0, hT⟩ : ∃ T, S.2.2.1 = T := ⟨_, rfl⟩
  rw [hT]
  unfold wp_X7_isSmall at h
  refine ww_iload_n C dX7_isSmall_0 0 rfl ?_
  refine ww_sipush (v := (-255)) C dX7_isSmall_1 (by decide) ?_
  refine ww_icmp_lt (tgt := 18) C dX7_isSmall_4 (by decide) (fun q3 => ?_) (fun q3 => ?_)
  · replace h := h.1 q3
    exact ww_sub [] rfl (run_X7_isSmall_18 C hrt  hT  h)
  · replace h := h.2 q3
    refine ww_iload_n C dX7_isSmall_7 0 rfl ?_
    refine ww_sipush (v := 255) C dX7_isSmall_8 (by decide) ?_
    refine ww_icmp_gt (tgt := 18) C dX7_isSmall_11 (by decide) (fun q4 => ?_) (fun q4 => ?_)
    · replace h := h.1 q4
      exact ww_sub [] rfl (run_X7_isSmall_18 C hrt  hT  h)
    · replace h := h.2 q4
      refine ww_iconst (v := 1) C dX7_isSmall_14 (by decide) ?_
      refine ww_goto (tgt := 19) C dX7_isSmall_15 (by decide) ?_
      exact ww_sub [] rfl (run_X7_isSmall_19 C hrt  hT  h))
abbrev rm_X7_stepFlag : Room := { frames := 1, cells := 0, slots := 0, locals := 20 }
theorem ok_X7_stepFlag : SOK yX7_stepFlag cX7_stepFlag 3 (some .int) 3 := ⟨bw_505, bw_75, bw_506, by decide +kernel⟩
def wp_X7_stepFlag_26 (x : Int32) (a : Int32) (b : Int32) (S : St) (s0 : Int32) (P : Int32 → St → Prop) : Prop :=
  P s0 S
set_option maxHeartbeats 4000000 in
set_option maxRecDepth 100000 in
theorem run_X7_stepFlag_26 {f : Fx} {g : Gx} {T0 : List (Nat × Nat × Nat)} {S : St} {x : Int32} {a : Int32} {b : Int32} {P : Int32 → St → Prop} (C : Cx f g cX7_stepFlag 3 RX7) (hrt : (fmeth f).sig.returnType = (some .int))  {s0 : Int32} (hT : S.2.2.1 = T0)  (h : wp_X7_stepFlag_26 x a b S s0 P) : WW f rm_X7_stepFlag g 3 0 0 (Qi f g 0 0 T0 P) S 26 [] [.int s0] := by
  unfold wp_X7_stepFlag_26 at h
  exact ww_iret C hrt dX7_stepFlag_26 hT h
def wp_X7_stepFlag (S : St) (x : Int32) (a : Int32) (b : Int32) (P : Int32 → St → Prop) : Prop :=
  ((¬ x = 0 → wp_X7_isSmall S x (fun r8 S7 => ((¬ r8 = 0 → ((x ≤ 0 → wp_X7_stepFlag_26 x a b S7 a P) ∧ (¬ x ≤ 0 → wp_X7_stepFlag_26 x a b S7 (a + b) P))) ∧ (r8 = 0 → P 0 S7)))) ∧ (x = 0 → P b S))
set_option maxHeartbeats 4000000 in
set_option maxRecDepth 100000 in
theorem run_X7_stepFlag {l : Launch} {g : Gx} {S : St} {x : Int32} {a : Int32} {b : Int32} {P : Int32 → St → Prop}  (h : rowsLe S → wp_X7_stepFlag S x a b P) : CMi g l yX7_stepFlag cX7_stepFlag 3 (some .int) rm_X7_stepFlag [.int x, .int a, .int b] S P := cm_entry (own := RX7) (plainFor_of_name (by decide)) rfl (Nat.le_of_ble_eq_true rfl) rfl (fun hle f hf C hrt => by
  subst hf
  replace h := h hle
  obtain ⟨T0, hT⟩ : ∃ T, S.2.2.1 = T := ⟨_, rfl⟩
  rw [hT]
  unfold wp_X7_stepFlag at h
  refine ww_iload_n C dX7_stepFlag_0 0 rfl ?_
  refine ww_if_ne (tgt := 6) C dX7_stepFlag_1 (by decide) (fun q6 => ?_) (fun q6 => ?_)
  · replace h := h.1 q6
    refine ww_iload_n C dX7_stepFlag_6 0 rfl ?_
    refine ww_cSi (As := [.int x]) (rest := []) C ok_X7_isSmall bw_507 dX7_stepFlag_7 (run_X7_isSmall  (fun _ => h)) rfl ⟨Nat.le_of_ble_eq_true rfl, Nat.le_of_ble_eq_true rfl⟩ (Nat.le_of_ble_eq_true rfl) (c2 := 0) (s2 := 0) rfl rfl ⟨Nat.le_of_ble_eq_true rfl, Nat.le_of_ble_eq_true rfl⟩ rfl (fun r8 S7 hp hTg => ?_)
    replace h := hp
    have hT_S7 : S7.2.2.1 = T0 := by rw [hTg]; exact hT
    refine ww_if_ne (tgt := 15) C dX7_stepFlag_10 (by decide) (fun q9 => ?_) (fun q9 => ?_)
    · replace h := h.1 q9
      refine ww_iload_n C dX7_stepFlag_15 0 rfl ?_
      refine ww_if_le (tgt := 25) C dX7_stepFlag_16 (by decide) (fun q10 => ?_) (fun q10 => ?_)
      · replace h := h.1 q10
        refine ww_iload_n C dX7_stepFlag_25 1 rfl ?_
        exact ww_sub [] rfl (run_X7_stepFlag_26 C hrt  hT_S7  h)
      · replace h := h.2 q10
        refine ww_iload_n C dX7_stepFlag_19 1 rfl ?_
        refine ww_iload_n C dX7_stepFlag_20 2 rfl ?_
        refine ww_iadd C dX7_stepFlag_21 ?_
        refine ww_goto (tgt := 26) C dX7_stepFlag_22 (by decide) ?_
        exact ww_sub [] rfl (run_X7_stepFlag_26 C hrt  hT_S7  h)
    · replace h := h.2 q9
      refine ww_iconst (v := 0) C dX7_stepFlag_13 (by decide) ?_
      exact ww_iret C hrt dX7_stepFlag_14 hT_S7 h
  · replace h := h.2 q6
    refine ww_iload_n C dX7_stepFlag_4 2 rfl ?_
    exact ww_iret C hrt dX7_stepFlag_5 hT h)
abbrev rm_X7_flagOf : Room := { frames := 2, cells := 0, slots := 0, locals := 42 }
theorem ok_X7_flagOf : SOK yX7_flagOf cX7_flagOf 2 (some .int) 2 := ⟨bw_494, bw_75, bw_495, by decide +kernel⟩
def wp_X7_flagOf_13 (q : Nat) (p : Int32) (S : St) (s0 : Int32) (P : Int32 → St → Prop) : Prop :=
  wp_X7_stepFlag S (fv_X4_dx S q p) 2 16 (fun r9 S8 => wp_X7_stepFlag S8 (fv_X4_dy S8 q p) 4 32 (fun r11 S10 => P ((s0 + r9) + r11) S10))
set_option maxHeartbeats 4000000 in
set_option maxRecDepth 100000 in
theorem run_X7_flagOf_13 {f : Fx} {g : Gx} {T0 : List (Nat × Nat × Nat)} {S : St} {q : Nat} {p : Int32} {P : Int32 → St → Prop} (C : Cx f g cX7_flagOf 2 RX7) (hrt : (fmeth f).sig.returnType = (some .int)) (hq : q < 12) {s0 : Int32} (hT : S.2.2.1 = T0)  (h : wp_X7_flagOf_13 q p S s0 P) : WW f rm_X7_flagOf g 2 0 0 (Qi f g 0 0 T0 P) S 13 [(0, .ref (gad g (136 + q))), (1, .int p)] [.int s0] := by
  unfold wp_X7_flagOf_13 at h
  refine ww_aload_n C dX7_flagOf_13 0 rfl ?_
  refine ww_iload_n C dX7_flagOf_14 1 rfl ?_
  refine ww_cVf (As := [.int p]) (rest := [.int s0]) C ok_X4_dx bw_500 dX7_flagOf_15 (cm_X4_dx hq) (rc_Glyph hq) rfl ⟨Nat.le_of_ble_eq_true rfl, Nat.le_of_ble_eq_true rfl⟩ (Nat.le_of_ble_eq_true rfl) (c2 := 0) (s2 := 0) rfl rfl ⟨Nat.le_of_ble_eq_true rfl, Nat.le_of_ble_eq_true rfl⟩ rfl ?_
  refine ww_iconst (v := 2) C dX7_flagOf_18 (by decide) ?_
  refine ww_bipush (v := 16) C dX7_flagOf_19 (by decide) ?_
  refine ww_cSi (As := [.int (fv_X4_dx S q p), .int 2, .int 16]) (rest := [.int s0]) C ok_X7_stepFlag bw_504 dX7_flagOf_21 (run_X7_stepFlag  (fun _ => h)) rfl ⟨Nat.le_of_ble_eq_true rfl, Nat.le_of_ble_eq_true rfl⟩ (Nat.le_of_ble_eq_true rfl) (c2 := 0) (s2 := 0) rfl rfl ⟨Nat.le_of_ble_eq_true rfl, Nat.le_of_ble_eq_true rfl⟩ rfl (fun r9 S8 hp hTg => ?_)
  replace h := hp
  have hT_S8 : S8.2.2.1 = T0 := by rw [hTg]; exact hT
  refine ww_iadd C dX7_flagOf_24 ?_
  refine ww_aload_n C dX7_flagOf_25 0 rfl ?_
  refine ww_iload_n C dX7_flagOf_26 1 rfl ?_
  refine ww_cVf (As := [.int p]) (rest := [.int (s0 + r9)]) C ok_X4_dy bw_510 dX7_flagOf_27 (cm_X4_dy hq) (rc_Glyph hq) rfl ⟨Nat.le_of_ble_eq_true rfl, Nat.le_of_ble_eq_true rfl⟩ (Nat.le_of_ble_eq_true rfl) (c2 := 0) (s2 := 0) rfl rfl ⟨Nat.le_of_ble_eq_true rfl, Nat.le_of_ble_eq_true rfl⟩ rfl ?_
  refine ww_iconst (v := 4) C dX7_flagOf_30 (by decide) ?_
  refine ww_bipush (v := 32) C dX7_flagOf_31 (by decide) ?_
  refine ww_cSi (As := [.int (fv_X4_dy S8 q p), .int 4, .int 32]) (rest := [.int (s0 + r9)]) C ok_X7_stepFlag bw_504 dX7_flagOf_33 (run_X7_stepFlag  (fun _ => h)) rfl ⟨Nat.le_of_ble_eq_true rfl, Nat.le_of_ble_eq_true rfl⟩ (Nat.le_of_ble_eq_true rfl) (c2 := 0) (s2 := 0) rfl rfl ⟨Nat.le_of_ble_eq_true rfl, Nat.le_of_ble_eq_true rfl⟩ rfl (fun r11 S10 hp hTg => ?_)
  replace h := hp
  have hT_S10 : S10.2.2.1 = T0 := by rw [hTg]; exact hT_S8
  refine ww_iadd C dX7_flagOf_36 ?_
  exact ww_iret C hrt dX7_flagOf_37 hT_S10 h
def wp_X7_flagOf (S : St) (q : Nat) (p : Int32) (P : Int32 → St → Prop) : Prop :=
  wp_X4_isOn S q p (fun r13 S12 => ((r13 = 0 → wp_X7_flagOf_13 q p S12 0 P) ∧ (¬ r13 = 0 → wp_X7_flagOf_13 q p S12 1 P)))
set_option maxHeartbeats 4000000 in
set_option maxRecDepth 100000 in
theorem run_X7_flagOf {l : Launch} {g : Gx} {S : St} {q : Nat} {p : Int32} {P : Int32 → St → Prop} (hq : q < 12) (h : rowsLe S → wp_X7_flagOf S q p P) : CMi g l yX7_flagOf cX7_flagOf 2 (some .int) rm_X7_flagOf [.ref (gad g (136 + q)), .int p] S P := cm_entry (own := RX7) (plainFor_of_name (by decide)) rfl (Nat.le_of_ble_eq_true rfl) rfl (fun hle f hf C hrt => by
  subst hf
  replace h := h hle
  obtain ⟨T0, hT⟩ : ∃ T, S.2.2.1 = T := ⟨_, rfl⟩
  rw [hT]
  unfold wp_X7_flagOf at h
  refine ww_aload_n C dX7_flagOf_0 0 rfl ?_
  refine ww_iload_n C dX7_flagOf_1 1 rfl ?_
  refine ww_cVi (As := [.int p]) (rest := []) C ok_X4_isOn bw_496 dX7_flagOf_2 (run_X4_isOn hq (fun _ => h)) (rc_Glyph hq) rfl ⟨Nat.le_of_ble_eq_true rfl, Nat.le_of_ble_eq_true rfl⟩ (Nat.le_of_ble_eq_true rfl) (c2 := 0) (s2 := 0) rfl rfl ⟨Nat.le_of_ble_eq_true rfl, Nat.le_of_ble_eq_true rfl⟩ rfl (fun r13 S12 hp hTg => ?_)
  replace h := hp
  have hT_S12 : S12.2.2.1 = T0 := by rw [hTg]; exact hT
  refine ww_if_eq (tgt := 12) C dX7_flagOf_5 (by decide) (fun q14 => ?_) (fun q14 => ?_)
  · replace h := h.1 q14
    refine ww_iconst (v := 0) C dX7_flagOf_12 (by decide) ?_
    exact ww_sub [0, 1] rfl (run_X7_flagOf_13 C hrt hq hT_S12  h)
  · replace h := h.2 q14
    refine ww_iconst (v := 1) C dX7_flagOf_8 (by decide) ?_
    refine ww_goto (tgt := 13) C dX7_flagOf_9 (by decide) ?_
    exact ww_sub [0, 1] rfl (run_X7_flagOf_13 C hrt hq hT_S12  h))
abbrev rm_X7_addFlags : Room := { frames := 3, cells := 0, slots := 0, locals := 63 }
theorem ok_X7_addFlags : SOK yX7_addFlags cX7_addFlags 5 none 2 := ⟨bw_490, bw_75, bw_491, by decide +kernel⟩
def st_X7_addFlags_2 (q : Nat) (r : Nat) (P : St → Prop) (X2 : St → Int32 → Prop) (X19 : St → Int32 → Int32 → Int32 → Prop) (X52 : St → Int32 → Int32 → Int32 → Prop) (X85 : St → Int32 → Prop) (S : St) (v2 : Int32) : Prop :=
  (((fv_X4_pointCount S q) ≤ v2 → P S) ∧ (¬ (fv_X4_pointCount S q) ≤ v2 → wp_X7_flagOf S q v2 (fun r17 S16 => X19 S16 v2 r17 0)))
def st_X7_addFlags_19 (q : Nat) (r : Nat) (P : St → Prop) (X2 : St → Int32 → Prop) (X19 : St → Int32 → Int32 → Int32 → Prop) (X52 : St → Int32 → Int32 → Int32 → Prop) (X85 : St → Int32 → Prop) (S : St) (v2 : Int32) (v3 : Int32) (v4 : Int32) : Prop :=
  (((fv_X4_pointCount S q) ≤ ((v2 + v4) + 1) → X52 S v2 v3 v4) ∧ (¬ (fv_X4_pointCount S q) ≤ ((v2 + v4) + 1) → wp_X7_flagOf S q ((v2 + v4) + 1) (fun r20 S19 => ((¬ r20 = v3 → X52 S19 v2 v3 v4) ∧ (r20 = v3 → ∀ x22 : Int32, x22 = v4 + 1 → X19 S19 v2 v3 x22)))))
def st_X7_addFlags_52 (q : Nat) (r : Nat) (P : St → Prop) (X2 : St → Int32 → Prop) (X19 : St → Int32 → Int32 → Int32 → Prop) (X52 : St → Int32 → Int32 → Int32 → Prop) (X85 : St → Int32 → Prop) (S : St) (v2 : Int32) (v3 : Int32) (v4 : Int32) : Prop :=
  ((v4 < 2 → ∀ S24 : St, S24 = rAdd S r v3 → X85 S24 v2) ∧ (¬ v4 < 2 → ∀ S25 : St, S25 = rAdd S r (v3 + 8) → ∀ S26 : St, S26 = rAdd S25 r v4 → ∀ x27 : Int32, x27 = v2 + v4 → X85 S26 x27))
def st_X7_addFlags_85 (q : Nat) (r : Nat) (P : St → Prop) (X2 : St → Int32 → Prop) (X19 : St → Int32 → Int32 → Int32 → Prop) (X52 : St → Int32 → Int32 → Int32 → Prop) (X85 : St → Int32 → Prop) (S : St) (v2 : Int32) : Prop :=
  ∀ x28 : Int32, x28 = v2 + 1 → X2 S x28
def at_X7_addFlags_2 (f : Fx) (g : Gx) (T0 : List (Nat × Nat × Nat)) (q : Nat) (r : Nat) (P : St → Prop) (S : St) (v2 : Int32) : Prop := S.2.2.1 = T0 → WW f rm_X7_addFlags g 5 0 0 (Qv f g 0 0 T0 P) S 2 [(0, .ref (gad g (136 + q))), (1, .ref (gad g r)), (2, .int v2)] []
def at_X7_addFlags_19 (f : Fx) (g : Gx) (T0 : List (Nat × Nat × Nat)) (q : Nat) (r : Nat) (P : St → Prop) (S : St) (v2 : Int32) (v3 : Int32) (v4 : Int32) : Prop := S.2.2.1 = T0 → WW f rm_X7_addFlags g 5 0 0 (Qv f g 0 0 T0 P) S 19 [(0, .ref (gad g (136 + q))), (1, .ref (gad g r)), (2, .int v2), (3, .int v3), (4, .int v4)] []
def at_X7_addFlags_52 (f : Fx) (g : Gx) (T0 : List (Nat × Nat × Nat)) (q : Nat) (r : Nat) (P : St → Prop) (S : St) (v2 : Int32) (v3 : Int32) (v4 : Int32) : Prop := S.2.2.1 = T0 → WW f rm_X7_addFlags g 5 0 0 (Qv f g 0 0 T0 P) S 52 [(0, .ref (gad g (136 + q))), (1, .ref (gad g r)), (2, .int v2), (3, .int v3), (4, .int v4)] []
def at_X7_addFlags_85 (f : Fx) (g : Gx) (T0 : List (Nat × Nat × Nat)) (q : Nat) (r : Nat) (P : St → Prop) (S : St) (v2 : Int32) : Prop := S.2.2.1 = T0 → WW f rm_X7_addFlags g 5 0 0 (Qv f g 0 0 T0 P) S 85 [(0, .ref (gad g (136 + q))), (1, .ref (gad g r)), (2, .int v2)] []
set_option maxHeartbeats 4000000 in
set_option maxRecDepth 100000 in
theorem run_X7_addFlags_2 {f : Fx} {g : Gx} {T0 : List (Nat × Nat × Nat)} {S : St} {q : Nat} {r : Nat} {P : St → Prop} (C : Cx f g cX7_addFlags 5 RX7) (hrt : (fmeth f).sig.returnType = none) (hq : q < 12) (hr : r < 68) {v2 : Int32} (h : st_X7_addFlags_2 q r P (at_X7_addFlags_2 f g T0 q r P) (at_X7_addFlags_19 f g T0 q r P) (at_X7_addFlags_52 f g T0 q r P) (at_X7_addFlags_85 f g T0 q r P) S v2) : at_X7_addFlags_2 f g T0 q r P S v2 := by
  intro hT 
  unfold st_X7_addFlags_2 at h
  refine ww_iload_n C dX7_addFlags_2 2 rfl ?_
  refine ww_aload_n C dX7_addFlags_3 0 rfl ?_
  refine ww_cVf (As := []) (rest := [.int v2]) C ok_X4_pointCount bw_492 dX7_addFlags_4 (cm_X4_pointCount hq) (rc_Glyph hq) rfl ⟨Nat.le_of_ble_eq_true rfl, Nat.le_of_ble_eq_true rfl⟩ (Nat.le_of_ble_eq_true rfl) (c2 := 0) (s2 := 0) rfl rfl ⟨Nat.le_of_ble_eq_true rfl, Nat.le_of_ble_eq_true rfl⟩ rfl ?_
  refine ww_icmp_ge (tgt := 91) C dX7_addFlags_7 (by decide) (fun q15 => ?_) (fun q15 => ?_)
  · replace h := h.1 q15
    exact ww_vret C hrt dX7_addFlags_91 hT h
  · replace h := h.2 q15
    refine ww_aload_n C dX7_addFlags_10 0 rfl ?_
    refine ww_iload_n C dX7_addFlags_11 2 rfl ?_
    refine ww_cSi (As := [.ref (gad g (136 + q)), .int v2]) (rest := []) C ok_X7_flagOf bw_493 dX7_addFlags_12 (run_X7_flagOf hq (fun _ => h)) rfl ⟨Nat.le_of_ble_eq_true rfl, Nat.le_of_ble_eq_true rfl⟩ (Nat.le_of_ble_eq_true rfl) (c2 := 0) (s2 := 0) rfl rfl ⟨Nat.le_of_ble_eq_true rfl, Nat.le_of_ble_eq_true rfl⟩ rfl (fun r17 S16 hp hTg => ?_)
    replace h := hp
    have hT_S16 : S16.2.2.1 = T0 := by rw [hTg]; exact hT
    refine ww_istore_n (lv2 := [(3, .int r17), (0, .ref (gad g (136 + q))), (1, .ref (gad g r)), (2, .int v2)]) C dX7_addFlags_15 rfl (Nat.le_of_ble_eq_true rfl) rfl ?_
    refine ww_iconst (v := 0) C dX7_addFlags_16 (by decide) ?_
    refine ww_istore (lv2 := [(4, .int 0), (3, .int r17), (0, .ref (gad g (136 + q))), (1, .ref (gad g r)), (2, .int v2)]) C dX7_addFlags_17 (Nat.le_of_ble_eq_true rfl) rfl ?_
    exact ww_sub [2, 3, 4, 1, 0] rfl (h hT_S16)
set_option maxHeartbeats 4000000 in
set_option maxRecDepth 100000 in
theorem run_X7_addFlags_19 {f : Fx} {g : Gx} {T0 : List (Nat × Nat × Nat)} {S : St} {q : Nat} {r : Nat} {P : St → Prop} (C : Cx f g cX7_addFlags 5 RX7) (hrt : (fmeth f).sig.returnType = none) (hq : q < 12) (hr : r < 68) {v2 : Int32} {v3 : Int32} {v4 : Int32} (h : st_X7_addFlags_19 q r P (at_X7_addFlags_2 f g T0 q r P) (at_X7_addFlags_19 f g T0 q r P) (at_X7_addFlags_52 f g T0 q r P) (at_X7_addFlags_85 f g T0 q r P) S v2 v3 v4) : at_X7_addFlags_19 f g T0 q r P S v2 v3 v4 := by
  intro hT 
  unfold st_X7_addFlags_19 at h
  refine ww_iload_n C dX7_addFlags_19 2 rfl ?_
  refine ww_iload C dX7_addFlags_20 4 rfl ?_
  refine ww_iadd C dX7_addFlags_22 ?_
  refine ww_iconst (v := 1) C dX7_addFlags_23 (by decide) ?_
  refine ww_iadd C dX7_addFlags_24 ?_
  refine ww_aload_n C dX7_addFlags_25 0 rfl ?_
  refine ww_cVf (As := []) (rest := [.int ((v2 + v4) + 1)]) C ok_X4_pointCount bw_492 dX7_addFlags_26 (cm_X4_pointCount hq) (rc_Glyph hq) rfl ⟨Nat.le_of_ble_eq_true rfl, Nat.le_of_ble_eq_true rfl⟩ (Nat.le_of_ble_eq_true rfl) (c2 := 0) (s2 := 0) rfl rfl ⟨Nat.le_of_ble_eq_true rfl, Nat.le_of_ble_eq_true rfl⟩ rfl ?_
  refine ww_icmp_ge (tgt := 52) C dX7_addFlags_29 (by decide) (fun q18 => ?_) (fun q18 => ?_)
  · replace h := h.1 q18
    exact ww_sub [0, 1, 2, 3, 4] rfl (h hT)
  · replace h := h.2 q18
    refine ww_aload_n C dX7_addFlags_32 0 rfl ?_
    refine ww_iload_n C dX7_addFlags_33 2 rfl ?_
    refine ww_iload C dX7_addFlags_34 4 rfl ?_
    refine ww_iadd C dX7_addFlags_36 ?_
    refine ww_iconst (v := 1) C dX7_addFlags_37 (by decide) ?_
    refine ww_iadd C dX7_addFlags_38 ?_
    refine ww_cSi (As := [.ref (gad g (136 + q)), .int ((v2 + v4) + 1)]) (rest := []) C ok_X7_flagOf bw_493 dX7_addFlags_39 (run_X7_flagOf hq (fun _ => h)) rfl ⟨Nat.le_of_ble_eq_true rfl, Nat.le_of_ble_eq_true rfl⟩ (Nat.le_of_ble_eq_true rfl) (c2 := 0) (s2 := 0) rfl rfl ⟨Nat.le_of_ble_eq_true rfl, Nat.le_of_ble_eq_true rfl⟩ rfl (fun r20 S19 hp hTg => ?_)
    replace h := hp
    have hT_S19 : S19.2.2.1 = T0 := by rw [hTg]; exact hT
    refine ww_iload_n C dX7_addFlags_42 3 rfl ?_
    refine ww_icmp_ne (tgt := 52) C dX7_addFlags_43 (by decide) (fun q21 => ?_) (fun q21 => ?_)
    · replace h := h.1 q21
      exact ww_sub [0, 1, 2, 3, 4] rfl (h hT_S19)
    · replace h := h.2 q21
      obtain ⟨x22, e_x22⟩ : ∃ z : Int32, z = v4 + 1 := ⟨_, rfl⟩
      replace h := h x22 e_x22
      refine ww_iinc (v := x22) (lv2 := [(4, .int x22), (0, .ref (gad g (136 + q))), (1, .ref (gad g r)), (2, .int v2), (3, .int v3)]) C dX7_addFlags_46 4 rfl (by rw [e_x22]; rfl) (Nat.le_of_ble_eq_true rfl) rfl ?_
      refine ww_goto (tgt := 19) C dX7_addFlags_49 (by decide) ?_
      exact ww_sub [1, 2, 3, 4, 0] rfl (h hT_S19)
set_option maxHeartbeats 4000000 in
set_option maxRecDepth 100000 in
theorem run_X7_addFlags_52 {f : Fx} {g : Gx} {T0 : List (Nat × Nat × Nat)} {S : St} {q : Nat} {r : Nat} {P : St → Prop} (C : Cx f g cX7_addFlags 5 RX7) (hrt : (fmeth f).sig.returnType = none) (hq : q < 12) (hr : r < 68) {v2 : Int32} {v3 : Int32} {v4 : Int32} (h : st_X7_addFlags_52 q r P (at_X7_addFlags_2 f g T0 q r P) (at_X7_addFlags_19 f g T0 q r P) (at_X7_addFlags_52 f g T0 q r P) (at_X7_addFlags_85 f g T0 q r P) S v2 v3 v4) : at_X7_addFlags_52 f g T0 q r P S v2 v3 v4 := by
  intro hT 
  unfold st_X7_addFlags_52 at h
  refine ww_iload C dX7_addFlags_52 4 rfl ?_
  refine ww_iconst (v := 2) C dX7_addFlags_54 (by decide) ?_
  refine ww_icmp_lt (tgt := 80) C dX7_addFlags_55 (by decide) (fun q23 => ?_) (fun q23 => ?_)
  · replace h := h.1 q23
    refine ww_aload_n C dX7_addFlags_80 1 rfl ?_
    refine ww_iload_n C dX7_addFlags_81 3 rfl ?_
    refine ww_cVg (As := [.int v3]) (rest := []) C ok_X8_add bw_483 dX7_addFlags_82 (cm_X8_add hr) (rc_Row hr) rfl ⟨Nat.le_of_ble_eq_true rfl, Nat.le_of_ble_eq_true rfl⟩ (Nat.le_of_ble_eq_true rfl) (c2 := 0) (s2 := 0) rfl rfl ⟨Nat.le_of_ble_eq_true rfl, Nat.le_of_ble_eq_true rfl⟩ rfl (fun hTg => ?_)
    refine ww_nm (fun S24 e_S24 => ?_)
    replace h := h S24 e_S24
    have hT_S24 : S24.2.2.1 = T0 := by rw [e_S24, hTg]; exact hT
    exact ww_sub [0, 1, 2] rfl (h hT_S24)
  · replace h := h.2 q23
    refine ww_aload_n C dX7_addFlags_58 1 rfl ?_
    refine ww_iload_n C dX7_addFlags_59 3 rfl ?_
    refine ww_bipush (v := 8) C dX7_addFlags_60 (by decide) ?_
    refine ww_iadd C dX7_addFlags_62 ?_
    refine ww_cVg (As := [.int (v3 + 8)]) (rest := []) C ok_X8_add bw_483 dX7_addFlags_63 (cm_X8_add hr) (rc_Row hr) rfl ⟨Nat.le_of_ble_eq_true rfl, Nat.le_of_ble_eq_true rfl⟩ (Nat.le_of_ble_eq_true rfl) (c2 := 0) (s2 := 0) rfl rfl ⟨Nat.le_of_ble_eq_true rfl, Nat.le_of_ble_eq_true rfl⟩ rfl (fun hTg => ?_)
    refine ww_nm (fun S25 e_S25 => ?_)
    replace h := h S25 e_S25
    have hT_S25 : S25.2.2.1 = T0 := by rw [e_S25, hTg]; exact hT
    refine ww_aload_n C dX7_addFlags_66 1 rfl ?_
    refine ww_iload C dX7_addFlags_67 4 rfl ?_
    refine ww_cVg (As := [.int v4]) (rest := []) C ok_X8_add bw_483 dX7_addFlags_69 (cm_X8_add hr) (rc_Row hr) rfl ⟨Nat.le_of_ble_eq_true rfl, Nat.le_of_ble_eq_true rfl⟩ (Nat.le_of_ble_eq_true rfl) (c2 := 0) (s2 := 0) rfl rfl ⟨Nat.le_of_ble_eq_true rfl, Nat.le_of_ble_eq_true rfl⟩ rfl (fun hTg => ?_)
    refine ww_nm (fun S26 e_S26 => ?_)
    replace h := h S26 e_S26
    have hT_S26 : S26.2.2.1 = T0 := by rw [e_S26, hTg]; exact hT_S25
    refine ww_iload_n C dX7_addFlags_72 2 rfl ?_
    refine ww_iload C dX7_addFlags_73 4 rfl ?_
    refine ww_iadd C dX7_addFlags_75 ?_
    refine ww_topi (fun x27 e_x27 => ?_)
    replace h := h x27 e_x27
    refine ww_istore_n (lv2 := [(2, .int x27), (0, .ref (gad g (136 + q))), (1, .ref (gad g r)), (3, .int v3), (4, .int v4)]) C dX7_addFlags_76 rfl (Nat.le_of_ble_eq_true rfl) rfl ?_
    refine ww_goto (tgt := 85) C dX7_addFlags_77 (by decide) ?_
    exact ww_sub [1, 2, 0] rfl (h hT_S26)
set_option maxHeartbeats 4000000 in
set_option maxRecDepth 100000 in
theorem run_X7_addFlags_85 {f : Fx} {g : Gx} {T0 : List (Nat × Nat × Nat)} {S : St} {q : Nat} {r : Nat} {P : St → Prop} (C : Cx f g cX7_addFlags 5 RX7) (hrt : (fmeth f).sig.returnType = none) (hq : q < 12) (hr : r < 68) {v2 : Int32} (h : st_X7_addFlags_85 q r P (at_X7_addFlags_2 f g T0 q r P) (at_X7_addFlags_19 f g T0 q r P) (at_X7_addFlags_52 f g T0 q r P) (at_X7_addFlags_85 f g T0 q r P) S v2) : at_X7_addFlags_85 f g T0 q r P S v2 := by
  intro hT 
  unfold st_X7_addFlags_85 at h
  obtain ⟨x28, e_x28⟩ : ∃ z : Int32, z = v2 + 1 := ⟨_, rfl⟩
  replace h := h x28 e_x28
  refine ww_iinc (v := x28) (lv2 := [(2, .int x28), (0, .ref (gad g (136 + q))), (1, .ref (gad g r))]) C dX7_addFlags_85 2 rfl (by rw [e_x28]; rfl) (Nat.le_of_ble_eq_true rfl) rfl ?_
  refine ww_goto (tgt := 2) C dX7_addFlags_88 (by decide) ?_
  exact ww_sub [1, 2, 0] rfl (h hT)
def wp_X7_addFlags (S : St) (q : Nat) (r : Nat) (P : St → Prop) : Prop :=
  ∀ (X2 : St → Int32 → Prop) (X19 : St → Int32 → Int32 → Int32 → Prop) (X52 : St → Int32 → Int32 → Int32 → Prop) (X85 : St → Int32 → Prop), (∀ S v2, st_X7_addFlags_2 q r P X2 X19 X52 X85 S v2 → X2 S v2) → (∀ S v2 v3 v4, st_X7_addFlags_19 q r P X2 X19 X52 X85 S v2 v3 v4 → X19 S v2 v3 v4) → (∀ S v2 v3 v4, st_X7_addFlags_52 q r P X2 X19 X52 X85 S v2 v3 v4 → X52 S v2 v3 v4) → (∀ S v2, st_X7_addFlags_85 q r P X2 X19 X52 X85 S v2 → X85 S v2) → X2 S 0
set_option maxHeartbeats 4000000 in
set_option maxRecDepth 100000 in
theorem run_X7_addFlags {l : Launch} {g : Gx} {S : St} {q : Nat} {r : Nat} {P : St → Prop} (hq : q < 12) (hr : r < 68) (h : rowsLe S → wp_X7_addFlags S q r P) : CMv g l yX7_addFlags cX7_addFlags 5 none rm_X7_addFlags [.ref (gad g (136 + q)), .ref (gad g r)] S P := cm_entry (own := RX7) (plainFor_of_name (by decide)) rfl (Nat.le_of_ble_eq_true rfl) rfl (fun hle f hf C hrt => by
  subst hf
  replace h := h hle
  obtain ⟨T0, hT⟩ : ∃ T, S.2.2.1 = T := ⟨_, rfl⟩
  rw [hT]
  replace h := h (at_X7_addFlags_2 f g T0 q r P) (at_X7_addFlags_19 f g T0 q r P) (at_X7_addFlags_52 f g T0 q r P) (at_X7_addFlags_85 f g T0 q r P) (fun S v2 h => run_X7_addFlags_2 C hrt hq hr h) (fun S v2 v3 v4 h => run_X7_addFlags_19 C hrt hq hr h) (fun S v2 v3 v4 h => run_X7_addFlags_52 C hrt hq hr h) (fun S v2 h => run_X7_addFlags_85 C hrt hq hr h)
  refine ww_iconst (v := 0) C dX7_addFlags_0 (by decide) ?_
  refine ww_istore_n (lv2 := [(2, .int 0), (0, .ref (gad g (136 + q))), (1, .ref (gad g r))]) C dX7_addFlags_1 rfl (Nat.le_of_ble_eq_true rfl) rfl ?_
  exact ww_sub [1, 2, 0] rfl (h hT))
abbrev rm_X7_addStep : Room := { frames := 2, cells := 0, slots := 0, locals := 45 }
theorem ok_X7_addStep : SOK yX7_addStep cX7_addStep 2 none 2 := ⟨bw_518, bw_75, bw_519, by decide +kernel⟩
def wp_X7_addStep_30 (x : Int32) (r : Nat) (S : St)  (P : St → Prop) : Prop :=
  P S
set_option maxHeartbeats 4000000 in
set_option maxRecDepth 100000 in
theorem run_X7_addStep_30 {f : Fx} {g : Gx} {T0 : List (Nat × Nat × Nat)} {S : St} {x : Int32} {r : Nat} {P : St → Prop} (C : Cx f g cX7_addStep 2 RX7) (hrt : (fmeth f).sig.returnType = none) (hr : r < 68)  (hT : S.2.2.1 = T0)  (h : wp_X7_addStep_30 x r S  P) : WW f rm_X7_addStep g 2 0 0 (Qv f g 0 0 T0 P) S 30 [] [] := by
  unfold wp_X7_addStep_30 at h
  exact ww_vret C hrt dX7_addStep_30 hT h
def wp_X7_addStep (S : St) (x : Int32) (r : Nat) (P : St → Prop) : Prop :=
  ((¬ x = 0 → wp_X7_isSmall S x (fun r9 S8 => ((r9 = 0 → (nnB S8 r x.toInt64 2 ∧ ∀ S11 : St, S11 = rNum S8 r x.toInt64 2 → wp_X7_addStep_30 x r S11  P)) ∧ (¬ r9 = 0 → ∀ S12 : St, S12 = rAdd S8 r (fv_J9_abs_0f7a4 S8 x) → wp_X7_addStep_30 x r S12  P)))) ∧ (x = 0 → P S))
set_option maxHeartbeats 4000000 in
set_option maxRecDepth 100000 in
theorem run_X7_addStep {l : Launch} {g : Gx} {S : St} {x : Int32} {r : Nat} {P : St → Prop} (hr : r < 68) (h : rowsLe S → wp_X7_addStep S x r P) : CMv g l yX7_addStep cX7_addStep 2 none rm_X7_addStep [.int x, .ref (gad g r)] S P := cm_entry (own := RX7) (plainFor_of_name (by decide)) rfl (Nat.le_of_ble_eq_true rfl) rfl (fun hle f hf C hrt => by
  subst hf
  replace h := h hle
  obtain ⟨T0, hT⟩ : ∃ T, S.2.2.1 = T := ⟨_, rfl⟩
  rw [hT]
  unfold wp_X7_addStep at h
  refine ww_iload_n C dX7_addStep_0 0 rfl ?_
  refine ww_if_ne (tgt := 5) C dX7_addStep_1 (by decide) (fun q7 => ?_) (fun q7 => ?_)
  · replace h := h.1 q7
    refine ww_iload_n C dX7_addStep_5 0 rfl ?_
    refine ww_cSi (As := [.int x]) (rest := []) C ok_X7_isSmall bw_507 dX7_addStep_6 (run_X7_isSmall  (fun _ => h)) rfl ⟨Nat.le_of_ble_eq_true rfl, Nat.le_of_ble_eq_true rfl⟩ (Nat.le_of_ble_eq_true rfl) (c2 := 0) (s2 := 0) rfl rfl ⟨Nat.le_of_ble_eq_true rfl, Nat.le_of_ble_eq_true rfl⟩ rfl (fun r9 S8 hp hTg => ?_)
    replace h := hp
    have hT_S8 : S8.2.2.1 = T0 := by rw [hTg]; exact hT
    refine ww_if_eq (tgt := 23) C dX7_addStep_9 (by decide) (fun q10 => ?_) (fun q10 => ?_)
    · replace h := h.1 q10
      refine ww_aload_n C dX7_addStep_23 1 rfl ?_
      refine ww_iload_n C dX7_addStep_24 0 rfl ?_
      refine ww_i2l C dX7_addStep_25 ?_
      refine ww_iconst (v := 2) C dX7_addStep_26 (by decide) ?_
      refine ww_cVg (As := [.long x.toInt64, .int 2]) (rest := []) C ok_X8_addNumber bw_478 dX7_addStep_27 (cm_X8_addNumber hr h.1) (rc_Row hr) rfl ⟨Nat.le_of_ble_eq_true rfl, Nat.le_of_ble_eq_true rfl⟩ (Nat.le_of_ble_eq_true rfl) (c2 := 0) (s2 := 0) rfl rfl ⟨Nat.le_of_ble_eq_true rfl, Nat.le_of_ble_eq_true rfl⟩ rfl (fun hTg => ?_)
      replace h := h.2
      refine ww_nm (fun S11 e_S11 => ?_)
      replace h := h S11 e_S11
      have hT_S11 : S11.2.2.1 = T0 := by rw [e_S11, hTg]; exact hT_S8
      exact ww_sub [] rfl (run_X7_addStep_30 C hrt hr hT_S11  h)
    · replace h := h.2 q10
      refine ww_aload_n C dX7_addStep_12 1 rfl ?_
      refine ww_iload_n C dX7_addStep_13 0 rfl ?_
      refine ww_cSf (As := [.int x]) (rest := [.ref (gad g r)]) C ok_J9_abs_0f7a4 bw_520 dX7_addStep_14 cm_J9_abs_0f7a4 rfl ⟨Nat.le_of_ble_eq_true rfl, Nat.le_of_ble_eq_true rfl⟩ (Nat.le_of_ble_eq_true rfl) (c2 := 0) (s2 := 0) rfl rfl ⟨Nat.le_of_ble_eq_true rfl, Nat.le_of_ble_eq_true rfl⟩ rfl ?_
      refine ww_cVg (As := [.int (fv_J9_abs_0f7a4 S8 x)]) (rest := []) C ok_X8_add bw_483 dX7_addStep_17 (cm_X8_add hr) (rc_Row hr) rfl ⟨Nat.le_of_ble_eq_true rfl, Nat.le_of_ble_eq_true rfl⟩ (Nat.le_of_ble_eq_true rfl) (c2 := 0) (s2 := 0) rfl rfl ⟨Nat.le_of_ble_eq_true rfl, Nat.le_of_ble_eq_true rfl⟩ rfl (fun hTg => ?_)
      refine ww_nm (fun S12 e_S12 => ?_)
      replace h := h S12 e_S12
      have hT_S12 : S12.2.2.1 = T0 := by rw [e_S12, hTg]; exact hT_S8
      refine ww_goto (tgt := 30) C dX7_addStep_20 (by decide) ?_
      exact ww_sub [] rfl (run_X7_addStep_30 C hrt hr hT_S12  h)
  · replace h := h.2 q7
    exact ww_vret C hrt dX7_addStep_4 hT h)
abbrev rm_X7_addSteps : Room := { frames := 3, cells := 0, slots := 0, locals := 66 }
theorem ok_X7_addSteps : SOK yX7_addSteps cX7_addSteps 3 none 2 := ⟨bw_515, bw_75, bw_516, by decide +kernel⟩
def st_X7_addSteps_2 (q : Nat) (r : Nat) (P : St → Prop) (X2 : St → Int32 → Prop) (X27 : St → Int32 → Prop) (S : St) (v2 : Int32) : Prop :=
  (((fv_X4_pointCount S q) ≤ v2 → X27 S 0) ∧ (¬ (fv_X4_pointCount S q) ≤ v2 → wp_X7_addStep S (fv_X4_dx S q v2) r (fun S10 => ∀ x12 : Int32, x12 = v2 + 1 → X2 S10 x12)))
def st_X7_addSteps_27 (q : Nat) (r : Nat) (P : St → Prop) (X2 : St → Int32 → Prop) (X27 : St → Int32 → Prop) (S : St) (v2 : Int32) : Prop :=
  (((fv_X4_pointCount S q) ≤ v2 → P S) ∧ (¬ (fv_X4_pointCount S q) ≤ v2 → wp_X7_addStep S (fv_X4_dy S q v2) r (fun S14 => ∀ x16 : Int32, x16 = v2 + 1 → X27 S14 x16)))
def at_X7_addSteps_2 (f : Fx) (g : Gx) (T0 : List (Nat × Nat × Nat)) (q : Nat) (r : Nat) (P : St → Prop) (S : St) (v2 : Int32) : Prop := S.2.2.1 = T0 → WW f rm_X7_addSteps g 3 0 0 (Qv f g 0 0 T0 P) S 2 [(0, .ref (gad g (136 + q))), (1, .ref (gad g r)), (2, .int v2)] []
def at_X7_addSteps_27 (f : Fx) (g : Gx) (T0 : List (Nat × Nat × Nat)) (q : Nat) (r : Nat) (P : St → Prop) (S : St) (v2 : Int32) : Prop := S.2.2.1 = T0 → WW f rm_X7_addSteps g 3 0 0 (Qv f g 0 0 T0 P) S 27 [(0, .ref (gad g (136 + q))), (1, .ref (gad g r)), (2, .int v2)] []
set_option maxHeartbeats 4000000 in
set_option maxRecDepth 100000 in
theorem run_X7_addSteps_2 {f : Fx} {g : Gx} {T0 : List (Nat × Nat × Nat)} {S : St} {q : Nat} {r : Nat} {P : St → Prop} (C : Cx f g cX7_addSteps 3 RX7) (hrt : (fmeth f).sig.returnType = none) (hq : q < 12) (hr : r < 68) {v2 : Int32} (h : st_X7_addSteps_2 q r P (at_X7_addSteps_2 f g T0 q r P) (at_X7_addSteps_27 f g T0 q r P) S v2) : at_X7_addSteps_2 f g T0 q r P S v2 := by
  intro hT 
  unfold st_X7_addSteps_2 at h
  refine ww_iload_n C dX7_addSteps_2 2 rfl ?_
  refine ww_aload_n C dX7_addSteps_3 0 rfl ?_
  refine ww_cVf (As := []) (rest := [.int v2]) C ok_X4_pointCount bw_492 dX7_addSteps_4 (cm_X4_pointCount hq) (rc_Glyph hq) rfl ⟨Nat.le_of_ble_eq_true rfl, Nat.le_of_ble_eq_true rfl⟩ (Nat.le_of_ble_eq_true rfl) (c2 := 0) (s2 := 0) rfl rfl ⟨Nat.le_of_ble_eq_true rfl, Nat.le_of_ble_eq_true rfl⟩ rfl ?_
  refine ww_icmp_ge (tgt := 25) C dX7_addSteps_7 (by decide) (fun q9 => ?_) (fun q9 => ?_)
  · replace h := h.1 q9
    refine ww_iconst (v := 0) C dX7_addSteps_25 (by decide) ?_
    refine ww_istore_n (lv2 := [(2, .int 0), (0, .ref (gad g (136 + q))), (1, .ref (gad g r))]) C dX7_addSteps_26 rfl (Nat.le_of_ble_eq_true rfl) rfl ?_
    exact ww_sub [1, 2, 0] rfl (h hT)
  · replace h := h.2 q9
    refine ww_aload_n C dX7_addSteps_10 0 rfl ?_
    refine ww_iload_n C dX7_addSteps_11 2 rfl ?_
    refine ww_cVf (As := [.int v2]) (rest := []) C ok_X4_dx bw_500 dX7_addSteps_12 (cm_X4_dx hq) (rc_Glyph hq) rfl ⟨Nat.le_of_ble_eq_true rfl, Nat.le_of_ble_eq_true rfl⟩ (Nat.le_of_ble_eq_true rfl) (c2 := 0) (s2 := 0) rfl rfl ⟨Nat.le_of_ble_eq_true rfl, Nat.le_of_ble_eq_true rfl⟩ rfl ?_
    refine ww_aload_n C dX7_addSteps_15 1 rfl ?_
    refine ww_cSv (As := [.int (fv_X4_dx S q v2), .ref (gad g r)]) (rest := []) C ok_X7_addStep bw_517 dX7_addSteps_16 (run_X7_addStep hr (fun _ => h)) rfl ⟨Nat.le_of_ble_eq_true rfl, Nat.le_of_ble_eq_true rfl⟩ (Nat.le_of_ble_eq_true rfl) (c2 := 0) (s2 := 0) rfl rfl ⟨Nat.le_of_ble_eq_true rfl, Nat.le_of_ble_eq_true rfl⟩ rfl (fun S10 hp hTg => ?_)
    replace h := hp
    have hT_S10 : S10.2.2.1 = T0 := by rw [hTg]; exact hT
    obtain ⟨x12, e_x12⟩ : ∃ z : Int32, z = v2 + 1 := ⟨_, rfl⟩
    replace h := h x12 e_x12
    refine ww_iinc (v := x12) (lv2 := [(2, .int x12), (0, .ref (gad g (136 + q))), (1, .ref (gad g r))]) C dX7_addSteps_19 2 rfl (by rw [e_x12]; rfl) (Nat.le_of_ble_eq_true rfl) rfl ?_
    refine ww_goto (tgt := 2) C dX7_addSteps_22 (by decide) ?_
    exact ww_sub [1, 2, 0] rfl (h hT_S10)
set_option maxHeartbeats 4000000 in
set_option maxRecDepth 100000 in
theorem run_X7_addSteps_27 {f : Fx} {g : Gx} {T0 : List (Nat × Nat × Nat)} {S : St} {q : Nat} {r : Nat} {P : St → Prop} (C : Cx f g cX7_addSteps 3 RX7) (hrt : (fmeth f).sig.returnType = none) (hq : q < 12) (hr : r < 68) {v2 : Int32} (h : st_X7_addSteps_27 q r P (at_X7_addSteps_2 f g T0 q r P) (at_X7_addSteps_27 f g T0 q r P) S v2) : at_X7_addSteps_27 f g T0 q r P S v2 := by
  intro hT 
  unfold st_X7_addSteps_27 at h
  refine ww_iload_n C dX7_addSteps_27 2 rfl ?_
  refine ww_aload_n C dX7_addSteps_28 0 rfl ?_
  refine ww_cVf (As := []) (rest := [.int v2]) C ok_X4_pointCount bw_492 dX7_addSteps_29 (cm_X4_pointCount hq) (rc_Glyph hq) rfl ⟨Nat.le_of_ble_eq_true rfl, Nat.le_of_ble_eq_true rfl⟩ (Nat.le_of_ble_eq_true rfl) (c2 := 0) (s2 := 0) rfl rfl ⟨Nat.le_of_ble_eq_true rfl, Nat.le_of_ble_eq_true rfl⟩ rfl ?_
  refine ww_icmp_ge (tgt := 50) C dX7_addSteps_32 (by decide) (fun q13 => ?_) (fun q13 => ?_)
  · replace h := h.1 q13
    exact ww_vret C hrt dX7_addSteps_50 hT h
  · replace h := h.2 q13
    refine ww_aload_n C dX7_addSteps_35 0 rfl ?_
    refine ww_iload_n C dX7_addSteps_36 2 rfl ?_
    refine ww_cVf (As := [.int v2]) (rest := []) C ok_X4_dy bw_510 dX7_addSteps_37 (cm_X4_dy hq) (rc_Glyph hq) rfl ⟨Nat.le_of_ble_eq_true rfl, Nat.le_of_ble_eq_true rfl⟩ (Nat.le_of_ble_eq_true rfl) (c2 := 0) (s2 := 0) rfl rfl ⟨Nat.le_of_ble_eq_true rfl, Nat.le_of_ble_eq_true rfl⟩ rfl ?_
    refine ww_aload_n C dX7_addSteps_40 1 rfl ?_
    refine ww_cSv (As := [.int (fv_X4_dy S q v2), .ref (gad g r)]) (rest := []) C ok_X7_addStep bw_517 dX7_addSteps_41 (run_X7_addStep hr (fun _ => h)) rfl ⟨Nat.le_of_ble_eq_true rfl, Nat.le_of_ble_eq_true rfl⟩ (Nat.le_of_ble_eq_true rfl) (c2 := 0) (s2 := 0) rfl rfl ⟨Nat.le_of_ble_eq_true rfl, Nat.le_of_ble_eq_true rfl⟩ rfl (fun S14 hp hTg => ?_)
    replace h := hp
    have hT_S14 : S14.2.2.1 = T0 := by rw [hTg]; exact hT
    obtain ⟨x16, e_x16⟩ : ∃ z : Int32, z = v2 + 1 := ⟨_, rfl⟩
    replace h := h x16 e_x16
    refine ww_iinc (v := x16) (lv2 := [(2, .int x16), (0, .ref (gad g (136 + q))), (1, .ref (gad g r))]) C dX7_addSteps_44 2 rfl (by rw [e_x16]; rfl) (Nat.le_of_ble_eq_true rfl) rfl ?_
    refine ww_goto (tgt := 27) C dX7_addSteps_47 (by decide) ?_
    exact ww_sub [1, 2, 0] rfl (h hT_S14)
def wp_X7_addSteps (S : St) (q : Nat) (r : Nat) (P : St → Prop) : Prop :=
  ∀ (X2 : St → Int32 → Prop) (X27 : St → Int32 → Prop), (∀ S v2, st_X7_addSteps_2 q r P X2 X27 S v2 → X2 S v2) → (∀ S v2, st_X7_addSteps_27 q r P X2 X27 S v2 → X27 S v2) → X2 S 0
set_option maxHeartbeats 4000000 in
set_option maxRecDepth 100000 in
theorem run_X7_addSteps {l : Launch} {g : Gx} {S : St} {q : Nat} {r : Nat} {P : St → Prop} (hq : q < 12) (hr : r < 68) (h : rowsLe S → wp_X7_addSteps S q r P) : CMv g l yX7_addSteps cX7_addSteps 3 none rm_X7_addSteps [.ref (gad g (136 + q)), .ref (gad g r)] S P := cm_entry (own := RX7) (plainFor_of_name (by decide)) rfl (Nat.le_of_ble_eq_true rfl) rfl (fun hle f hf C hrt => by
  subst hf
  replace h := h hle
  obtain ⟨T0, hT⟩ : ∃ T, S.2.2.1 = T := ⟨_, rfl⟩
  rw [hT]
  replace h := h (at_X7_addSteps_2 f g T0 q r P) (at_X7_addSteps_27 f g T0 q r P) (fun S v2 h => run_X7_addSteps_2 C hrt hq hr h) (fun S v2 h => run_X7_addSteps_27 C hrt hq hr h)
  refine ww_iconst (v := 0) C dX7_addSteps_0 (by decide) ?_
  refine ww_istore_n (lv2 := [(2, .int 0), (0, .ref (gad g (136 + q))), (1, .ref (gad g r))]) C dX7_addSteps_1 rfl (Nat.le_of_ble_eq_true rfl) rfl ?_
  exact ww_sub [1, 2, 0] rfl (h hT))
abbrev rm_X7_makeTables : Room := { frames := 4, cells := 0, slots := 0, locals := 88 }
theorem ok_X7_makeTables : SOK yX7_makeTables cX7_makeTables 6 none 1 := ⟨bw_467, bw_75, bw_468, by decide +kernel⟩
def st_X7_makeTables_22 (j : Nat) (P : St → Prop) (X22 : St → Nat → Nat → Int32 → Prop) (X101 : St → Nat → Nat → Int32 → Prop) (S : St) (v1 : Nat) (v2 : Nat) (v3 : Int32) : Prop :=
  (((fv_X3_glyphCount S j) ≤ v3 → P S) ∧ (¬ (fv_X3_glyphCount S j) ≤ v3 → ∀ x17 : Int32, x17 = rLen S v1 → (nnB S v2 ((fv_X4_advance S (glId S j v3)).toInt64) 2 ∧ ∀ S18 : St, S18 = rNum S v2 ((fv_X4_advance S (glId S j v3)).toInt64) 2 → (nnB S18 v2 x17.toInt64 2 ∧ ∀ S19 : St, S19 = rNum S18 v2 x17.toInt64 2 → (((fv_X4_contourCount S19 (glId S j v3)) ≤ 0 → X101 S19 v1 v2 v3) ∧ (¬ (fv_X4_contourCount S19 (glId S j v3)) ≤ 0 → wp_X7_addContours S19 (glId S j v3) v1 (fun S21 => wp_X7_addFlags S21 (glId S j v3) v1 (fun S23 => wp_X7_addSteps S23 (glId S j v3) v1 (fun S25 => ∀ S27 : St, S27 = rZeros S25 v1 (((rLen S25 v1) - x17) - ((rLen S25 v1) - x17) / 2 * 2) → X101 S27 v1 v2 v3)))))))))
def st_X7_makeTables_101 (j : Nat) (P : St → Prop) (X22 : St → Nat → Nat → Int32 → Prop) (X101 : St → Nat → Nat → Int32 → Prop) (S : St) (v1 : Nat) (v2 : Nat) (v3 : Int32) : Prop :=
  ∀ x28 : Int32, x28 = v3 + 1 → X22 S v1 v2 x28
def at_X7_makeTables_22 (f : Fx) (g : Gx) (T0 : List (Nat × Nat × Nat)) (j : Nat) (P : St → Prop) (S : St) (v1 : Nat) (v2 : Nat) (v3 : Int32) : Prop := S.2.2.1 = T0 → v1 < 68 → v2 < 68 → WW f rm_X7_makeTables g 6 0 0 (Qv f g 0 0 T0 P) S 22 [(0, .ref (gad g (148 + j))), (1, .ref (gad g v1)), (2, .ref (gad g v2)), (3, .int v3)] []
def at_X7_makeTables_101 (f : Fx) (g : Gx) (T0 : List (Nat × Nat × Nat)) (j : Nat) (P : St → Prop) (S : St) (v1 : Nat) (v2 : Nat) (v3 : Int32) : Prop := S.2.2.1 = T0 → v1 < 68 → v2 < 68 → WW f rm_X7_makeTables g 6 0 0 (Qv f g 0 0 T0 P) S 101 [(0, .ref (gad g (148 + j))), (1, .ref (gad g v1)), (2, .ref (gad g v2)), (3, .int v3)] []
set_option maxHeartbeats 4000000 in
set_option maxRecDepth 100000 in
theorem run_X7_makeTables_22 {f : Fx} {g : Gx} {T0 : List (Nat × Nat × Nat)} {S : St} {j : Nat} {P : St → Prop} (C : Cx f g cX7_makeTables 6 RX7) (hrt : (fmeth f).sig.returnType = none) (hj : j < 2) {v1 : Nat} {v2 : Nat} {v3 : Int32} (h : st_X7_makeTables_22 j P (at_X7_makeTables_22 f g T0 j P) (at_X7_makeTables_101 f g T0 j P) S v1 v2 v3) : at_X7_makeTables_22 f g T0 j P S v1 v2 v3 := by
  intro hT hv1 hv2
  unfold st_X7_makeTables_22 at h
  refine ww_iload_n C dX7_makeTables_22 3 rfl ?_
  refine ww_aload_n C dX7_makeTables_23 0 rfl ?_
  refine ww_cVf (As := []) (rest := [.int v3]) C ok_X3_glyphCount bw_471 dX7_makeTables_24 (cm_X3_glyphCount hj) (rc_Font hj) rfl ⟨Nat.le_of_ble_eq_true rfl, Nat.le_of_ble_eq_true rfl⟩ (Nat.le_of_ble_eq_true rfl) (c2 := 0) (s2 := 0) rfl rfl ⟨Nat.le_of_ble_eq_true rfl, Nat.le_of_ble_eq_true rfl⟩ rfl ?_
  refine ww_icmp_ge (tgt := 107) C dX7_makeTables_27 (by decide) (fun q16 => ?_) (fun q16 => ?_)
  · replace h := h.1 q16
    exact ww_vret C hrt dX7_makeTables_107 hT h
  · replace h := h.2 q16
    refine ww_aload_n C dX7_makeTables_30 0 rfl ?_
    refine ww_iload_n C dX7_makeTables_31 3 rfl ?_
    refine ww_cVr (As := [.int v3]) (rest := []) C ok_X3_glyphAt bw_472 dX7_makeTables_32 (cm_X3_glyphAt hj) (rc_Font hj) rfl ⟨Nat.le_of_ble_eq_true rfl, Nat.le_of_ble_eq_true rfl⟩ (Nat.le_of_ble_eq_true rfl) (c2 := 0) (s2 := 0) rfl rfl ⟨Nat.le_of_ble_eq_true rfl, Nat.le_of_ble_eq_true rfl⟩ rfl ?_
    refine ww_astore (lv2 := [(4, .ref (gad g (136 + (glId S j v3)))), (0, .ref (gad g (148 + j))), (1, .ref (gad g v1)), (2, .ref (gad g v2)), (3, .int v3)]) C dX7_makeTables_35 (Nat.le_of_ble_eq_true rfl) rfl ?_
    refine ww_aload_n C dX7_makeTables_37 2 rfl ?_
    refine ww_cVf (As := []) (rest := []) C ok_X8_length bw_473 dX7_makeTables_38 (cm_X8_length hv1) (rc_Row hv1) rfl ⟨Nat.le_of_ble_eq_true rfl, Nat.le_of_ble_eq_true rfl⟩ (Nat.le_of_ble_eq_true rfl) (c2 := 0) (s2 := 0) rfl rfl ⟨Nat.le_of_ble_eq_true rfl, Nat.le_of_ble_eq_true rfl⟩ rfl ?_
    refine ww_topi (fun x17 e_x17 => ?_)
    replace h := h x17 e_x17
    refine ww_istore (lv2 := [(5, .int x17), (4, .ref (gad g (136 + (glId S j v3)))), (0, .ref (gad g (148 + j))), (1, .ref (gad g v1)), (2, .ref (gad g v2)), (3, .int v3)]) C dX7_makeTables_41 (Nat.le_of_ble_eq_true rfl) rfl ?_
    refine ww_aload_n C dX7_makeTables_43 4 rfl ?_
    refine ww_aload C dX7_makeTables_44 1 rfl ?_
    refine ww_cVf (As := []) (rest := [.ref (gad g v2)]) C ok_X4_advance bw_474 dX7_makeTables_46 (cm_X4_advance (glId_lt hj)) (rc_Glyph (glId_lt hj)) rfl ⟨Nat.le_of_ble_eq_true rfl, Nat.le_of_ble_eq_true rfl⟩ (Nat.le_of_ble_eq_true rfl) (c2 := 0) (s2 := 0) rfl rfl ⟨Nat.le_of_ble_eq_true rfl, Nat.le_of_ble_eq_true rfl⟩ rfl ?_
    refine ww_i2l C dX7_makeTables_49 ?_
    refine ww_iconst (v := 2) C dX7_makeTables_50 (by decide) ?_
    refine ww_cVg (As := [.long ((fv_X4_advance S (glId S j v3)).toInt64), .int 2]) (rest := []) C ok_X8_addNumber bw_478 dX7_makeTables_51 (cm_X8_addNumber hv2 h.1) (rc_Row hv2) rfl ⟨Nat.le_of_ble_eq_true rfl, Nat.le_of_ble_eq_true rfl⟩ (Nat.le_of_ble_eq_true rfl) (c2 := 0) (s2 := 0) rfl rfl ⟨Nat.le_of_ble_eq_true rfl, Nat.le_of_ble_eq_true rfl⟩ rfl (fun hTg => ?_)
    replace h := h.2
    refine ww_nm (fun S18 e_S18 => ?_)
    replace h := h S18 e_S18
    have hT_S18 : S18.2.2.1 = T0 := by rw [e_S18, hTg]; exact hT
    refine ww_aload_n C dX7_makeTables_54 4 rfl ?_
    refine ww_iload C dX7_makeTables_55 0 rfl ?_
    refine ww_i2l C dX7_makeTables_57 ?_
    refine ww_iconst (v := 2) C dX7_makeTables_58 (by decide) ?_
    refine ww_cVg (As := [.long x17.toInt64, .int 2]) (rest := []) C ok_X8_addNumber bw_478 dX7_makeTables_59 (cm_X8_addNumber hv2 h.1) (rc_Row hv2) rfl ⟨Nat.le_of_ble_eq_true rfl, Nat.le_of_ble_eq_true rfl⟩ (Nat.le_of_ble_eq_true rfl) (c2 := 0) (s2 := 0) rfl rfl ⟨Nat.le_of_ble_eq_true rfl, Nat.le_of_ble_eq_true rfl⟩ rfl (fun hTg => ?_)
    replace h := h.2
    refine ww_nm (fun S19 e_S19 => ?_)
    replace h := h S19 e_S19
    have hT_S19 : S19.2.2.1 = T0 := by rw [e_S19, hTg]; exact hT_S18
    refine ww_aload C dX7_makeTables_62 1 rfl ?_
    refine ww_cVf (As := []) (rest := []) C ok_X4_contourCount bw_479 dX7_makeTables_64 (cm_X4_contourCount (glId_lt hj)) (rc_Glyph (glId_lt hj)) rfl ⟨Nat.le_of_ble_eq_true rfl, Nat.le_of_ble_eq_true rfl⟩ (Nat.le_of_ble_eq_true rfl) (c2 := 0) (s2 := 0) rfl rfl ⟨Nat.le_of_ble_eq_true rfl, Nat.le_of_ble_eq_true rfl⟩ rfl ?_
    refine ww_if_le (tgt := 101) C dX7_makeTables_67 (by decide) (fun q20 => ?_) (fun q20 => ?_)
    · replace h := h.1 q20
      exact ww_sub [2, 3, 4, 5] rfl (h hT_S19 hv1 hv2)
    · replace h := h.2 q20
      refine ww_aload C dX7_makeTables_70 1 rfl ?_
      refine ww_aload_n C dX7_makeTables_72 3 rfl ?_
      refine ww_cSv (As := [.ref (gad g (136 + (glId S j v3))), .ref (gad g v1)]) (rest := []) C ok_X7_addContours bw_480 dX7_makeTables_73 (run_X7_addContours (glId_lt hj) hv1 (fun _ => h)) rfl ⟨Nat.le_of_ble_eq_true rfl, Nat.le_of_ble_eq_true rfl⟩ (Nat.le_of_ble_eq_true rfl) (c2 := 0) (s2 := 0) rfl rfl ⟨Nat.le_of_ble_eq_true rfl, Nat.le_of_ble_eq_true rfl⟩ rfl (fun S21 hp hTg => ?_)
      replace h := hp
      have hT_S21 : S21.2.2.1 = T0 := by rw [hTg]; exact hT_S19
      refine ww_aload C dX7_makeTables_76 1 rfl ?_
      refine ww_aload_n C dX7_makeTables_78 3 rfl ?_
      refine ww_cSv (As := [.ref (gad g (136 + (glId S j v3))), .ref (gad g v1)]) (rest := []) C ok_X7_addFlags bw_489 dX7_makeTables_79 (run_X7_addFlags (glId_lt hj) hv1 (fun _ => h)) rfl ⟨Nat.le_of_ble_eq_true rfl, Nat.le_of_ble_eq_true rfl⟩ (Nat.le_of_ble_eq_true rfl) (c2 := 0) (s2 := 0) rfl rfl ⟨Nat.le_of_ble_eq_true rfl, Nat.le_of_ble_eq_true rfl⟩ rfl (fun S23 hp hTg => ?_)
      replace h := hp
      have hT_S23 : S23.2.2.1 = T0 := by rw [hTg]; exact hT_S21
      refine ww_aload C dX7_makeTables_82 1 rfl ?_
      refine ww_aload_n C dX7_makeTables_84 3 rfl ?_
      refine ww_cSv (As := [.ref (gad g (136 + (glId S j v3))), .ref (gad g v1)]) (rest := []) C ok_X7_addSteps bw_514 dX7_makeTables_85 (run_X7_addSteps (glId_lt hj) hv1 (fun _ => h)) rfl ⟨Nat.le_of_ble_eq_true rfl, Nat.le_of_ble_eq_true rfl⟩ (Nat.le_of_ble_eq_true rfl) (c2 := 0) (s2 := 0) rfl rfl ⟨Nat.le_of_ble_eq_true rfl, Nat.le_of_ble_eq_true rfl⟩ rfl (fun S25 hp hTg => ?_)
      replace h := hp
      have hT_S25 : S25.2.2.1 = T0 := by rw [hTg]; exact hT_S23
      refine ww_aload_n C dX7_makeTables_88 3 rfl ?_
      refine ww_aload_n C dX7_makeTables_89 3 rfl ?_
      refine ww_cVf (As := []) (rest := [.ref (gad g v1)]) C ok_X8_length bw_473 dX7_makeTables_90 (cm_X8_length hv1) (rc_Row hv1) rfl ⟨Nat.le_of_ble_eq_true rfl, Nat.le_of_ble_eq_true rfl⟩ (Nat.le_of_ble_eq_true rfl) (c2 := 0) (s2 := 0) rfl rfl ⟨Nat.le_of_ble_eq_true rfl, Nat.le_of_ble_eq_true rfl⟩ rfl ?_
      refine ww_iload C dX7_makeTables_93 0 rfl ?_
      refine ww_isub C dX7_makeTables_95 ?_
      refine ww_iconst (v := 2) C dX7_makeTables_96 (by decide) ?_
      refine ww_irem C dX7_makeTables_97 (by decide) ?_
      refine ww_cVg (As := [.int (((rLen S25 v1) - x17) - ((rLen S25 v1) - x17) / 2 * 2)]) (rest := []) C ok_X8_addZeros bw_523 dX7_makeTables_98 (cm_X8_addZeros hv1) (rc_Row hv1) rfl ⟨Nat.le_of_ble_eq_true rfl, Nat.le_of_ble_eq_true rfl⟩ (Nat.le_of_ble_eq_true rfl) (c2 := 0) (s2 := 0) rfl rfl ⟨Nat.le_of_ble_eq_true rfl, Nat.le_of_ble_eq_true rfl⟩ rfl (fun hTg => ?_)
      refine ww_nm (fun S27 e_S27 => ?_)
      replace h := h S27 e_S27
      have hT_S27 : S27.2.2.1 = T0 := by rw [e_S27, hTg]; exact hT_S25
      exact ww_sub [2, 3, 4, 5] rfl (h hT_S27 hv1 hv2)
set_option maxHeartbeats 4000000 in
set_option maxRecDepth 100000 in
theorem run_X7_makeTables_101 {f : Fx} {g : Gx} {T0 : List (Nat × Nat × Nat)} {S : St} {j : Nat} {P : St → Prop} (C : Cx f g cX7_makeTables 6 RX7) (hrt : (fmeth f).sig.returnType = none) (hj : j < 2) {v1 : Nat} {v2 : Nat} {v3 : Int32} (h : st_X7_makeTables_101 j P (at_X7_makeTables_22 f g T0 j P) (at_X7_makeTables_101 f g T0 j P) S v1 v2 v3) : at_X7_makeTables_101 f g T0 j P S v1 v2 v3 := by
  intro hT hv1 hv2
  unfold st_X7_makeTables_101 at h
  obtain ⟨x28, e_x28⟩ : ∃ z : Int32, z = v3 + 1 := ⟨_, rfl⟩
  replace h := h x28 e_x28
  refine ww_iinc (v := x28) (lv2 := [(3, .int x28), (0, .ref (gad g (148 + j))), (1, .ref (gad g v1)), (2, .ref (gad g v2))]) C dX7_makeTables_101 3 rfl (by rw [e_x28]; rfl) (Nat.le_of_ble_eq_true rfl) rfl ?_
  refine ww_goto (tgt := 22) C dX7_makeTables_104 (by decide) ?_
  exact ww_sub [1, 2, 3, 0] rfl (h hT hv1 hv2)
def wp_X7_makeTables (S : St) (j : Nat) (P : St → Prop) : Prop :=
  ∀ (X22 : St → Nat → Nat → Int32 → Prop) (X101 : St → Nat → Nat → Int32 → Prop), (∀ S v1 v2 v3, st_X7_makeTables_22 j P X22 X101 S v1 v2 v3 → X22 S v1 v2 v3) → (∀ S v1 v2 v3, st_X7_makeTables_101 j P X22 X101 S v1 v2 v3 → X101 S v1 v2 v3) → ∀ S29 : St, S29 = rMake S (rwId S j 0) → ∀ S30 : St, S30 = rMake S29 (rwId S j 1) → X22 S30 (rwId S j 0) (rwId S j 1) 0
set_option maxHeartbeats 4000000 in
set_option maxRecDepth 100000 in
theorem run_X7_makeTables {l : Launch} {g : Gx} {S : St} {j : Nat} {P : St → Prop} (hj : j < 2) (h : rowsLe S → wp_X7_makeTables S j P) : CMv g l yX7_makeTables cX7_makeTables 6 none rm_X7_makeTables [.ref (gad g (148 + j))] S P := cm_entry (own := RX7) (plainFor_of_name (by decide)) rfl (Nat.le_of_ble_eq_true rfl) rfl (fun hle f hf C hrt => by
  subst hf
  replace h := h hle
  obtain ⟨T0, hT⟩ : ∃ T, S.2.2.1 = T := ⟨_, rfl⟩
  rw [hT]
  replace h := h (at_X7_makeTables_22 f g T0 j P) (at_X7_makeTables_101 f g T0 j P) (fun S v1 v2 v3 h => run_X7_makeTables_22 C hrt hj h) (fun S v1 v2 v3 h => run_X7_makeTables_101 C hrt hj h)
  refine ww_aload_n C dX7_makeTables_0 0 rfl ?_
  refine ww_iconst (v := 0) C dX7_makeTables_1 (by decide) ?_
  refine ww_cVr (As := [.int 0]) (rest := []) C ok_X3_tableRow bw_469 dX7_makeTables_2 (cm_X3_tableRow hj) (rc_Font hj) rfl ⟨Nat.le_of_ble_eq_true rfl, Nat.le_of_ble_eq_true rfl⟩ (Nat.le_of_ble_eq_true rfl) (c2 := 0) (s2 := 0) rfl rfl ⟨Nat.le_of_ble_eq_true rfl, Nat.le_of_ble_eq_true rfl⟩ rfl ?_
  refine ww_astore_n (lv2 := [(1, .ref (gad g (rwId S j 0))), (0, .ref (gad g (148 + j)))]) C dX7_makeTables_5 rfl (Nat.le_of_ble_eq_true rfl) rfl ?_
  refine ww_aload_n C dX7_makeTables_6 1 rfl ?_
  refine ww_iconst (v := 1) C dX7_makeTables_7 (by decide) ?_
  refine ww_cVr (As := [.int 1]) (rest := []) C ok_X3_tableRow bw_469 dX7_makeTables_8 (cm_X3_tableRow hj) (rc_Font hj) rfl ⟨Nat.le_of_ble_eq_true rfl, Nat.le_of_ble_eq_true rfl⟩ (Nat.le_of_ble_eq_true rfl) (c2 := 0) (s2 := 0) rfl rfl ⟨Nat.le_of_ble_eq_true rfl, Nat.le_of_ble_eq_true rfl⟩ rfl ?_
  refine ww_astore_n (lv2 := [(2, .ref (gad g (rwId S j 1))), (1, .ref (gad g (rwId S j 0))), (0, .ref (gad g (148 + j)))]) C dX7_makeTables_11 rfl (Nat.le_of_ble_eq_true rfl) rfl ?_
  refine ww_aload_n C dX7_makeTables_12 1 rfl ?_
  refine ww_cVg (As := []) (rest := []) C ok_X8_makeEmpty bw_470 dX7_makeTables_13 (cm_X8_makeEmpty (rwId_lt hj)) (rc_Row (rwId_lt hj)) rfl ⟨Nat.le_of_ble_eq_true rfl, Nat.le_of_ble_eq_true rfl⟩ (Nat.le_of_ble_eq_true rfl) (c2 := 0) (s2 := 0) rfl rfl ⟨Nat.le_of_ble_eq_true rfl, Nat.le_of_ble_eq_true rfl⟩ rfl (fun hTg => ?_)
  refine ww_nm (fun S29 e_S29 => ?_)
  replace h := h S29 e_S29
  have hT_S29 : S29.2.2.1 = T0 := by rw [e_S29, hTg]; exact hT
  refine ww_aload_n C dX7_makeTables_16 0 rfl ?_
  refine ww_cVg (As := []) (rest := []) C ok_X8_makeEmpty bw_470 dX7_makeTables_17 (cm_X8_makeEmpty (rwId_lt hj)) (rc_Row (rwId_lt hj)) rfl ⟨Nat.le_of_ble_eq_true rfl, Nat.le_of_ble_eq_true rfl⟩ (Nat.le_of_ble_eq_true rfl) (c2 := 0) (s2 := 0) rfl rfl ⟨Nat.le_of_ble_eq_true rfl, Nat.le_of_ble_eq_true rfl⟩ rfl (fun hTg => ?_)
  refine ww_nm (fun S30 e_S30 => ?_)
  replace h := h S30 e_S30
  have hT_S30 : S30.2.2.1 = T0 := by rw [e_S30, hTg]; exact hT_S29
  refine ww_iconst (v := 0) C dX7_makeTables_20 (by decide) ?_
  refine ww_istore_n (lv2 := [(3, .int 0), (2, .ref (gad g (rwId S j 1))), (1, .ref (gad g (rwId S j 0))), (0, .ref (gad g (148 + j)))]) C dX7_makeTables_21 rfl (Nat.le_of_ble_eq_true rfl) rfl ?_
  exact ww_sub [3, 2, 1, 0] rfl (h hT_S30 (rwId_lt hj) (rwId_lt hj)))
abbrev rm_X7_writePlain : Room := { frames := 5, cells := 0, slots := 0, locals := 113 }
theorem ok_X7_writePlain : SOK yX7_writePlain cX7_writePlain 5 none 2 := ⟨bw_632, bw_75, bw_633, by decide +kernel⟩
def st_X7_writePlain_28 (j : Nat) (r : Nat) (P : St → Prop) (X28 : St → Int32 → Int32 → Prop) (X97 : St → Int32 → Int32 → Prop) (X105 : St → Int32 → Prop) (X140 : St → Int32 → Prop) (S : St) (v2 : Int32) (v3 : Int32) : Prop :=
  ((7 ≤ v3 → X105 S 0) ∧ (¬ 7 ≤ v3 → wp_X3_hasTable S j v3 (fun r35 S34 => ((r35 = 0 → X97 S34 v2 v3) ∧ (¬ r35 = 0 → ∀ S37 : St, S37 = rAdd S34 r v3 → wp_X7_checkOf S37 (rwId S34 j v3) (fun r39 S38 => (nnB S38 r r39.toInt64 4 ∧ ∀ S40 : St, S40 = rNum S38 r r39.toInt64 4 → (nnB S40 r v2.toInt64 2 ∧ ∀ S41 : St, S41 = rNum S40 r v2.toInt64 2 → (nnB S41 r ((rLen S41 (rwId S34 j v3)).toInt64) 2 ∧ ∀ S42 : St, S42 = rNum S41 r ((rLen S41 (rwId S34 j v3)).toInt64) 2 → wp_X7_fillOf S42 (rwId S34 j v3) (fun r44 S43 => ∀ x45 : Int32, x45 = v2 + ((rLen S42 (rwId S34 j v3)) + r44) → X97 S43 x45 v3))))))))))
def st_X7_writePlain_97 (j : Nat) (r : Nat) (P : St → Prop) (X28 : St → Int32 → Int32 → Prop) (X97 : St → Int32 → Int32 → Prop) (X105 : St → Int32 → Prop) (X140 : St → Int32 → Prop) (S : St) (v2 : Int32) (v3 : Int32) : Prop :=
  ∀ x46 : Int32, x46 = v3 + 1 → X28 S v2 x46
def st_X7_writePlain_105 (j : Nat) (r : Nat) (P : St → Prop) (X28 : St → Int32 → Int32 → Prop) (X97 : St → Int32 → Int32 → Prop) (X105 : St → Int32 → Prop) (X140 : St → Int32 → Prop) (S : St) (v3 : Int32) : Prop :=
  ((7 ≤ v3 → P S) ∧ (¬ 7 ≤ v3 → wp_X3_hasTable S j v3 (fun r49 S48 => ((r49 = 0 → X140 S48 v3) ∧ (¬ r49 = 0 → (neRow S48 r (rwId S48 j v3) ∧ ∀ S51 : St, S51 = rAddRow S48 r (rwId S48 j v3) → wp_X7_fillOf S51 (rwId S51 j v3) (fun r53 S52 => ∀ S54 : St, S54 = rZeros S52 r r53 → X140 S54 v3)))))))
def st_X7_writePlain_140 (j : Nat) (r : Nat) (P : St → Prop) (X28 : St → Int32 → Int32 → Prop) (X97 : St → Int32 → Int32 → Prop) (X105 : St → Int32 → Prop) (X140 : St → Int32 → Prop) (S : St) (v3 : Int32) : Prop :=
  ∀ x55 : Int32, x55 = v3 + 1 → X105 S x55
def at_X7_writePlain_28 (f : Fx) (g : Gx) (T0 : List (Nat × Nat × Nat)) (j : Nat) (r : Nat) (P : St → Prop) (S : St) (v2 : Int32) (v3 : Int32) : Prop := S.2.2.1 = T0 → WW f rm_X7_writePlain g 5 0 0 (Qv f g 0 0 T0 P) S 28 [(0, .ref (gad g (148 + j))), (1, .ref (gad g r)), (2, .int v2), (3, .int v3)] []
def at_X7_writePlain_97 (f : Fx) (g : Gx) (T0 : List (Nat × Nat × Nat)) (j : Nat) (r : Nat) (P : St → Prop) (S : St) (v2 : Int32) (v3 : Int32) : Prop := S.2.2.1 = T0 → WW f rm_X7_writePlain g 5 0 0 (Qv f g 0 0 T0 P) S 97 [(0, .ref (gad g (148 + j))), (1, .ref (gad g r)), (2, .int v2), (3, .int v3)] []
def at_X7_writePlain_105 (f : Fx) (g : Gx) (T0 : List (Nat × Nat × Nat)) (j : Nat) (r : Nat) (P : St → Prop) (S : St) (v3 : Int32) : Prop := S.2.2.1 = T0 → WW f rm_X7_writePlain g 5 0 0 (Qv f g 0 0 T0 P) S 105 [(0, .ref (gad g (148 + j))), (1, .ref (gad g r)), (3, .int v3)] []
def at_X7_writePlain_140 (f : Fx) (g : Gx) (T0 : List (Nat × Nat × Nat)) (j : Nat) (r : Nat) (P : St → Prop) (S : St) (v3 : Int32) : Prop := S.2.2.1 = T0 → WW f rm_X7_writePlain g 5 0 0 (Qv f g 0 0 T0 P) S 140 [(0, .ref (gad g (148 + j))), (1, .ref (gad g r)), (3, .int v3)] []
set_option maxHeartbeats 4000000 in
set_option maxRecDepth 100000 in
theorem run_X7_writePlain_28 {f : Fx} {g : Gx} {T0 : List (Nat × Nat × Nat)} {S : St} {j : Nat} {r : Nat} {P : St → Prop} (C : Cx f g cX7_writePlain 5 RX7) (hrt : (fmeth f).sig.returnType = none) (hj : j < 2) (hr : r < 68) {v2 : Int32} {v3 : Int32} (h : st_X7_writePlain_28 j r P (at_X7_writePlain_28 f g T0 j r P) (at_X7_writePlain_97 f g T0 j r P) (at_X7_writePlain_105 f g T0 j r P) (at_X7_writePlain_140 f g T0 j r P) S v2 v3) : at_X7_writePlain_28 f g T0 j r P S v2 v3 := by
  intro hT 
  unfold st_X7_writePlain_28 at h
  refine ww_iload_n C dX7_writePlain_28 3 rfl ?_
  refine ww_bipush (v := 7) C dX7_writePlain_29 (by decide) ?_
  refine ww_icmp_ge (tgt := 103) C dX7_writePlain_31 (by decide) (fun q33 => ?_) (fun q33 => ?_)
  · replace h := h.1 q33
    refine ww_iconst (v := 0) C dX7_writePlain_103 (by decide) ?_
    refine ww_istore_n (lv2 := [(3, .int 0), (0, .ref (gad g (148 + j))), (1, .ref (gad g r)), (2, .int v2)]) C dX7_writePlain_104 rfl (Nat.le_of_ble_eq_true rfl) rfl ?_
    exact ww_sub [1, 2, 0] rfl (h hT)
  · replace h := h.2 q33
    refine ww_aload_n C dX7_writePlain_34 0 rfl ?_
    refine ww_iload_n C dX7_writePlain_35 3 rfl ?_
    refine ww_cVi (As := [.int v3]) (rest := []) C ok_X3_hasTable bw_636 dX7_writePlain_36 (run_X3_hasTable hj (fun _ => h)) (rc_Font hj) rfl ⟨Nat.le_of_ble_eq_true rfl, Nat.le_of_ble_eq_true rfl⟩ (Nat.le_of_ble_eq_true rfl) (c2 := 0) (s2 := 0) rfl rfl ⟨Nat.le_of_ble_eq_true rfl, Nat.le_of_ble_eq_true rfl⟩ rfl (fun r35 S34 hp hTg => ?_)
    replace h := hp
    have hT_S34 : S34.2.2.1 = T0 := by rw [hTg]; exact hT
    refine ww_if_eq (tgt := 97) C dX7_writePlain_39 (by decide) (fun q36 => ?_) (fun q36 => ?_)
    · replace h := h.1 q36
      exact ww_sub [0, 1, 2, 3] rfl (h hT_S34)
    · replace h := h.2 q36
      refine ww_aload_n C dX7_writePlain_42 0 rfl ?_
      refine ww_iload_n C dX7_writePlain_43 3 rfl ?_
      refine ww_cVr (As := [.int v3]) (rest := []) C ok_X3_tableRow bw_469 dX7_writePlain_44 (cm_X3_tableRow hj) (rc_Font hj) rfl ⟨Nat.le_of_ble_eq_true rfl, Nat.le_of_ble_eq_true rfl⟩ (Nat.le_of_ble_eq_true rfl) (c2 := 0) (s2 := 0) rfl rfl ⟨Nat.le_of_ble_eq_true rfl, Nat.le_of_ble_eq_true rfl⟩ rfl ?_
      refine ww_astore (lv2 := [(4, .ref (gad g (rwId S34 j v3))), (0, .ref (gad g (148 + j))), (1, .ref (gad g r)), (2, .int v2), (3, .int v3)]) C dX7_writePlain_47 (Nat.le_of_ble_eq_true rfl) rfl ?_
      refine ww_aload_n C dX7_writePlain_49 2 rfl ?_
      refine ww_iload_n C dX7_writePlain_50 4 rfl ?_
      refine ww_cVg (As := [.int v3]) (rest := []) C ok_X8_add bw_483 dX7_writePlain_51 (cm_X8_add hr) (rc_Row hr) rfl ⟨Nat.le_of_ble_eq_true rfl, Nat.le_of_ble_eq_true rfl⟩ (Nat.le_of_ble_eq_true rfl) (c2 := 0) (s2 := 0) rfl rfl ⟨Nat.le_of_ble_eq_true rfl, Nat.le_of_ble_eq_true rfl⟩ rfl (fun hTg => ?_)
      refine ww_nm (fun S37 e_S37 => ?_)
      replace h := h S37 e_S37
      have hT_S37 : S37.2.2.1 = T0 := by rw [e_S37, hTg]; exact hT_S34
      refine ww_aload_n C dX7_writePlain_54 2 rfl ?_
      refine ww_aload C dX7_writePlain_55 0 rfl ?_
      refine ww_cSi (As := [.ref (gad g (rwId S34 j v3))]) (rest := [.ref (gad g r)]) C ok_X7_checkOf bw_637 dX7_writePlain_57 (run_X7_checkOf (rwId_lt hj) (fun _ => h)) rfl ⟨Nat.le_of_ble_eq_true rfl, Nat.le_of_ble_eq_true rfl⟩ (Nat.le_of_ble_eq_true rfl) (c2 := 0) (s2 := 0) rfl rfl ⟨Nat.le_of_ble_eq_true rfl, Nat.le_of_ble_eq_true rfl⟩ rfl (fun r39 S38 hp hTg => ?_)
      replace h := hp
      have hT_S38 : S38.2.2.1 = T0 := by rw [hTg]; exact hT_S37
      refine ww_i2l C dX7_writePlain_60 ?_
      refine ww_iconst (v := 4) C dX7_writePlain_61 (by decide) ?_
      refine ww_cVg (As := [.long r39.toInt64, .int 4]) (rest := []) C ok_X8_addNumber bw_478 dX7_writePlain_62 (cm_X8_addNumber hr h.1) (rc_Row hr) rfl ⟨Nat.le_of_ble_eq_true rfl, Nat.le_of_ble_eq_true rfl⟩ (Nat.le_of_ble_eq_true rfl) (c2 := 0) (s2 := 0) rfl rfl ⟨Nat.le_of_ble_eq_true rfl, Nat.le_of_ble_eq_true rfl⟩ rfl (fun hTg => ?_)
      replace h := h.2
      refine ww_nm (fun S40 e_S40 => ?_)
      replace h := h S40 e_S40
      have hT_S40 : S40.2.2.1 = T0 := by rw [e_S40, hTg]; exact hT_S38
      refine ww_aload_n C dX7_writePlain_65 2 rfl ?_
      refine ww_iload_n C dX7_writePlain_66 3 rfl ?_
      refine ww_i2l C dX7_writePlain_67 ?_
      refine ww_iconst (v := 2) C dX7_writePlain_68 (by decide) ?_
      refine ww_cVg (As := [.long v2.toInt64, .int 2]) (rest := []) C ok_X8_addNumber bw_478 dX7_writePlain_69 (cm_X8_addNumber hr h.1) (rc_Row hr) rfl ⟨Nat.le_of_ble_eq_true rfl, Nat.le_of_ble_eq_true rfl⟩ (Nat.le_of_ble_eq_true rfl) (c2 := 0) (s2 := 0) rfl rfl ⟨Nat.le_of_ble_eq_true rfl, Nat.le_of_ble_eq_true rfl⟩ rfl (fun hTg => ?_)
      replace h := h.2
      refine ww_nm (fun S41 e_S41 => ?_)
      replace h := h S41 e_S41
      have hT_S41 : S41.2.2.1 = T0 := by rw [e_S41, hTg]; exact hT_S40
      refine ww_aload_n C dX7_writePlain_72 2 rfl ?_
      refine ww_aload C dX7_writePlain_73 0 rfl ?_
      refine ww_cVf (As := []) (rest := [.ref (gad g r)]) C ok_X8_length bw_473 dX7_writePlain_75 (cm_X8_length (rwId_lt hj)) (rc_Row (rwId_lt hj)) rfl ⟨Nat.le_of_ble_eq_true rfl, Nat.le_of_ble_eq_true rfl⟩ (Nat.le_of_ble_eq_true rfl) (c2 := 0) (s2 := 0) rfl rfl ⟨Nat.le_of_ble_eq_true rfl, Nat.le_of_ble_eq_true rfl⟩ rfl ?_
      refine ww_i2l C dX7_writePlain_78 ?_
      refine ww_iconst (v := 2) C dX7_writePlain_79 (by decide) ?_
      refine ww_cVg (As := [.long ((rLen S41 (rwId S34 j v3)).toInt64), .int 2]) (rest := []) C ok_X8_addNumber bw_478 dX7_writePlain_80 (cm_X8_addNumber hr h.1) (rc_Row hr) rfl ⟨Nat.le_of_ble_eq_true rfl, Nat.le_of_ble_eq_true rfl⟩ (Nat.le_of_ble_eq_true rfl) (c2 := 0) (s2 := 0) rfl rfl ⟨Nat.le_of_ble_eq_true rfl, Nat.le_of_ble_eq_true rfl⟩ rfl (fun hTg => ?_)
      replace h := h.2
      refine ww_nm (fun S42 e_S42 => ?_)
      replace h := h S42 e_S42
      have hT_S42 : S42.2.2.1 = T0 := by rw [e_S42, hTg]; exact hT_S41
      refine ww_iload_n C dX7_writePlain_83 3 rfl ?_
      refine ww_aload C dX7_writePlain_84 0 rfl ?_
      refine ww_cVf (As := []) (rest := [.int v2]) C ok_X8_length bw_473 dX7_writePlain_86 (cm_X8_length (rwId_lt hj)) (rc_Row (rwId_lt hj)) rfl ⟨Nat.le_of_ble_eq_true rfl, Nat.le_of_ble_eq_true rfl⟩ (Nat.le_of_ble_eq_true rfl) (c2 := 0) (s2 := 0) rfl rfl ⟨Nat.le_of_ble_eq_true rfl, Nat.le_of_ble_eq_true rfl⟩ rfl ?_
      refine ww_aload C dX7_writePlain_89 0 rfl ?_
      refine ww_cSi (As := [.ref (gad g (rwId S34 j v3))]) (rest := [.int (rLen S42 (rwId S34 j v3)), .int v2]) C ok_X7_fillOf bw_641 dX7_writePlain_91 (run_X7_fillOf (rwId_lt hj) (fun _ => h)) rfl ⟨Nat.le_of_ble_eq_true rfl, Nat.le_of_ble_eq_true rfl⟩ (Nat.le_of_ble_eq_true rfl) (c2 := 0) (s2 := 0) rfl rfl ⟨Nat.le_of_ble_eq_true rfl, Nat.le_of_ble_eq_true rfl⟩ rfl (fun r44 S43 hp hTg => ?_)
      replace h := hp
      have hT_S43 : S43.2.2.1 = T0 := by rw [hTg]; exact hT_S42
      refine ww_iadd C dX7_writePlain_94 ?_
      refine ww_iadd C dX7_writePlain_95 ?_
      refine ww_topi (fun x45 e_x45 => ?_)
      replace h := h x45 e_x45
      refine ww_istore_n (lv2 := [(2, .int x45), (4, .ref (gad g (rwId S34 j v3))), (0, .ref (gad g (148 + j))), (1, .ref (gad g r)), (3, .int v3)]) C dX7_writePlain_96 rfl (Nat.le_of_ble_eq_true rfl) rfl ?_
      exact ww_sub [2, 3, 0, 4] rfl (h hT_S43)
set_option maxHeartbeats 4000000 in
set_option maxRecDepth 100000 in
theorem run_X7_writePlain_97 {f : Fx} {g : Gx} {T0 : List (Nat × Nat × Nat)} {S : St} {j : Nat} {r : Nat} {P : St → Prop} (C : Cx f g cX7_writePlain 5 RX7) (hrt : (fmeth f).sig.returnType = none) (hj : j < 2) (hr : r < 68) {v2 : Int32} {v3 : Int32} (h : st_X7_writePlain_97 j r P (at_X7_writePlain_28 f g T0 j r P) (at_X7_writePlain_97 f g T0 j r P) (at_X7_writePlain_105 f g T0 j r P) (at_X7_writePlain_140 f g T0 j r P) S v2 v3) : at_X7_writePlain_97 f g T0 j r P S v2 v3 := by
  intro hT 
  unfold st_X7_writePlain_97 at h
  obtain ⟨x46, e_x46⟩ : ∃ z : Int32, z = v3 + 1 := ⟨_, rfl⟩
  replace h := h x46 e_x46
  refine ww_iinc (v := x46) (lv2 := [(3, .int x46), (0, .ref (gad g (148 + j))), (1, .ref (gad g r)), (2, .int v2)]) C dX7_writePlain_97 3 rfl (by rw [e_x46]; rfl) (Nat.le_of_ble_eq_true rfl) rfl ?_
  refine ww_goto (tgt := 28) C dX7_writePlain_100 (by decide) ?_
  exact ww_sub [1, 2, 3, 0] rfl (h hT)
set_option maxHeartbeats 4000000 in
set_option maxRecDepth 100000 in
theorem run_X7_writePlain_105 {f : Fx} {g : Gx} {T0 : List (Nat × Nat × Nat)} {S : St} {j : Nat} {r : Nat} {P : St → Prop} (C : Cx f g cX7_writePlain 5 RX7) (hrt : (fmeth f).sig.returnType = none) (hj : j < 2) (hr : r < 68) {v3 : Int32} (h : st_X7_writePlain_105 j r P (at_X7_writePlain_28 f g T0 j r P) (at_X7_writePlain_97 f g T0 j r P) (at_X7_writePlain_105 f g T0 j r P) (at_X7_writePlain_140 f g T0 j r P) S v3) : at_X7_writePlain_105 f g T0 j r P S v3 := by
  intro hT 
  unfold st_X7_writePlain_105 at h
  refine ww_iload_n C dX7_writePlain_105 2 rfl ?_
  refine ww_bipush (v := 7) C dX7_writePlain_106 (by decide) ?_
  refine ww_icmp_ge (tgt := 146) C dX7_writePlain_108 (by decide) (fun q47 => ?_) (fun q47 => ?_)
  · replace h := h.1 q47
    exact ww_vret C hrt dX7_writePlain_146 hT h
  · replace h := h.2 q47
    refine ww_aload_n C dX7_writePlain_111 0 rfl ?_
    refine ww_iload_n C dX7_writePlain_112 2 rfl ?_
    refine ww_cVi (As := [.int v3]) (rest := []) C ok_X3_hasTable bw_636 dX7_writePlain_113 (run_X3_hasTable hj (fun _ => h)) (rc_Font hj) rfl ⟨Nat.le_of_ble_eq_true rfl, Nat.le_of_ble_eq_true rfl⟩ (Nat.le_of_ble_eq_true rfl) (c2 := 0) (s2 := 0) rfl rfl ⟨Nat.le_of_ble_eq_true rfl, Nat.le_of_ble_eq_true rfl⟩ rfl (fun r49 S48 hp hTg => ?_)
    replace h := hp
    have hT_S48 : S48.2.2.1 = T0 := by rw [hTg]; exact hT
    refine ww_if_eq (tgt := 140) C dX7_writePlain_116 (by decide) (fun q50 => ?_) (fun q50 => ?_)
    · replace h := h.1 q50
      exact ww_sub [0, 1, 2] rfl (h hT_S48)
    · replace h := h.2 q50
      refine ww_aload_n C dX7_writePlain_119 1 rfl ?_
      refine ww_aload_n C dX7_writePlain_120 0 rfl ?_
      refine ww_iload_n C dX7_writePlain_121 2 rfl ?_
      refine ww_cVr (As := [.int v3]) (rest := [.ref (gad g r)]) C ok_X3_tableRow bw_469 dX7_writePlain_122 (cm_X3_tableRow hj) (rc_Font hj) rfl ⟨Nat.le_of_ble_eq_true rfl, Nat.le_of_ble_eq_true rfl⟩ (Nat.le_of_ble_eq_true rfl) (c2 := 0) (s2 := 0) rfl rfl ⟨Nat.le_of_ble_eq_true rfl, Nat.le_of_ble_eq_true rfl⟩ rfl ?_
      refine ww_cVg (As := [.ref (gad g (rwId S48 j v3))]) (rest := []) C ok_X8_addRow bw_647 dX7_writePlain_125 (cm_X8_addRow hr (rwId_lt hj) h.1) (rc_Row hr) rfl ⟨Nat.le_of_ble_eq_true rfl, Nat.le_of_ble_eq_true rfl⟩ (Nat.le_of_ble_eq_true rfl) (c2 := 0) (s2 := 0) rfl rfl ⟨Nat.le_of_ble_eq_true rfl, Nat.le_of_ble_eq_true rfl⟩ rfl (fun hTg => ?_)
      replace h := h.2
      refine ww_nm (fun S51 e_S51 => ?_)
      replace h := h S51 e_S51
      have hT_S51 : S51.2.2.1 = T0 := by rw [e_S51, hTg]; exact hT_S48
      refine ww_aload_n C dX7_writePlain_128 1 rfl ?_
      refine ww_aload_n C dX7_writePlain_129 0 rfl ?_
      refine ww_iload_n C dX7_writePlain_130 2 rfl ?_
      refine ww_cVr (As := [.int v3]) (rest := [.ref (gad g r)]) C ok_X3_tableRow bw_469 dX7_writePlain_131 (cm_X3_tableRow hj) (rc_Font hj) rfl ⟨Nat.le_of_ble_eq_true rfl, Nat.le_of_ble_eq_true rfl⟩ (Nat.le_of_ble_eq_true rfl) (c2 := 0) (s2 := 0) rfl rfl ⟨Nat.le_of_ble_eq_true rfl, Nat.le_of_ble_eq_true rfl⟩ rfl ?_
      refine ww_cSi (As := [.ref (gad g (rwId S51 j v3))]) (rest := [.ref (gad g r)]) C ok_X7_fillOf bw_641 dX7_writePlain_134 (run_X7_fillOf (rwId_lt hj) (fun _ => h)) rfl ⟨Nat.le_of_ble_eq_true rfl, Nat.le_of_ble_eq_true rfl⟩ (Nat.le_of_ble_eq_true rfl) (c2 := 0) (s2 := 0) rfl rfl ⟨Nat.le_of_ble_eq_true rfl, Nat.le_of_ble_eq_true rfl⟩ rfl (fun r53 S52 hp hTg => ?_)
      replace h := hp
      have hT_S52 : S52.2.2.1 = T0 := by rw [hTg]; exact hT_S51
      refine ww_cVg (As := [.int r53]) (rest := []) C ok_X8_addZeros bw_523 dX7_writePlain_137 (cm_X8_addZeros hr) (rc_Row hr) rfl ⟨Nat.le_of_ble_eq_true rfl, Nat.le_of_ble_eq_true rfl⟩ (Nat.le_of_ble_eq_true rfl) (c2 := 0) (s2 := 0) rfl rfl ⟨Nat.le_of_ble_eq_true rfl, Nat.le_of_ble_eq_true rfl⟩ rfl (fun hTg => ?_)
      refine ww_nm (fun S54 e_S54 => ?_)
      replace h := h S54 e_S54
      have hT_S54 : S54.2.2.1 = T0 := by rw [e_S54, hTg]; exact hT_S52
      exact ww_sub [0, 1, 2] rfl (h hT_S54)
set_option maxHeartbeats 4000000 in
set_option maxRecDepth 100000 in
theorem run_X7_writePlain_140 {f : Fx} {g : Gx} {T0 : List (Nat × Nat × Nat)} {S : St} {j : Nat} {r : Nat} {P : St → Prop} (C : Cx f g cX7_writePlain 5 RX7) (hrt : (fmeth f).sig.returnType = none) (hj : j < 2) (hr : r < 68) {v3 : Int32} (h : st_X7_writePlain_140 j r P (at_X7_writePlain_28 f g T0 j r P) (at_X7_writePlain_97 f g T0 j r P) (at_X7_writePlain_105 f g T0 j r P) (at_X7_writePlain_140 f g T0 j r P) S v3) : at_X7_writePlain_140 f g T0 j r P S v3 := by
  intro hT 
  unfold st_X7_writePlain_140 at h
  obtain ⟨x55, e_x55⟩ : ∃ z : Int32, z = v3 + 1 := ⟨_, rfl⟩
  replace h := h x55 e_x55
  refine ww_iinc (v := x55) (lv2 := [(3, .int x55), (0, .ref (gad g (148 + j))), (1, .ref (gad g r))]) C dX7_writePlain_140 2 rfl (by rw [e_x55]; rfl) (Nat.le_of_ble_eq_true rfl) rfl ?_
  refine ww_goto (tgt := 105) C dX7_writePlain_143 (by decide) ?_
  exact ww_sub [1, 2, 0] rfl (h hT)
def wp_X7_writePlain (S : St) (j : Nat) (r : Nat) (P : St → Prop) : Prop :=
  ∀ (X28 : St → Int32 → Int32 → Prop) (X97 : St → Int32 → Int32 → Prop) (X105 : St → Int32 → Prop) (X140 : St → Int32 → Prop), (∀ S v2 v3, st_X7_writePlain_28 j r P X28 X97 X105 X140 S v2 v3 → X28 S v2 v3) → (∀ S v2 v3, st_X7_writePlain_97 j r P X28 X97 X105 X140 S v2 v3 → X97 S v2 v3) → (∀ S v3, st_X7_writePlain_105 j r P X28 X97 X105 X140 S v3 → X105 S v3) → (∀ S v3, st_X7_writePlain_140 j r P X28 X97 X105 X140 S v3 → X140 S v3) → wp_X7_makeTables S j (fun S56 => ∀ S58 : St, S58 = rMake S56 r → wp_X3_tableCount S58 j (fun r60 S59 => ∀ S61 : St, S61 = rAdd S59 r r60 → wp_X3_tableCount S61 j (fun r63 S62 => ∀ x64 : Int32, x64 = 1 + (9 * r63) → X28 S62 x64 0)))
set_option maxHeartbeats 4000000 in
set_option maxRecDepth 100000 in
theorem run_X7_writePlain {l : Launch} {g : Gx} {S : St} {j : Nat} {r : Nat} {P : St → Prop} (hj : j < 2) (hr : r < 68) (h : rowsLe S → wp_X7_writePlain S j r P) : CMv g l yX7_writePlain cX7_writePlain 5 none rm_X7_writePlain [.ref (gad g (148 + j)), .ref (gad g r)] S P := cm_entry (own := RX7) (plainFor_of_name (by decide)) rfl (Nat.le_of_ble_eq_true rfl) rfl (fun hle f hf C hrt => by
  subst hf
  replace h := h hle
  obtain ⟨T0, hT⟩ : ∃ T, S.2.2.1 = T := ⟨_, rfl⟩
  rw [hT]
  replace h := h (at_X7_writePlain_28 f g T0 j r P) (at_X7_writePlain_97 f g T0 j r P) (at_X7_writePlain_105 f g T0 j r P) (at_X7_writePlain_140 f g T0 j r P) (fun S v2 v3 h => run_X7_writePlain_28 C hrt hj hr h) (fun S v2 v3 h => run_X7_writePlain_97 C hrt hj hr h) (fun S v3 h => run_X7_writePlain_105 C hrt hj hr h) (fun S v3 h => run_X7_writePlain_140 C hrt hj hr h)
  refine ww_aload_n C dX7_writePlain_0 0 rfl ?_
  refine ww_cSv (As := [.ref (gad g (148 + j))]) (rest := []) C ok_X7_makeTables bw_634 dX7_writePlain_1 (run_X7_makeTables hj (fun _ => h)) rfl ⟨Nat.le_of_ble_eq_true rfl, Nat.le_of_ble_eq_true rfl⟩ (Nat.le_of_ble_eq_true rfl) (c2 := 0) (s2 := 0) rfl rfl ⟨Nat.le_of_ble_eq_true rfl, Nat.le_of_ble_eq_true rfl⟩ rfl (fun S56 hp hTg => ?_)
  replace h := hp
  have hT_S56 : S56.2.2.1 = T0 := by rw [hTg]; exact hT
  refine ww_aload_n C dX7_writePlain_4 1 rfl ?_
  refine ww_cVg (As := []) (rest := []) C ok_X8_makeEmpty bw_470 dX7_writePlain_5 (cm_X8_makeEmpty hr) (rc_Row hr) rfl ⟨Nat.le_of_ble_eq_true rfl, Nat.le_of_ble_eq_true rfl⟩ (Nat.le_of_ble_eq_true rfl) (c2 := 0) (s2 := 0) rfl rfl ⟨Nat.le_of_ble_eq_true rfl, Nat.le_of_ble_eq_true rfl⟩ rfl (fun hTg => ?_)
  refine ww_nm (fun S58 e_S58 => ?_)
  replace h := h S58 e_S58
  have hT_S58 : S58.2.2.1 = T0 := by rw [e_S58, hTg]; exact hT_S56
  refine ww_aload_n C dX7_writePlain_8 1 rfl ?_
  refine ww_aload_n C dX7_writePlain_9 0 rfl ?_
  refine ww_cVi (As := []) (rest := [.ref (gad g r)]) C ok_X3_tableCount bw_635 dX7_writePlain_10 (run_X3_tableCount hj (fun _ => h)) (rc_Font hj) rfl ⟨Nat.le_of_ble_eq_true rfl, Nat.le_of_ble_eq_true rfl⟩ (Nat.le_of_ble_eq_true rfl) (c2 := 0) (s2 := 0) rfl rfl ⟨Nat.le_of_ble_eq_true rfl, Nat.le_of_ble_eq_true rfl⟩ rfl (fun r60 S59 hp hTg => ?_)
  replace h := hp
  have hT_S59 : S59.2.2.1 = T0 := by rw [hTg]; exact hT_S58
  refine ww_cVg (As := [.int r60]) (rest := []) C ok_X8_add bw_483 dX7_writePlain_13 (cm_X8_add hr) (rc_Row hr) rfl ⟨Nat.le_of_ble_eq_true rfl, Nat.le_of_ble_eq_true rfl⟩ (Nat.le_of_ble_eq_true rfl) (c2 := 0) (s2 := 0) rfl rfl ⟨Nat.le_of_ble_eq_true rfl, Nat.le_of_ble_eq_true rfl⟩ rfl (fun hTg => ?_)
  refine ww_nm (fun S61 e_S61 => ?_)
  replace h := h S61 e_S61
  have hT_S61 : S61.2.2.1 = T0 := by rw [e_S61, hTg]; exact hT_S59
  refine ww_iconst (v := 1) C dX7_writePlain_16 (by decide) ?_
  refine ww_bipush (v := 9) C dX7_writePlain_17 (by decide) ?_
  refine ww_aload_n C dX7_writePlain_19 0 rfl ?_
  refine ww_cVi (As := []) (rest := [.int 9, .int 1]) C ok_X3_tableCount bw_635 dX7_writePlain_20 (run_X3_tableCount hj (fun _ => h)) (rc_Font hj) rfl ⟨Nat.le_of_ble_eq_true rfl, Nat.le_of_ble_eq_true rfl⟩ (Nat.le_of_ble_eq_true rfl) (c2 := 0) (s2 := 0) rfl rfl ⟨Nat.le_of_ble_eq_true rfl, Nat.le_of_ble_eq_true rfl⟩ rfl (fun r63 S62 hp hTg => ?_)
  replace h := hp
  have hT_S62 : S62.2.2.1 = T0 := by rw [hTg]; exact hT_S61
  refine ww_imul C dX7_writePlain_23 ?_
  refine ww_iadd C dX7_writePlain_24 ?_
  refine ww_topi (fun x64 e_x64 => ?_)
  replace h := h x64 e_x64
  refine ww_istore_n (lv2 := [(2, .int x64), (0, .ref (gad g (148 + j))), (1, .ref (gad g r))]) C dX7_writePlain_25 rfl (Nat.le_of_ble_eq_true rfl) rfl ?_
  refine ww_iconst (v := 0) C dX7_writePlain_26 (by decide) ?_
  refine ww_istore_n (lv2 := [(3, .int 0), (2, .int x64), (0, .ref (gad g (148 + j))), (1, .ref (gad g r))]) C dX7_writePlain_27 rfl (Nat.le_of_ble_eq_true rfl) rfl ?_
  exact ww_sub [2, 3, 1, 0] rfl (h hT_S62))
