abbrev rm_X4_begin : Room := { frames := 1, cells := 0, slots := 0, locals := 20 }
theorem ok_X4_begin : MOK yX4_begin RX4 cX4_begin 2 none 1 := ⟨bw_379, bw_380, bw_68, bw_381, by decide +kernel⟩
def wp_X4_begin (S : St) (q : Nat) (a : Int32) (P : St → Prop) : Prop :=
  ∀ S6 : St, S6 = stM S 0 q a → ∀ S7 : St, S7 = rMake S6 (4 * q) → ∀ S8 : St, S8 = rMake S7 (4 * q + 1) → ∀ S9 : St, S9 = rMake S8 (4 * q + 2) → ∀ S10 : St, S10 = rMake S9 (4 * q + 3) → P S10
set_option maxHeartbeats 4000000 in
set_option maxRecDepth 100000 in
theorem run_X4_begin {l : Launch} {g : Gx} {S : St} {q : Nat} {a : Int32} {P : St → Prop} (hq : q < 12) (h : rowsLe S → wp_X4_begin S q a P) : CMv g l yX4_begin cX4_begin 2 none rm_X4_begin [.ref (gad g (136 + q)), .int a] S P := cm_entry (own := RX4) (plainFor_of_name (by decide)) rfl (Nat.le_of_ble_eq_true rfl) rfl (fun hle f hf C hrt => by
  subst hf
  replace h := h hle
  obtain ⟨T0, hT⟩ : ∃ T, S.2.2.1 = T := ⟨_, rfl⟩
  rw [hT]
  unfold wp_X4_begin at h
  refine ww_aload_n C dX4_begin_0 0 rfl ?_
  refine ww_iload_n C dX4_begin_1 1 rfl ?_
  refine pf_Glyph_advance C (q := q) hq bw_183 dX4_begin_2 ?_
  refine ww_nm (fun S6 e_S6 => ?_)
  replace h := h S6 e_S6
  have hT_S6 : S6.2.2.1 = T0 := by rw [e_S6]; exact hT
  refine ww_aload_n C dX4_begin_5 0 rfl ?_
  refine gf_Glyph_sizes C (q := q) hq bw_179 dX4_begin_6 ?_
  refine ww_cVg (As := []) (rest := []) C ok_X8_makeEmpty bw_382 dX4_begin_9 (cm_X8_makeEmpty (g4_0 hq)) (rc_Row (g4_0 hq)) rfl ⟨Nat.le_of_ble_eq_true rfl, Nat.le_of_ble_eq_true rfl⟩ (Nat.le_of_ble_eq_true rfl) (c2 := 0) (s2 := 0) rfl rfl ⟨Nat.le_of_ble_eq_true rfl, Nat.le_of_ble_eq_true rfl⟩ rfl (fun hTg => ?_)
  refine ww_nm (fun S7 e_S7 => ?_)
  replace h := h S7 e_S7
  have hT_S7 : S7.2.2.1 = T0 := by rw [e_S7, hTg]; exact hT_S6
  refine ww_aload_n C dX4_begin_12 0 rfl ?_
  refine gf_Glyph_xs C (q := q) hq bw_180 dX4_begin_13 ?_
  refine ww_cVg (As := []) (rest := []) C ok_X8_makeEmpty bw_382 dX4_begin_16 (cm_X8_makeEmpty (g4_1 hq)) (rc_Row (g4_1 hq)) rfl ⟨Nat.le_of_ble_eq_true rfl, Nat.le_of_ble_eq_true rfl⟩ (Nat.le_of_ble_eq_true rfl) (c2 := 0) (s2 := 0) rfl rfl ⟨Nat.le_of_ble_eq_true rfl, Nat.le_of_ble_eq_true rfl⟩ rfl (fun hTg => ?_)
  refine ww_nm (fun S8 e_S8 => ?_)
  replace h := h S8 e_S8
  have hT_S8 : S8.2.2.1 = T0 := by rw [e_S8, hTg]; exact hT_S7
  refine ww_aload_n C dX4_begin_19 0 rfl ?_
  refine gf_Glyph_ys C (q := q) hq bw_181 dX4_begin_20 ?_
  refine ww_cVg (As := []) (rest := []) C ok_X8_makeEmpty bw_382 dX4_begin_23 (cm_X8_makeEmpty (g4_2 hq)) (rc_Row (g4_2 hq)) rfl ⟨Nat.le_of_ble_eq_true rfl, Nat.le_of_ble_eq_true rfl⟩ (Nat.le_of_ble_eq_true rfl) (c2 := 0) (s2 := 0) rfl rfl ⟨Nat.le_of_ble_eq_true rfl, Nat.le_of_ble_eq_true rfl⟩ rfl (fun hTg => ?_)
  refine ww_nm (fun S9 e_S9 => ?_)
  replace h := h S9 e_S9
  have hT_S9 : S9.2.2.1 = T0 := by rw [e_S9, hTg]; exact hT_S8
  refine ww_aload_n C dX4_begin_26 0 rfl ?_
  refine gf_Glyph_ons C (q := q) hq bw_182 dX4_begin_27 ?_
  refine ww_cVg (As := []) (rest := []) C ok_X8_makeEmpty bw_382 dX4_begin_30 (cm_X8_makeEmpty (g4_3 hq)) (rc_Row (g4_3 hq)) rfl ⟨Nat.le_of_ble_eq_true rfl, Nat.le_of_ble_eq_true rfl⟩ (Nat.le_of_ble_eq_true rfl) (c2 := 0) (s2 := 0) rfl rfl ⟨Nat.le_of_ble_eq_true rfl, Nat.le_of_ble_eq_true rfl⟩ rfl (fun hTg => ?_)
  refine ww_nm (fun S10 e_S10 => ?_)
  replace h := h S10 e_S10
  have hT_S10 : S10.2.2.1 = T0 := by rw [e_S10, hTg]; exact hT_S9
  exact ww_vret C hrt dX4_begin_33 hT_S10 h)
def fs_X4_begin (S : St) (q : Nat) (a : Int32)  : St := ((rMake (rMake (rMake (rMake (stM S 0 q a) (4 * q)) (4 * q + 1)) (4 * q + 2)) (4 * q + 3)))
set_option maxHeartbeats 4000000 in
set_option maxRecDepth 100000 in
theorem sp_X4_begin {S : St} {q : Nat} {a : Int32}  {P : St → Prop} (h : P  (fs_X4_begin S q a )) : wp_X4_begin S q a P := by
  unfold wp_X4_begin
  unfold fs_X4_begin at h
  intro S6 e_S6
  subst e_S6
  intro S7 e_S7
  subst e_S7
  intro S8 e_S8
  subst e_S8
  intro S9 e_S9
  subst e_S9
  intro S10 e_S10
  subst e_S10
  exact h
theorem cm_X4_begin {l : Launch} {g : Gx} {S : St} {q : Nat} {a : Int32} (hq : q < 12) : CMv g l yX4_begin cX4_begin 2 none rm_X4_begin [.ref (gad g (136 + q)), .int a] S (fun S2 => S2 = fs_X4_begin S q a) := run_X4_begin hq (fun _ => sp_X4_begin rfl)
abbrev rm_X4_advance : Room := { frames := 0, cells := 0, slots := 0, locals := 0 }
theorem ok_X4_advance : MOK yX4_advance RX4 cX4_advance 1 (some .int) 0 := ⟨bw_475, bw_476, bw_68, bw_477, by decide +kernel⟩
def wp_X4_advance (S : St) (q : Nat) (P : Int32 → St → Prop) : Prop :=
  P (S.2.1 0 q) S
set_option maxHeartbeats 4000000 in
set_option maxRecDepth 100000 in
theorem run_X4_advance {l : Launch} {g : Gx} {S : St} {q : Nat} {P : Int32 → St → Prop} (hq : q < 12) (h : rowsLe S → wp_X4_advance S q P) : CMi g l yX4_advance cX4_advance 1 (some .int) rm_X4_advance [.ref (gad g (136 + q))] S P := cm_entry (own := RX4) (plainFor_of_name (by decide)) rfl (Nat.le_of_ble_eq_true rfl) rfl (fun hle f hf C hrt => by
  subst hf
  replace h := h hle
  obtain ⟨T0, hT⟩ : ∃ T, S.2.2.1 = T := ⟨_, rfl⟩
  rw [hT]
  unfold wp_X4_advance at h
  refine ww_aload_n C dX4_advance_0 0 rfl ?_
  refine gf_Glyph_advance C (q := q) hq bw_183 dX4_advance_1 ?_
  exact ww_iret C hrt dX4_advance_4 hT h)
def fv_X4_advance (S : St) (q : Nat)  : Int32 := (S.2.1 0 q)
set_option maxHeartbeats 4000000 in
set_option maxRecDepth 100000 in
theorem sp_X4_advance {S : St} {q : Nat}  {P : Int32 → St → Prop} (h : P (fv_X4_advance S q ) S) : wp_X4_advance S q P := by
  unfold wp_X4_advance
  unfold fv_X4_advance at h
  exact h
theorem cm_X4_advance {l : Launch} {g : Gx} {S : St} {q : Nat} (hq : q < 12) : CMi g l yX4_advance cX4_advance 1 (some .int) rm_X4_advance [.ref (gad g (136 + q))] S (fun v S2 => v = fv_X4_advance S q ∧ S2 = S) := run_X4_advance hq (fun _ => sp_X4_advance ⟨rfl, rfl⟩)
abbrev rm_X4_changeAdvance : Room := { frames := 0, cells := 0, slots := 0, locals := 0 }
theorem ok_X4_changeAdvance : MOK yX4_changeAdvance RX4 cX4_changeAdvance 2 none 1 := ⟨bw_813, bw_814, bw_68, bw_815, by decide +kernel⟩
def wp_X4_changeAdvance (S : St) (q : Nat) (a : Int32) (P : St → Prop) : Prop :=
  ∀ S2 : St, S2 = stM S 0 q a → P S2
set_option maxHeartbeats 4000000 in
set_option maxRecDepth 100000 in
theorem run_X4_changeAdvance {l : Launch} {g : Gx} {S : St} {q : Nat} {a : Int32} {P : St → Prop} (hq : q < 12) (h : rowsLe S → wp_X4_changeAdvance S q a P) : CMv g l yX4_changeAdvance cX4_changeAdvance 2 none rm_X4_changeAdvance [.ref (gad g (136 + q)), .int a] S P := cm_entry (own := RX4) (plainFor_of_name (by decide)) rfl (Nat.le_of_ble_eq_true rfl) rfl (fun hle f hf C hrt => by
  subst hf
  replace h := h hle
  obtain ⟨T0, hT⟩ : ∃ T, S.2.2.1 = T := ⟨_, rfl⟩
  rw [hT]
  unfold wp_X4_changeAdvance at h
  refine ww_aload_n C dX4_changeAdvance_0 0 rfl ?_
  refine ww_iload_n C dX4_changeAdvance_1 1 rfl ?_
  refine pf_Glyph_advance C (q := q) hq bw_183 dX4_changeAdvance_2 ?_
  refine ww_nm (fun S2 e_S2 => ?_)
  replace h := h S2 e_S2
  have hT_S2 : S2.2.2.1 = T0 := by rw [e_S2]; exact hT
  exact ww_vret C hrt dX4_changeAdvance_5 hT_S2 h)
def fs_X4_changeAdvance (S : St) (q : Nat) (a : Int32)  : St := ((stM S 0 q a))
set_option maxHeartbeats 4000000 in
set_option maxRecDepth 100000 in
theorem sp_X4_changeAdvance {S : St} {q : Nat} {a : Int32}  {P : St → Prop} (h : P  (fs_X4_changeAdvance S q a )) : wp_X4_changeAdvance S q a P := by
  unfold wp_X4_changeAdvance
  unfold fs_X4_changeAdvance at h
  intro S2 e_S2
  subst e_S2
  exact h
theorem cm_X4_changeAdvance {l : Launch} {g : Gx} {S : St} {q : Nat} {a : Int32} (hq : q < 12) : CMv g l yX4_changeAdvance cX4_changeAdvance 2 none rm_X4_changeAdvance [.ref (gad g (136 + q)), .int a] S (fun S2 => S2 = fs_X4_changeAdvance S q a) := run_X4_changeAdvance hq (fun _ => sp_X4_changeAdvance rfl)
abbrev rm_X4_contourCount : Room := { frames := 1, cells := 0, slots := 0, locals := 20 }
theorem ok_X4_contourCount : MOK yX4_contourCount RX4 cX4_contourCount 1 (some .int) 0 := ⟨bw_393, bw_394, bw_68, bw_395, by decide +kernel⟩
def wp_X4_contourCount (S : St) (q : Nat) (P : Int32 → St → Prop) : Prop :=
  P (rLen S (4 * q)) S
set_option maxHeartbeats 4000000 in
set_option maxRecDepth 100000 in
theorem run_X4_contourCount {l : Launch} {g : Gx} {S : St} {q : Nat} {P : Int32 → St → Prop} (hq : q < 12) (h : rowsLe S → wp_X4_contourCount S q P) : CMi g l yX4_contourCount cX4_contourCount 1 (some .int) rm_X4_contourCount [.ref (gad g (136 + q))] S P := cm_entry (own := RX4) (plainFor_of_name (by decide)) rfl (Nat.le_of_ble_eq_true rfl) rfl (fun hle f hf C hrt => by
  subst hf
  replace h := h hle
  obtain ⟨T0, hT⟩ : ∃ T, S.2.2.1 = T := ⟨_, rfl⟩
  rw [hT]
  unfold wp_X4_contourCount at h
  refine ww_aload_n C dX4_contourCount_0 0 rfl ?_
  refine gf_Glyph_sizes C (q := q) hq bw_179 dX4_contourCount_1 ?_
  refine ww_cVf (As := []) (rest := []) C ok_X8_length bw_361 dX4_contourCount_4 (cm_X8_length (g4_0 hq)) (rc_Row (g4_0 hq)) rfl ⟨Nat.le_of_ble_eq_true rfl, Nat.le_of_ble_eq_true rfl⟩ (Nat.le_of_ble_eq_true rfl) (c2 := 0) (s2 := 0) rfl rfl ⟨Nat.le_of_ble_eq_true rfl, Nat.le_of_ble_eq_true rfl⟩ rfl ?_
  exact ww_iret C hrt dX4_contourCount_7 hT h)
def fv_X4_contourCount (S : St) (q : Nat)  : Int32 := (rLen S (4 * q))
set_option maxHeartbeats 4000000 in
set_option maxRecDepth 100000 in
theorem sp_X4_contourCount {S : St} {q : Nat}  {P : Int32 → St → Prop} (h : P (fv_X4_contourCount S q ) S) : wp_X4_contourCount S q P := by
  unfold wp_X4_contourCount
  unfold fv_X4_contourCount at h
  exact h
theorem cm_X4_contourCount {l : Launch} {g : Gx} {S : St} {q : Nat} (hq : q < 12) : CMi g l yX4_contourCount cX4_contourCount 1 (some .int) rm_X4_contourCount [.ref (gad g (136 + q))] S (fun v S2 => v = fv_X4_contourCount S q ∧ S2 = S) := run_X4_contourCount hq (fun _ => sp_X4_contourCount ⟨rfl, rfl⟩)
abbrev rm_X4_contourSize : Room := { frames := 1, cells := 0, slots := 0, locals := 21 }
theorem ok_X4_contourSize : MOK yX4_contourSize RX4 cX4_contourSize 2 (some .int) 1 := ⟨bw_485, bw_486, bw_68, bw_487, by decide +kernel⟩
def wp_X4_contourSize (S : St) (q : Nat) (k : Int32) (P : Int32 → St → Prop) : Prop :=
  P (rGet S (4 * q) k) S
set_option maxHeartbeats 4000000 in
set_option maxRecDepth 100000 in
theorem run_X4_contourSize {l : Launch} {g : Gx} {S : St} {q : Nat} {k : Int32} {P : Int32 → St → Prop} (hq : q < 12) (h : rowsLe S → wp_X4_contourSize S q k P) : CMi g l yX4_contourSize cX4_contourSize 2 (some .int) rm_X4_contourSize [.ref (gad g (136 + q)), .int k] S P := cm_entry (own := RX4) (plainFor_of_name (by decide)) rfl (Nat.le_of_ble_eq_true rfl) rfl (fun hle f hf C hrt => by
  subst hf
  replace h := h hle
  obtain ⟨T0, hT⟩ : ∃ T, S.2.2.1 = T := ⟨_, rfl⟩
  rw [hT]
  unfold wp_X4_contourSize at h
  refine ww_aload_n C dX4_contourSize_0 0 rfl ?_
  refine gf_Glyph_sizes C (q := q) hq bw_179 dX4_contourSize_1 ?_
  refine ww_iload_n C dX4_contourSize_4 1 rfl ?_
  refine ww_cVf (As := [.int k]) (rest := []) C ok_X8_get bw_488 dX4_contourSize_5 (cm_X8_get (g4_0 hq)) (rc_Row (g4_0 hq)) rfl ⟨Nat.le_of_ble_eq_true rfl, Nat.le_of_ble_eq_true rfl⟩ (Nat.le_of_ble_eq_true rfl) (c2 := 0) (s2 := 0) rfl rfl ⟨Nat.le_of_ble_eq_true rfl, Nat.le_of_ble_eq_true rfl⟩ rfl ?_
  exact ww_iret C hrt dX4_contourSize_8 hT h)
def fv_X4_contourSize (S : St) (q : Nat) (k : Int32)  : Int32 := (rGet S (4 * q) k)
set_option maxHeartbeats 4000000 in
set_option maxRecDepth 100000 in
theorem sp_X4_contourSize {S : St} {q : Nat} {k : Int32}  {P : Int32 → St → Prop} (h : P (fv_X4_contourSize S q k ) S) : wp_X4_contourSize S q k P := by
  unfold wp_X4_contourSize
  unfold fv_X4_contourSize at h
  exact h
theorem cm_X4_contourSize {l : Launch} {g : Gx} {S : St} {q : Nat} {k : Int32} (hq : q < 12) : CMi g l yX4_contourSize cX4_contourSize 2 (some .int) rm_X4_contourSize [.ref (gad g (136 + q)), .int k] S (fun v S2 => v = fv_X4_contourSize S q k ∧ S2 = S) := run_X4_contourSize hq (fun _ => sp_X4_contourSize ⟨rfl, rfl⟩)
abbrev rm_X4_pointCount : Room := { frames := 1, cells := 0, slots := 0, locals := 20 }
theorem ok_X4_pointCount : MOK yX4_pointCount RX4 cX4_pointCount 1 (some .int) 0 := ⟨bw_398, bw_399, bw_68, bw_400, by decide +kernel⟩
def wp_X4_pointCount (S : St) (q : Nat) (P : Int32 → St → Prop) : Prop :=
  P (rLen S (4 * q + 1)) S
set_option maxHeartbeats 4000000 in
set_option maxRecDepth 100000 in
theorem run_X4_pointCount {l : Launch} {g : Gx} {S : St} {q : Nat} {P : Int32 → St → Prop} (hq : q < 12) (h : rowsLe S → wp_X4_pointCount S q P) : CMi g l yX4_pointCount cX4_pointCount 1 (some .int) rm_X4_pointCount [.ref (gad g (136 + q))] S P := cm_entry (own := RX4) (plainFor_of_name (by decide)) rfl (Nat.le_of_ble_eq_true rfl) rfl (fun hle f hf C hrt => by
  subst hf
  replace h := h hle
  obtain ⟨T0, hT⟩ : ∃ T, S.2.2.1 = T := ⟨_, rfl⟩
  rw [hT]
  unfold wp_X4_pointCount at h
  refine ww_aload_n C dX4_pointCount_0 0 rfl ?_
  refine gf_Glyph_xs C (q := q) hq bw_180 dX4_pointCount_1 ?_
  refine ww_cVf (As := []) (rest := []) C ok_X8_length bw_361 dX4_pointCount_4 (cm_X8_length (g4_1 hq)) (rc_Row (g4_1 hq)) rfl ⟨Nat.le_of_ble_eq_true rfl, Nat.le_of_ble_eq_true rfl⟩ (Nat.le_of_ble_eq_true rfl) (c2 := 0) (s2 := 0) rfl rfl ⟨Nat.le_of_ble_eq_true rfl, Nat.le_of_ble_eq_true rfl⟩ rfl ?_
  exact ww_iret C hrt dX4_pointCount_7 hT h)
def fv_X4_pointCount (S : St) (q : Nat)  : Int32 := (rLen S (4 * q + 1))
set_option maxHeartbeats 4000000 in
set_option maxRecDepth 100000 in
theorem sp_X4_pointCount {S : St} {q : Nat}  {P : Int32 → St → Prop} (h : P (fv_X4_pointCount S q ) S) : wp_X4_pointCount S q P := by
  unfold wp_X4_pointCount
  unfold fv_X4_pointCount at h
  exact h
theorem cm_X4_pointCount {l : Launch} {g : Gx} {S : St} {q : Nat} (hq : q < 12) : CMi g l yX4_pointCount cX4_pointCount 1 (some .int) rm_X4_pointCount [.ref (gad g (136 + q))] S (fun v S2 => v = fv_X4_pointCount S q ∧ S2 = S) := run_X4_pointCount hq (fun _ => sp_X4_pointCount ⟨rfl, rfl⟩)
abbrev rm_X4_hasEmptyContour : Room := { frames := 2, cells := 0, slots := 0, locals := 41 }
theorem ok_X4_hasEmptyContour : MOK yX4_hasEmptyContour RX4 cX4_hasEmptyContour 1 (some .boolean) 0 := ⟨bw_358, bw_359, bw_68, bw_360, by decide +kernel⟩
def wp_X4_hasEmptyContour_25 (q : Nat) (S : St) (s0 : Int32) (P : Int32 → St → Prop) : Prop :=
  ((s0 = 0 ∨ s0 = 1) ∧ P s0 S)
set_option maxHeartbeats 4000000 in
set_option maxRecDepth 100000 in
theorem run_X4_hasEmptyContour_25 {f : Fx} {g : Gx} {T0 : List (Nat × Nat × Nat)} {S : St} {q : Nat} {P : Int32 → St → Prop} (C : Cx f g cX4_hasEmptyContour 1 RX4) (hrt : (fmeth f).sig.returnType = (some .boolean)) (hq : q < 12) {s0 : Int32} (hT : S.2.2.1 = T0)  (h : wp_X4_hasEmptyContour_25 q S s0 P) : WW f rm_X4_hasEmptyContour g 1 0 0 (Qi f g 0 0 T0 P) S 25 [] [.int s0] := by
  unfold wp_X4_hasEmptyContour_25 at h
  exact ww_zret C hrt dX4_hasEmptyContour_25 hT h.1 h.2
def wp_X4_hasEmptyContour_24 (q : Nat) (S : St)  (P : Int32 → St → Prop) : Prop :=
  wp_X4_hasEmptyContour_25 q S 0 P
set_option maxHeartbeats 4000000 in
set_option maxRecDepth 100000 in
theorem run_X4_hasEmptyContour_24 {f : Fx} {g : Gx} {T0 : List (Nat × Nat × Nat)} {S : St} {q : Nat} {P : Int32 → St → Prop} (C : Cx f g cX4_hasEmptyContour 1 RX4) (hrt : (fmeth f).sig.returnType = (some .boolean)) (hq : q < 12)  (hT : S.2.2.1 = T0)  (h : wp_X4_hasEmptyContour_24 q S  P) : WW f rm_X4_hasEmptyContour g 1 0 0 (Qi f g 0 0 T0 P) S 24 [] [] := by
  unfold wp_X4_hasEmptyContour_24 at h
  refine ww_iconst (v := 0) C dX4_hasEmptyContour_24 (by decide) ?_
  exact ww_sub [] rfl (run_X4_hasEmptyContour_25 C hrt hq hT  h)
def wp_X4_hasEmptyContour (S : St) (q : Nat) (P : Int32 → St → Prop) : Prop :=
  (((rLen S (4 * q)) ≤ 0 → wp_X4_hasEmptyContour_24 q S  P) ∧ (¬ (rLen S (4 * q)) ≤ 0 → ((¬ (rLatest S (4 * q)) = 0 → wp_X4_hasEmptyContour_24 q S  P) ∧ ((rLatest S (4 * q)) = 0 → wp_X4_hasEmptyContour_25 q S 1 P))))
set_option maxHeartbeats 4000000 in
set_option maxRecDepth 100000 in
theorem run_X4_hasEmptyContour {l : Launch} {g : Gx} {S : St} {q : Nat} {P : Int32 → St → Prop} (hq : q < 12) (h : rowsLe S → wp_X4_hasEmptyContour S q P) : CMi g l yX4_hasEmptyContour cX4_hasEmptyContour 1 (some .boolean) rm_X4_hasEmptyContour [.ref (gad g (136 + q))] S P := cm_entry (own := RX4) (plainFor_of_name (by decide)) rfl (Nat.le_of_ble_eq_true rfl) rfl (fun hle f hf C hrt => by
  subst hf
  replace h := h hle
  obtain ⟨T0, hT⟩ : ∃ T, S.2.2.1 = T := ⟨_, rfl⟩
  rw [hT]
  unfold wp_X4_hasEmptyContour at h
  refine ww_aload_n C dX4_hasEmptyContour_0 0 rfl ?_
  refine gf_Glyph_sizes C (q := q) hq bw_179 dX4_hasEmptyContour_1 ?_
  refine ww_cVf (As := []) (rest := []) C ok_X8_length bw_361 dX4_hasEmptyContour_4 (cm_X8_length (g4_0 hq)) (rc_Row (g4_0 hq)) rfl ⟨Nat.le_of_ble_eq_true rfl, Nat.le_of_ble_eq_true rfl⟩ (Nat.le_of_ble_eq_true rfl) (c2 := 0) (s2 := 0) rfl rfl ⟨Nat.le_of_ble_eq_true rfl, Nat.le_of_ble_eq_true rfl⟩ rfl ?_
  refine ww_if_le (tgt := 24) C dX4_hasEmptyContour_7 (by decide) (fun q3 => ?_) (fun q3 => ?_)
  · replace h := h.1 q3
    exact ww_sub [] rfl (run_X4_hasEmptyContour_24 C hrt hq hT  h)
  · replace h := h.2 q3
    refine ww_aload_n C dX4_hasEmptyContour_10 0 rfl ?_
    refine gf_Glyph_sizes C (q := q) hq bw_179 dX4_hasEmptyContour_11 ?_
    refine ww_cVf (As := []) (rest := []) C ok_X8_latest bw_365 dX4_hasEmptyContour_14 (cm_X8_latest (g4_0 hq)) (rc_Row (g4_0 hq)) rfl ⟨Nat.le_of_ble_eq_true rfl, Nat.le_of_ble_eq_true rfl⟩ (Nat.le_of_ble_eq_true rfl) (c2 := 0) (s2 := 0) rfl rfl ⟨Nat.le_of_ble_eq_true rfl, Nat.le_of_ble_eq_true rfl⟩ rfl ?_
    refine ww_if_ne (tgt := 24) C dX4_hasEmptyContour_17 (by decide) (fun q4 => ?_) (fun q4 => ?_)
    · replace h := h.1 q4
      exact ww_sub [] rfl (run_X4_hasEmptyContour_24 C hrt hq hT  h)
    · replace h := h.2 q4
      refine ww_iconst (v := 1) C dX4_hasEmptyContour_20 (by decide) ?_
      refine ww_goto (tgt := 25) C dX4_hasEmptyContour_21 (by decide) ?_
      exact ww_sub [] rfl (run_X4_hasEmptyContour_25 C hrt hq hT  h))
abbrev rm_X4_addContour : Room := { frames := 1, cells := 0, slots := 0, locals := 21 }
theorem ok_X4_addContour : MOK yX4_addContour RX4 cX4_addContour 1 (some .int) 0 := ⟨bw_403, bw_404, bw_68, bw_405, by decide +kernel⟩
def wp_X4_addContour (S : St) (q : Nat) (P : Int32 → St → Prop) : Prop :=
  ∀ S2 : St, S2 = rAdd S (4 * q) 0 → P ((rLen S2 (4 * q)) - 1) S2
set_option maxHeartbeats 4000000 in
set_option maxRecDepth 100000 in
theorem run_X4_addContour {l : Launch} {g : Gx} {S : St} {q : Nat} {P : Int32 → St → Prop} (hq : q < 12) (h : rowsLe S → wp_X4_addContour S q P) : CMi g l yX4_addContour cX4_addContour 1 (some .int) rm_X4_addContour [.ref (gad g (136 + q))] S P := cm_entry (own := RX4) (plainFor_of_name (by decide)) rfl (Nat.le_of_ble_eq_true rfl) rfl (fun hle f hf C hrt => by
  subst hf
  replace h := h hle
  obtain ⟨T0, hT⟩ : ∃ T, S.2.2.1 = T := ⟨_, rfl⟩
  rw [hT]
  unfold wp_X4_addContour at h
  refine ww_aload_n C dX4_addContour_0 0 rfl ?_
  refine gf_Glyph_sizes C (q := q) hq bw_179 dX4_addContour_1 ?_
  refine ww_iconst (v := 0) C dX4_addContour_4 (by decide) ?_
  refine ww_cVg (As := [.int 0]) (rest := []) C ok_X8_add bw_406 dX4_addContour_5 (cm_X8_add (g4_0 hq)) (rc_Row (g4_0 hq)) rfl ⟨Nat.le_of_ble_eq_true rfl, Nat.le_of_ble_eq_true rfl⟩ (Nat.le_of_ble_eq_true rfl) (c2 := 0) (s2 := 0) rfl rfl ⟨Nat.le_of_ble_eq_true rfl, Nat.le_of_ble_eq_true rfl⟩ rfl (fun hTg => ?_)
  refine ww_nm (fun S2 e_S2 => ?_)
  replace h := h S2 e_S2
  have hT_S2 : S2.2.2.1 = T0 := by rw [e_S2, hTg]; exact hT
  refine ww_aload_n C dX4_addContour_8 0 rfl ?_
  refine gf_Glyph_sizes C (q := q) hq bw_179 dX4_addContour_9 ?_
  refine ww_cVf (As := []) (rest := []) C ok_X8_length bw_361 dX4_addContour_12 (cm_X8_length (g4_0 hq)) (rc_Row (g4_0 hq)) rfl ⟨Nat.le_of_ble_eq_true rfl, Nat.le_of_ble_eq_true rfl⟩ (Nat.le_of_ble_eq_true rfl) (c2 := 0) (s2 := 0) rfl rfl ⟨Nat.le_of_ble_eq_true rfl, Nat.le_of_ble_eq_true rfl⟩ rfl ?_
  refine ww_iconst (v := 1) C dX4_addContour_15 (by decide) ?_
  refine ww_isub C dX4_addContour_16 ?_
  exact ww_iret C hrt dX4_addContour_17 hT_S2 h)
def fv_X4_addContour (S : St) (q : Nat)  : Int32 := ((rLen (rAdd S (4 * q) 0) (4 * q)) - 1)
def fs_X4_addContour (S : St) (q : Nat)  : St := ((rAdd S (4 * q) 0))
set_option maxHeartbeats 4000000 in
set_option maxRecDepth 100000 in
theorem sp_X4_addContour {S : St} {q : Nat}  {P : Int32 → St → Prop} (h : P (fv_X4_addContour S q ) (fs_X4_addContour S q )) : wp_X4_addContour S q P := by
  unfold wp_X4_addContour
  unfold fv_X4_addContour fs_X4_addContour at h
  intro S2 e_S2
  subst e_S2
  exact h
theorem cm_X4_addContour {l : Launch} {g : Gx} {S : St} {q : Nat} (hq : q < 12) : CMi g l yX4_addContour cX4_addContour 1 (some .int) rm_X4_addContour [.ref (gad g (136 + q))] S (fun v S2 => v = fv_X4_addContour S q ∧ S2 = fs_X4_addContour S q) := run_X4_addContour hq (fun _ => sp_X4_addContour ⟨rfl, rfl⟩)
abbrev rm_X4_growLatestContour : Room := { frames := 2, cells := 0, slots := 0, locals := 41 }
theorem ok_X4_growLatestContour : MOK yX4_growLatestContour RX4 cX4_growLatestContour 1 none 0 := ⟨bw_423, bw_424, bw_68, bw_425, by decide +kernel⟩
def wp_X4_growLatestContour (S : St) (q : Nat) (P : St → Prop) : Prop :=
  ∀ S2 : St, S2 = rChange S (4 * q) ((rLen S (4 * q)) - 1) ((rLatest S (4 * q)) + 1) → P S2
set_option maxHeartbeats 4000000 in
set_option maxRecDepth 100000 in
theorem run_X4_growLatestContour {l : Launch} {g : Gx} {S : St} {q : Nat} {P : St → Prop} (hq : q < 12) (h : rowsLe S → wp_X4_growLatestContour S q P) : CMv g l yX4_growLatestContour cX4_growLatestContour 1 none rm_X4_growLatestContour [.ref (gad g (136 + q))] S P := cm_entry (own := RX4) (plainFor_of_name (by decide)) rfl (Nat.le_of_ble_eq_true rfl) rfl (fun hle f hf C hrt => by
  subst hf
  replace h := h hle
  obtain ⟨T0, hT⟩ : ∃ T, S.2.2.1 = T := ⟨_, rfl⟩
  rw [hT]
  unfold wp_X4_growLatestContour at h
  refine ww_aload_n C dX4_growLatestContour_0 0 rfl ?_
  refine gf_Glyph_sizes C (q := q) hq bw_179 dX4_growLatestContour_1 ?_
  refine ww_aload_n C dX4_growLatestContour_4 0 rfl ?_
  refine gf_Glyph_sizes C (q := q) hq bw_179 dX4_growLatestContour_5 ?_
  refine ww_cVf (As := []) (rest := [.ref (gad g (4 * q))]) C ok_X8_length bw_361 dX4_growLatestContour_8 (cm_X8_length (g4_0 hq)) (rc_Row (g4_0 hq)) rfl ⟨Nat.le_of_ble_eq_true rfl, Nat.le_of_ble_eq_true rfl⟩ (Nat.le_of_ble_eq_true rfl) (c2 := 0) (s2 := 0) rfl rfl ⟨Nat.le_of_ble_eq_true rfl, Nat.le_of_ble_eq_true rfl⟩ rfl ?_
  refine ww_iconst (v := 1) C dX4_growLatestContour_11 (by decide) ?_
  refine ww_isub C dX4_growLatestContour_12 ?_
  refine ww_aload_n C dX4_growLatestContour_13 0 rfl ?_
  refine gf_Glyph_sizes C (q := q) hq bw_179 dX4_growLatestContour_14 ?_
  refine ww_cVf (As := []) (rest := [.int ((rLen S (4 * q)) - 1), .ref (gad g (4 * q))]) C ok_X8_latest bw_365 dX4_growLatestContour_17 (cm_X8_latest (g4_0 hq)) (rc_Row (g4_0 hq)) rfl ⟨Nat.le_of_ble_eq_true rfl, Nat.le_of_ble_eq_true rfl⟩ (Nat.le_of_ble_eq_true rfl) (c2 := 0) (s2 := 0) rfl rfl ⟨Nat.le_of_ble_eq_true rfl, Nat.le_of_ble_eq_true rfl⟩ rfl ?_
  refine ww_iconst (v := 1) C dX4_growLatestContour_20 (by decide) ?_
  refine ww_iadd C dX4_growLatestContour_21 ?_
  refine ww_cVg (As := [.int ((rLen S (4 * q)) - 1), .int ((rLatest S (4 * q)) + 1)]) (rest := []) C ok_X8_change bw_426 dX4_growLatestContour_22 (cm_X8_change (g4_0 hq)) (rc_Row (g4_0 hq)) rfl ⟨Nat.le_of_ble_eq_true rfl, Nat.le_of_ble_eq_true rfl⟩ (Nat.le_of_ble_eq_true rfl) (c2 := 0) (s2 := 0) rfl rfl ⟨Nat.le_of_ble_eq_true rfl, Nat.le_of_ble_eq_true rfl⟩ rfl (fun hTg => ?_)
  refine ww_nm (fun S2 e_S2 => ?_)
  replace h := h S2 e_S2
  have hT_S2 : S2.2.2.1 = T0 := by rw [e_S2, hTg]; exact hT
  exact ww_vret C hrt dX4_growLatestContour_25 hT_S2 h)
def fs_X4_growLatestContour (S : St) (q : Nat)  : St := ((rChange S (4 * q) ((rLen S (4 * q)) - 1) ((rLatest S (4 * q)) + 1)))
set_option maxHeartbeats 4000000 in
set_option maxRecDepth 100000 in
theorem sp_X4_growLatestContour {S : St} {q : Nat}  {P : St → Prop} (h : P  (fs_X4_growLatestContour S q )) : wp_X4_growLatestContour S q P := by
  unfold wp_X4_growLatestContour
  unfold fs_X4_growLatestContour at h
  intro S2 e_S2
  subst e_S2
  exact h
theorem cm_X4_growLatestContour {l : Launch} {g : Gx} {S : St} {q : Nat} (hq : q < 12) : CMv g l yX4_growLatestContour cX4_growLatestContour 1 none rm_X4_growLatestContour [.ref (gad g (136 + q))] S (fun S2 => S2 = fs_X4_growLatestContour S q) := run_X4_growLatestContour hq (fun _ => sp_X4_growLatestContour rfl)
abbrev rm_X4_changeContourSize : Room := { frames := 1, cells := 0, slots := 0, locals := 22 }
theorem ok_X4_changeContourSize : MOK yX4_changeContourSize RX4 cX4_changeContourSize 3 none 2 := ⟨bw_784, bw_785, bw_68, bw_786, by decide +kernel⟩
def wp_X4_changeContourSize (S : St) (q : Nat) (k : Int32) (n : Int32) (P : St → Prop) : Prop :=
  ∀ S2 : St, S2 = rChange S (4 * q) k n → P S2
set_option maxHeartbeats 4000000 in
set_option maxRecDepth 100000 in
theorem run_X4_changeContourSize {l : Launch} {g : Gx} {S : St} {q : Nat} {k : Int32} {n : Int32} {P : St → Prop} (hq : q < 12) (h : rowsLe S → wp_X4_changeContourSize S q k n P) : CMv g l yX4_changeContourSize cX4_changeContourSize 3 none rm_X4_changeContourSize [.ref (gad g (136 + q)), .int k, .int n] S P := cm_entry (own := RX4) (plainFor_of_name (by decide)) rfl (Nat.le_of_ble_eq_true rfl) rfl (fun hle f hf C hrt => by
  subst hf
  replace h := h hle
  obtain ⟨T0, hT⟩ : ∃ T, S.2.2.1 = T := ⟨_, rfl⟩
  rw [hT]
  unfold wp_X4_changeContourSize at h
  refine ww_aload_n C dX4_changeContourSize_0 0 rfl ?_
  refine gf_Glyph_sizes C (q := q) hq bw_179 dX4_changeContourSize_1 ?_
  refine ww_iload_n C dX4_changeContourSize_4 1 rfl ?_
  refine ww_iload_n C dX4_changeContourSize_5 2 rfl ?_
  refine ww_cVg (As := [.int k, .int n]) (rest := []) C ok_X8_change bw_426 dX4_changeContourSize_6 (cm_X8_change (g4_0 hq)) (rc_Row (g4_0 hq)) rfl ⟨Nat.le_of_ble_eq_true rfl, Nat.le_of_ble_eq_true rfl⟩ (Nat.le_of_ble_eq_true rfl) (c2 := 0) (s2 := 0) rfl rfl ⟨Nat.le_of_ble_eq_true rfl, Nat.le_of_ble_eq_true rfl⟩ rfl (fun hTg => ?_)
  refine ww_nm (fun S2 e_S2 => ?_)
  replace h := h S2 e_S2
  have hT_S2 : S2.2.2.1 = T0 := by rw [e_S2, hTg]; exact hT
  exact ww_vret C hrt dX4_changeContourSize_9 hT_S2 h)
def fs_X4_changeContourSize (S : St) (q : Nat) (k : Int32) (n : Int32)  : St := ((rChange S (4 * q) k n))
set_option maxHeartbeats 4000000 in
set_option maxRecDepth 100000 in
theorem sp_X4_changeContourSize {S : St} {q : Nat} {k : Int32} {n : Int32}  {P : St → Prop} (h : P  (fs_X4_changeContourSize S q k n )) : wp_X4_changeContourSize S q k n P := by
  unfold wp_X4_changeContourSize
  unfold fs_X4_changeContourSize at h
  intro S2 e_S2
  subst e_S2
  exact h
theorem cm_X4_changeContourSize {l : Launch} {g : Gx} {S : St} {q : Nat} {k : Int32} {n : Int32} (hq : q < 12) : CMv g l yX4_changeContourSize cX4_changeContourSize 3 none rm_X4_changeContourSize [.ref (gad g (136 + q)), .int k, .int n] S (fun S2 => S2 = fs_X4_changeContourSize S q k n) := run_X4_changeContourSize hq (fun _ => sp_X4_changeContourSize rfl)
abbrev rm_X4_addPoint : Room := { frames := 1, cells := 0, slots := 0, locals := 21 }
theorem ok_X4_addPoint : MOK yX4_addPoint RX4 cX4_addPoint 4 (some .int) 3 := ⟨bw_431, bw_432, bw_68, bw_433, by decide +kernel⟩
def wp_X4_addPoint_29 (q : Nat) (x : Int32) (y : Int32) (o : Int32) (S : St) (s0 : Int32) (s1 : Nat) (P : Int32 → St → Prop) : Prop :=
  ∀ S5 : St, S5 = rAdd S s1 s0 → P ((rLen S5 (4 * q + 1)) - 1) S5
set_option maxHeartbeats 4000000 in
set_option maxRecDepth 100000 in
theorem run_X4_addPoint_29 {f : Fx} {g : Gx} {T0 : List (Nat × Nat × Nat)} {S : St} {q : Nat} {x : Int32} {y : Int32} {o : Int32} {P : Int32 → St → Prop} (C : Cx f g cX4_addPoint 4 RX4) (hrt : (fmeth f).sig.returnType = (some .int)) (hq : q < 12) {s0 : Int32} {s1 : Nat} (hT : S.2.2.1 = T0) (hs1 : s1 < 68) (h : wp_X4_addPoint_29 q x y o S s0 s1 P) : WW f rm_X4_addPoint g 4 0 0 (Qi f g 0 0 T0 P) S 29 [(0, .ref (gad g (136 + q)))] [.int s0, .ref (gad g s1)] := by
  unfold wp_X4_addPoint_29 at h
  refine ww_cVg (As := [.int s0]) (rest := []) C ok_X8_add bw_406 dX4_addPoint_29 (cm_X8_add hs1) (rc_Row hs1) rfl ⟨Nat.le_of_ble_eq_true rfl, Nat.le_of_ble_eq_true rfl⟩ (Nat.le_of_ble_eq_true rfl) (c2 := 0) (s2 := 0) rfl rfl ⟨Nat.le_of_ble_eq_true rfl, Nat.le_of_ble_eq_true rfl⟩ rfl (fun hTg => ?_)
  refine ww_nm (fun S5 e_S5 => ?_)
  replace h := h S5 e_S5
  have hT_S5 : S5.2.2.1 = T0 := by rw [e_S5, hTg]; exact hT
  refine ww_aload_n C dX4_addPoint_32 0 rfl ?_
  refine gf_Glyph_xs C (q := q) hq bw_180 dX4_addPoint_33 ?_
  refine ww_cVf (As := []) (rest := []) C ok_X8_length bw_361 dX4_addPoint_36 (cm_X8_length (g4_1 hq)) (rc_Row (g4_1 hq)) rfl ⟨Nat.le_of_ble_eq_true rfl, Nat.le_of_ble_eq_true rfl⟩ (Nat.le_of_ble_eq_true rfl) (c2 := 0) (s2 := 0) rfl rfl ⟨Nat.le_of_ble_eq_true rfl, Nat.le_of_ble_eq_true rfl⟩ rfl ?_
  refine ww_iconst (v := 1) C dX4_addPoint_39 (by decide) ?_
  refine ww_isub C dX4_addPoint_40 ?_
  exact ww_iret C hrt dX4_addPoint_41 hT_S5 h
def wp_X4_addPoint (S : St) (q : Nat) (x : Int32) (y : Int32) (o : Int32) (P : Int32 → St → Prop) : Prop :=
  ∀ S6 : St, S6 = rAdd S (4 * q + 1) x → ∀ S7 : St, S7 = rAdd S6 (4 * q + 2) y → ((o = 0 → wp_X4_addPoint_29 q x y o S7 0 (4 * q + 3) P) ∧ (¬ o = 0 → wp_X4_addPoint_29 q x y o S7 1 (4 * q + 3) P))
set_option maxHeartbeats 4000000 in
set_option maxRecDepth 100000 in
theorem run_X4_addPoint {l : Launch} {g : Gx} {S : St} {q : Nat} {x : Int32} {y : Int32} {o : Int32} {P : Int32 → St → Prop} (hq : q < 12) (h : rowsLe S → wp_X4_addPoint S q x y o P) : CMi g l yX4_addPoint cX4_addPoint 4 (some .int) rm_X4_addPoint [.ref (gad g (136 + q)), .int x, .int y, .int o] S P := cm_entry (own := RX4) (plainFor_of_name (by decide)) rfl (Nat.le_of_ble_eq_true rfl) rfl (fun hle f hf C hrt => by
  subst hf
  replace h := h hle
  obtain ⟨T0, hT⟩ : ∃ T, S.2.2.1 = T := ⟨_, rfl⟩
  rw [hT]
  unfold wp_X4_addPoint at h
  refine ww_aload_n C dX4_addPoint_0 0 rfl ?_
  refine gf_Glyph_xs C (q := q) hq bw_180 dX4_addPoint_1 ?_
  refine ww_iload_n C dX4_addPoint_4 1 rfl ?_
  refine ww_cVg (As := [.int x]) (rest := []) C ok_X8_add bw_406 dX4_addPoint_5 (cm_X8_add (g4_1 hq)) (rc_Row (g4_1 hq)) rfl ⟨Nat.le_of_ble_eq_true rfl, Nat.le_of_ble_eq_true rfl⟩ (Nat.le_of_ble_eq_true rfl) (c2 := 0) (s2 := 0) rfl rfl ⟨Nat.le_of_ble_eq_true rfl, Nat.le_of_ble_eq_true rfl⟩ rfl (fun hTg => ?_)
  refine ww_nm (fun S6 e_S6 => ?_)
  replace h := h S6 e_S6
  have hT_S6 : S6.2.2.1 = T0 := by rw [e_S6, hTg]; exact hT
  refine ww_aload_n C dX4_addPoint_8 0 rfl ?_
  refine gf_Glyph_ys C (q := q) hq bw_181 dX4_addPoint_9 ?_
  refine ww_iload_n C dX4_addPoint_12 2 rfl ?_
  refine ww_cVg (As := [.int y]) (rest := []) C ok_X8_add bw_406 dX4_addPoint_13 (cm_X8_add (g4_2 hq)) (rc_Row (g4_2 hq)) rfl ⟨Nat.le_of_ble_eq_true rfl, Nat.le_of_ble_eq_true rfl⟩ (Nat.le_of_ble_eq_true rfl) (c2 := 0) (s2 := 0) rfl rfl ⟨Nat.le_of_ble_eq_true rfl, Nat.le_of_ble_eq_true rfl⟩ rfl (fun hTg => ?_)
  refine ww_nm (fun S7 e_S7 => ?_)
  replace h := h S7 e_S7
  have hT_S7 : S7.2.2.1 = T0 := by rw [e_S7, hTg]; exact hT_S6
  refine ww_aload_n C dX4_addPoint_16 0 rfl ?_
  refine gf_Glyph_ons C (q := q) hq bw_182 dX4_addPoint_17 ?_
  refine ww_iload_n C dX4_addPoint_20 3 rfl ?_
  refine ww_if_eq (tgt := 28) C dX4_addPoint_21 (by decide) (fun q8 => ?_) (fun q8 => ?_)
  · replace h := h.1 q8
    refine ww_iconst (v := 0) C dX4_addPoint_28 (by decide) ?_
    exact ww_sub [0] rfl (run_X4_addPoint_29 C hrt hq hT_S7 (g4_3 hq) h)
  · replace h := h.2 q8
    refine ww_iconst (v := 1) C dX4_addPoint_24 (by decide) ?_
    refine ww_goto (tgt := 29) C dX4_addPoint_25 (by decide) ?_
    exact ww_sub [0] rfl (run_X4_addPoint_29 C hrt hq hT_S7 (g4_3 hq) h))
def fv_X4_addPoint_29 (S : St) (q : Nat) (x : Int32) (y : Int32) (o : Int32) (s0 : Int32) (s1 : Nat) : Int32 := ((rLen (rAdd S s1 s0) (4 * q + 1)) - 1)
def fs_X4_addPoint_29 (S : St) (q : Nat) (x : Int32) (y : Int32) (o : Int32) (s0 : Int32) (s1 : Nat) : St := ((rAdd S s1 s0))
set_option maxHeartbeats 4000000 in
set_option maxRecDepth 100000 in
theorem sp_X4_addPoint_29 {S : St} {q : Nat} {x : Int32} {y : Int32} {o : Int32} {s0 : Int32} {s1 : Nat} {P : Int32 → St → Prop} (h : P (fv_X4_addPoint_29 S q x y o s0 s1) (fs_X4_addPoint_29 S q x y o s0 s1)) : wp_X4_addPoint_29 q x y o S s0 s1 P := by
  unfold wp_X4_addPoint_29
  unfold fv_X4_addPoint_29 fs_X4_addPoint_29 at h
  intro S5 e_S5
  subst e_S5
  exact h
def fv_X4_addPoint (S : St) (q : Nat) (x : Int32) (y : Int32) (o : Int32)  : Int32 := (if o = 0 then (fv_X4_addPoint_29 ((rAdd (rAdd S (4 * q + 1) x) (4 * q + 2) y)) q x y o 0 ((4 * q + 3))) else (fv_X4_addPoint_29 ((rAdd (rAdd S (4 * q + 1) x) (4 * q + 2) y)) q x y o 1 ((4 * q + 3))))
def fs_X4_addPoint (S : St) (q : Nat) (x : Int32) (y : Int32) (o : Int32)  : St := (if o = 0 then (fs_X4_addPoint_29 ((rAdd (rAdd S (4 * q + 1) x) (4 * q + 2) y)) q x y o 0 ((4 * q + 3))) else (fs_X4_addPoint_29 ((rAdd (rAdd S (4 * q + 1) x) (4 * q + 2) y)) q x y o 1 ((4 * q + 3))))
set_option maxHeartbeats 4000000 in
set_option maxRecDepth 100000 in
theorem sp_X4_addPoint {S : St} {q : Nat} {x : Int32} {y : Int32} {o : Int32}  {P : Int32 → St → Prop} (h : P (fv_X4_addPoint S q x y o ) (fs_X4_addPoint S q x y o )) : wp_X4_addPoint S q x y o P := by
  unfold wp_X4_addPoint
  unfold fv_X4_addPoint fs_X4_addPoint at h
  intro S6 e_S6
  subst e_S6
  intro S7 e_S7
  subst e_S7
  refine ⟨fun q8 => ?_, fun q8 => ?_⟩
  · simp only [if_pos q8] at h
    exact sp_X4_addPoint_29 h
  · simp only [if_neg q8] at h
    exact sp_X4_addPoint_29 h
theorem cm_X4_addPoint {l : Launch} {g : Gx} {S : St} {q : Nat} {x : Int32} {y : Int32} {o : Int32} (hq : q < 12) : CMi g l yX4_addPoint cX4_addPoint 4 (some .int) rm_X4_addPoint [.ref (gad g (136 + q)), .int x, .int y, .int o] S (fun v S2 => v = fv_X4_addPoint S q x y o ∧ S2 = fs_X4_addPoint S q x y o) := run_X4_addPoint hq (fun _ => sp_X4_addPoint ⟨rfl, rfl⟩)
abbrev rm_X4_x : Room := { frames := 1, cells := 0, slots := 0, locals := 21 }
theorem ok_X4_x : MOK yX4_x RX4 cX4_x 2 (some .int) 1 := ⟨bw_905, bw_906, bw_68, bw_907, by decide +kernel⟩
def wp_X4_x (S : St) (q : Nat) (p : Int32) (P : Int32 → St → Prop) : Prop :=
  P (rGet S (4 * q + 1) p) S
set_option maxHeartbeats 4000000 in
set_option maxRecDepth 100000 in
theorem run_X4_x {l : Launch} {g : Gx} {S : St} {q : Nat} {p : Int32} {P : Int32 → St → Prop} (hq : q < 12) (h : rowsLe S → wp_X4_x S q p P) : CMi g l yX4_x cX4_x 2 (some .int) rm_X4_x [.ref (gad g (136 + q)), .int p] S P := cm_entry (own := RX4) (plainFor_of_name (by decide)) rfl (Nat.le_of_ble_eq_true rfl) rfl (fun hle f hf C hrt => by
  subst hf
  replace h := h hle
  obtain ⟨T0, hT⟩ : ∃ T, S.2.2.1 = T := ⟨_, rfl⟩
  rw [hT]
  unfold wp_X4_x at h
  refine ww_aload_n C dX4_x_0 0 rfl ?_
  refine gf_Glyph_xs C (q := q) hq bw_180 dX4_x_1 ?_
  refine ww_iload_n C dX4_x_4 1 rfl ?_
  refine ww_cVf (As := [.int p]) (rest := []) C ok_X8_get bw_488 dX4_x_5 (cm_X8_get (g4_1 hq)) (rc_Row (g4_1 hq)) rfl ⟨Nat.le_of_ble_eq_true rfl, Nat.le_of_ble_eq_true rfl⟩ (Nat.le_of_ble_eq_true rfl) (c2 := 0) (s2 := 0) rfl rfl ⟨Nat.le_of_ble_eq_true rfl, Nat.le_of_ble_eq_true rfl⟩ rfl ?_
  exact ww_iret C hrt dX4_x_8 hT h)
def fv_X4_x (S : St) (q : Nat) (p : Int32)  : Int32 := (rGet S (4 * q + 1) p)
set_option maxHeartbeats 4000000 in
set_option maxRecDepth 100000 in
theorem sp_X4_x {S : St} {q : Nat} {p : Int32}  {P : Int32 → St → Prop} (h : P (fv_X4_x S q p ) S) : wp_X4_x S q p P := by
  unfold wp_X4_x
  unfold fv_X4_x at h
  exact h
theorem cm_X4_x {l : Launch} {g : Gx} {S : St} {q : Nat} {p : Int32} (hq : q < 12) : CMi g l yX4_x cX4_x 2 (some .int) rm_X4_x [.ref (gad g (136 + q)), .int p] S (fun v S2 => v = fv_X4_x S q p ∧ S2 = S) := run_X4_x hq (fun _ => sp_X4_x ⟨rfl, rfl⟩)
abbrev rm_X4_y : Room := { frames := 1, cells := 0, slots := 0, locals := 21 }
theorem ok_X4_y : MOK yX4_y RX4 cX4_y 2 (some .int) 1 := ⟨bw_909, bw_910, bw_68, bw_911, by decide +kernel⟩
def wp_X4_y (S : St) (q : Nat) (p : Int32) (P : Int32 → St → Prop) : Prop :=
  P (rGet S (4 * q + 2) p) S
set_option maxHeartbeats 4000000 in
set_option maxRecDepth 100000 in
theorem run_X4_y {l : Launch} {g : Gx} {S : St} {q : Nat} {p : Int32} {P : Int32 → St → Prop} (hq : q < 12) (h : rowsLe S → wp_X4_y S q p P) : CMi g l yX4_y cX4_y 2 (some .int) rm_X4_y [.ref (gad g (136 + q)), .int p] S P := cm_entry (own := RX4) (plainFor_of_name (by decide)) rfl (Nat.le_of_ble_eq_true rfl) rfl (fun hle f hf C hrt => by
  subst hf
  replace h := h hle
  obtain ⟨T0, hT⟩ : ∃ T, S.2.2.1 = T := ⟨_, rfl⟩
  rw [hT]
  unfold wp_X4_y at h
  refine ww_aload_n C dX4_y_0 0 rfl ?_
  refine gf_Glyph_ys C (q := q) hq bw_181 dX4_y_1 ?_
  refine ww_iload_n C dX4_y_4 1 rfl ?_
  refine ww_cVf (As := [.int p]) (rest := []) C ok_X8_get bw_488 dX4_y_5 (cm_X8_get (g4_2 hq)) (rc_Row (g4_2 hq)) rfl ⟨Nat.le_of_ble_eq_true rfl, Nat.le_of_ble_eq_true rfl⟩ (Nat.le_of_ble_eq_true rfl) (c2 := 0) (s2 := 0) rfl rfl ⟨Nat.le_of_ble_eq_true rfl, Nat.le_of_ble_eq_true rfl⟩ rfl ?_
  exact ww_iret C hrt dX4_y_8 hT h)
def fv_X4_y (S : St) (q : Nat) (p : Int32)  : Int32 := (rGet S (4 * q + 2) p)
set_option maxHeartbeats 4000000 in
set_option maxRecDepth 100000 in
theorem sp_X4_y {S : St} {q : Nat} {p : Int32}  {P : Int32 → St → Prop} (h : P (fv_X4_y S q p ) S) : wp_X4_y S q p P := by
  unfold wp_X4_y
  unfold fv_X4_y at h
  exact h
theorem cm_X4_y {l : Launch} {g : Gx} {S : St} {q : Nat} {p : Int32} (hq : q < 12) : CMi g l yX4_y cX4_y 2 (some .int) rm_X4_y [.ref (gad g (136 + q)), .int p] S (fun v S2 => v = fv_X4_y S q p ∧ S2 = S) := run_X4_y hq (fun _ => sp_X4_y ⟨rfl, rfl⟩)
abbrev rm_X4_isOn : Room := { frames := 1, cells := 0, slots := 0, locals := 21 }
theorem ok_X4_isOn : MOK yX4_isOn RX4 cX4_isOn 2 (some .boolean) 1 := ⟨bw_497, bw_498, bw_68, bw_499, by decide +kernel⟩
def wp_X4_isOn_17 (q : Nat) (p : Int32) (S : St) (s0 : Int32) (P : Int32 → St → Prop) : Prop :=
  ((s0 = 0 ∨ s0 = 1) ∧ P s0 S)
set_option maxHeartbeats 4000000 in
set_option maxRecDepth 100000 in
theorem run_X4_isOn_17 {f : Fx} {g : Gx} {T0 : List (Nat × Nat × Nat)} {S : St} {q : Nat} {p : Int32} {P : Int32 → St → Prop} (C : Cx f g cX4_isOn 2 RX4) (hrt : (fmeth f).sig.returnType = (some .boolean)) (hq : q < 12) {s0 : Int32} (hT : S.2.2.1 = T0)  (h : wp_X4_isOn_17 q p S s0 P) : WW f rm_X4_isOn g 2 0 0 (Qi f g 0 0 T0 P) S 17 [] [.int s0] := by
  unfold wp_X4_isOn_17 at h
  exact ww_zret C hrt dX4_isOn_17 hT h.1 h.2
def wp_X4_isOn (S : St) (q : Nat) (p : Int32) (P : Int32 → St → Prop) : Prop :=
  ((¬ (rGet S (4 * q + 3) p) = 1 → wp_X4_isOn_17 q p S 0 P) ∧ ((rGet S (4 * q + 3) p) = 1 → wp_X4_isOn_17 q p S 1 P))
set_option maxHeartbeats 4000000 in
set_option maxRecDepth 100000 in
theorem run_X4_isOn {l : Launch} {g : Gx} {S : St} {q : Nat} {p : Int32} {P : Int32 → St → Prop} (hq : q < 12) (h : rowsLe S → wp_X4_isOn S q p P) : CMi g l yX4_isOn cX4_isOn 2 (some .boolean) rm_X4_isOn [.ref (gad g (136 + q)), .int p] S P := cm_entry (own := RX4) (plainFor_of_name (by decide)) rfl (Nat.le_of_ble_eq_true rfl) rfl (fun hle f hf C hrt => by
  subst hf
  replace h := h hle
  obtain ⟨T0, hT⟩ : ∃ T, S.2.2.1 = T := ⟨_, rfl⟩
  rw [hT]
  unfold wp_X4_isOn at h
  refine ww_aload_n C dX4_isOn_0 0 rfl ?_
  refine gf_Glyph_ons C (q := q) hq bw_182 dX4_isOn_1 ?_
  refine ww_iload_n C dX4_isOn_4 1 rfl ?_
  refine ww_cVf (As := [.int p]) (rest := []) C ok_X8_get bw_488 dX4_isOn_5 (cm_X8_get (g4_3 hq)) (rc_Row (g4_3 hq)) rfl ⟨Nat.le_of_ble_eq_true rfl, Nat.le_of_ble_eq_true rfl⟩ (Nat.le_of_ble_eq_true rfl) (c2 := 0) (s2 := 0) rfl rfl ⟨Nat.le_of_ble_eq_true rfl, Nat.le_of_ble_eq_true rfl⟩ rfl ?_
  refine ww_iconst (v := 1) C dX4_isOn_8 (by decide) ?_
  refine ww_icmp_ne (tgt := 16) C dX4_isOn_9 (by decide) (fun q2 => ?_) (fun q2 => ?_)
  · replace h := h.1 q2
    refine ww_iconst (v := 0) C dX4_isOn_16 (by decide) ?_
    exact ww_sub [] rfl (run_X4_isOn_17 C hrt hq hT  h)
  · replace h := h.2 q2
    refine ww_iconst (v := 1) C dX4_isOn_12 (by decide) ?_
    refine ww_goto (tgt := 17) C dX4_isOn_13 (by decide) ?_
    exact ww_sub [] rfl (run_X4_isOn_17 C hrt hq hT  h))
abbrev rm_X4_dx : Room := { frames := 1, cells := 0, slots := 0, locals := 21 }
theorem ok_X4_dx : MOK yX4_dx RX4 cX4_dx 2 (some .int) 1 := ⟨bw_501, bw_502, bw_68, bw_503, by decide +kernel⟩
def wp_X4_dx (S : St) (q : Nat) (p : Int32) (P : Int32 → St → Prop) : Prop :=
  P ((rGet S (4 * q + 1) p) - (rGet S (4 * q + 1) (p - 1))) S
set_option maxHeartbeats 4000000 in
set_option maxRecDepth 100000 in
theorem run_X4_dx {l : Launch} {g : Gx} {S : St} {q : Nat} {p : Int32} {P : Int32 → St → Prop} (hq : q < 12) (h : rowsLe S → wp_X4_dx S q p P) : CMi g l yX4_dx cX4_dx 2 (some .int) rm_X4_dx [.ref (gad g (136 + q)), .int p] S P := cm_entry (own := RX4) (plainFor_of_name (by decide)) rfl (Nat.le_of_ble_eq_true rfl) rfl (fun hle f hf C hrt => by
  subst hf
  replace h := h hle
  obtain ⟨T0, hT⟩ : ∃ T, S.2.2.1 = T := ⟨_, rfl⟩
  rw [hT]
  unfold wp_X4_dx at h
  refine ww_aload_n C dX4_dx_0 0 rfl ?_
  refine gf_Glyph_xs C (q := q) hq bw_180 dX4_dx_1 ?_
  refine ww_iload_n C dX4_dx_4 1 rfl ?_
  refine ww_cVf (As := [.int p]) (rest := []) C ok_X8_get bw_488 dX4_dx_5 (cm_X8_get (g4_1 hq)) (rc_Row (g4_1 hq)) rfl ⟨Nat.le_of_ble_eq_true rfl, Nat.le_of_ble_eq_true rfl⟩ (Nat.le_of_ble_eq_true rfl) (c2 := 0) (s2 := 0) rfl rfl ⟨Nat.le_of_ble_eq_true rfl, Nat.le_of_ble_eq_true rfl⟩ rfl ?_
  refine ww_aload_n C dX4_dx_8 0 rfl ?_
  refine gf_Glyph_xs C (q := q) hq bw_180 dX4_dx_9 ?_
  refine ww_iload_n C dX4_dx_12 1 rfl ?_
  refine ww_iconst (v := 1) C dX4_dx_13 (by decide) ?_
  refine ww_isub C dX4_dx_14 ?_
  refine ww_cVf (As := [.int (p - 1)]) (rest := [.int (rGet S (4 * q + 1) p)]) C ok_X8_get bw_488 dX4_dx_15 (cm_X8_get (g4_1 hq)) (rc_Row (g4_1 hq)) rfl ⟨Nat.le_of_ble_eq_true rfl, Nat.le_of_ble_eq_true rfl⟩ (Nat.le_of_ble_eq_true rfl) (c2 := 0) (s2 := 0) rfl rfl ⟨Nat.le_of_ble_eq_true rfl, Nat.le_of_ble_eq_true rfl⟩ rfl ?_
  refine ww_isub C dX4_dx_18 ?_
  exact ww_iret C hrt dX4_dx_19 hT h)
def fv_X4_dx (S : St) (q : Nat) (p : Int32)  : Int32 := ((rGet S (4 * q + 1) p) - (rGet S (4 * q + 1) (p - 1)))
set_option maxHeartbeats 4000000 in
set_option maxRecDepth 100000 in
theorem sp_X4_dx {S : St} {q : Nat} {p : Int32}  {P : Int32 → St → Prop} (h : P (fv_X4_dx S q p ) S) : wp_X4_dx S q p P := by
  unfold wp_X4_dx
  unfold fv_X4_dx at h
  exact h
theorem cm_X4_dx {l : Launch} {g : Gx} {S : St} {q : Nat} {p : Int32} (hq : q < 12) : CMi g l yX4_dx cX4_dx 2 (some .int) rm_X4_dx [.ref (gad g (136 + q)), .int p] S (fun v S2 => v = fv_X4_dx S q p ∧ S2 = S) := run_X4_dx hq (fun _ => sp_X4_dx ⟨rfl, rfl⟩)
abbrev rm_X4_dy : Room := { frames := 1, cells := 0, slots := 0, locals := 21 }
theorem ok_X4_dy : MOK yX4_dy RX4 cX4_dy 2 (some .int) 1 := ⟨bw_511, bw_512, bw_68, bw_513, by decide +kernel⟩
def wp_X4_dy (S : St) (q : Nat) (p : Int32) (P : Int32 → St → Prop) : Prop :=
  P ((rGet S (4 * q + 2) p) - (rGet S (4 * q + 2) (p - 1))) S
set_option maxHeartbeats 4000000 in
set_option maxRecDepth 100000 in
theorem run_X4_dy {l : Launch} {g : Gx} {S : St} {q : Nat} {p : Int32} {P : Int32 → St → Prop} (hq : q < 12) (h : rowsLe S → wp_X4_dy S q p P) : CMi g l yX4_dy cX4_dy 2 (some .int) rm_X4_dy [.ref (gad g (136 + q)), .int p] S P := cm_entry (own := RX4) (plainFor_of_name (by decide)) rfl (Nat.le_of_ble_eq_true rfl) rfl (fun hle f hf C hrt => by
  subst hf
  replace h := h hle
  obtain ⟨T0, hT⟩ : ∃ T, S.2.2.1 = T := ⟨_, rfl⟩
  rw [hT]
  unfold wp_X4_dy at h
  refine ww_aload_n C dX4_dy_0 0 rfl ?_
  refine gf_Glyph_ys C (q := q) hq bw_181 dX4_dy_1 ?_
  refine ww_iload_n C dX4_dy_4 1 rfl ?_
  refine ww_cVf (As := [.int p]) (rest := []) C ok_X8_get bw_488 dX4_dy_5 (cm_X8_get (g4_2 hq)) (rc_Row (g4_2 hq)) rfl ⟨Nat.le_of_ble_eq_true rfl, Nat.le_of_ble_eq_true rfl⟩ (Nat.le_of_ble_eq_true rfl) (c2 := 0) (s2 := 0) rfl rfl ⟨Nat.le_of_ble_eq_true rfl, Nat.le_of_ble_eq_true rfl⟩ rfl ?_
  refine ww_aload_n C dX4_dy_8 0 rfl ?_
  refine gf_Glyph_ys C (q := q) hq bw_181 dX4_dy_9 ?_
  refine ww_iload_n C dX4_dy_12 1 rfl ?_
  refine ww_iconst (v := 1) C dX4_dy_13 (by decide) ?_
  refine ww_isub C dX4_dy_14 ?_
  refine ww_cVf (As := [.int (p - 1)]) (rest := [.int (rGet S (4 * q + 2) p)]) C ok_X8_get bw_488 dX4_dy_15 (cm_X8_get (g4_2 hq)) (rc_Row (g4_2 hq)) rfl ⟨Nat.le_of_ble_eq_true rfl, Nat.le_of_ble_eq_true rfl⟩ (Nat.le_of_ble_eq_true rfl) (c2 := 0) (s2 := 0) rfl rfl ⟨Nat.le_of_ble_eq_true rfl, Nat.le_of_ble_eq_true rfl⟩ rfl ?_
  refine ww_isub C dX4_dy_18 ?_
  exact ww_iret C hrt dX4_dy_19 hT h)
def fv_X4_dy (S : St) (q : Nat) (p : Int32)  : Int32 := ((rGet S (4 * q + 2) p) - (rGet S (4 * q + 2) (p - 1)))
set_option maxHeartbeats 4000000 in
set_option maxRecDepth 100000 in
theorem sp_X4_dy {S : St} {q : Nat} {p : Int32}  {P : Int32 → St → Prop} (h : P (fv_X4_dy S q p ) S) : wp_X4_dy S q p P := by
  unfold wp_X4_dy
  unfold fv_X4_dy at h
  exact h
theorem cm_X4_dy {l : Launch} {g : Gx} {S : St} {q : Nat} {p : Int32} (hq : q < 12) : CMi g l yX4_dy cX4_dy 2 (some .int) rm_X4_dy [.ref (gad g (136 + q)), .int p] S (fun v S2 => v = fv_X4_dy S q p ∧ S2 = S) := run_X4_dy hq (fun _ => sp_X4_dy ⟨rfl, rfl⟩)
abbrev rm_X4_contourOf : Room := { frames := 1, cells := 0, slots := 0, locals := 21 }
theorem ok_X4_contourOf : MOK yX4_contourOf RX4 cX4_contourOf 4 (some .int) 1 := ⟨bw_914, bw_915, bw_68, bw_916, by decide +kernel⟩
def st_X4_contourOf_4 (q : Nat) (p : Int32) (P : Int32 → St → Prop) (X4 : St → Int32 → Int32 → Prop) (S : St) (v2 : Int32) (v3 : Int32) : Prop :=
  (((rLen S (4 * q)) ≤ v3 → P 0 S) ∧ (¬ (rLen S (4 * q)) ≤ v3 → ∀ x6 : Int32, x6 = v2 + (rGet S (4 * q) v3) → ((x6 ≤ p → ∀ x8 : Int32, x8 = v3 + 1 → X4 S x6 x8) ∧ (¬ x6 ≤ p → P v3 S))))
def at_X4_contourOf_4 (f : Fx) (g : Gx) (T0 : List (Nat × Nat × Nat)) (q : Nat) (p : Int32) (P : Int32 → St → Prop) (S : St) (v2 : Int32) (v3 : Int32) : Prop := S.2.2.1 = T0 → WW f rm_X4_contourOf g 4 0 0 (Qi f g 0 0 T0 P) S 4 [(0, .ref (gad g (136 + q))), (1, .int p), (2, .int v2), (3, .int v3)] []
set_option maxHeartbeats 4000000 in
set_option maxRecDepth 100000 in
theorem run_X4_contourOf_4 {f : Fx} {g : Gx} {T0 : List (Nat × Nat × Nat)} {S : St} {q : Nat} {p : Int32} {P : Int32 → St → Prop} (C : Cx f g cX4_contourOf 4 RX4) (hrt : (fmeth f).sig.returnType = (some .int)) (hq : q < 12) {v2 : Int32} {v3 : Int32} (h : st_X4_contourOf_4 q p P (at_X4_contourOf_4 f g T0 q p P) S v2 v3) : at_X4_contourOf_4 f g T0 q p P S v2 v3 := by
  intro hT 
  unfold st_X4_contourOf_4 at h
  refine ww_iload_n C dX4_contourOf_4 3 rfl ?_
  refine ww_aload_n C dX4_contourOf_5 0 rfl ?_
  refine gf_Glyph_sizes C (q := q) hq bw_179 dX4_contourOf_6 ?_
  refine ww_cVf (As := []) (rest := [.int v3]) C ok_X8_length bw_361 dX4_contourOf_9 (cm_X8_length (g4_0 hq)) (rc_Row (g4_0 hq)) rfl ⟨Nat.le_of_ble_eq_true rfl, Nat.le_of_ble_eq_true rfl⟩ (Nat.le_of_ble_eq_true rfl) (c2 := 0) (s2 := 0) rfl rfl ⟨Nat.le_of_ble_eq_true rfl, Nat.le_of_ble_eq_true rfl⟩ rfl ?_
  refine ww_icmp_ge (tgt := 39) C dX4_contourOf_12 (by decide) (fun q5 => ?_) (fun q5 => ?_)
  · replace h := h.1 q5
    refine ww_iconst (v := 0) C dX4_contourOf_39 (by decide) ?_
    exact ww_iret C hrt dX4_contourOf_40 hT h
  · replace h := h.2 q5
    refine ww_iload_n C dX4_contourOf_15 2 rfl ?_
    refine ww_aload_n C dX4_contourOf_16 0 rfl ?_
    refine gf_Glyph_sizes C (q := q) hq bw_179 dX4_contourOf_17 ?_
    refine ww_iload_n C dX4_contourOf_20 3 rfl ?_
    refine ww_cVf (As := [.int v3]) (rest := [.int v2]) C ok_X8_get bw_488 dX4_contourOf_21 (cm_X8_get (g4_0 hq)) (rc_Row (g4_0 hq)) rfl ⟨Nat.le_of_ble_eq_true rfl, Nat.le_of_ble_eq_true rfl⟩ (Nat.le_of_ble_eq_true rfl) (c2 := 0) (s2 := 0) rfl rfl ⟨Nat.le_of_ble_eq_true rfl, Nat.le_of_ble_eq_true rfl⟩ rfl ?_
    refine ww_iadd C dX4_contourOf_24 ?_
    refine ww_topi (fun x6 e_x6 => ?_)
    replace h := h x6 e_x6
    refine ww_istore_n (lv2 := [(2, .int x6), (0, .ref (gad g (136 + q))), (1, .int p), (3, .int v3)]) C dX4_contourOf_25 rfl (Nat.le_of_ble_eq_true rfl) rfl ?_
    refine ww_iload_n C dX4_contourOf_26 2 rfl ?_
    refine ww_iload_n C dX4_contourOf_27 0 rfl ?_
    refine ww_icmp_ge (tgt := 33) C dX4_contourOf_28 (by decide) (fun q7 => ?_) (fun q7 => ?_)
    · replace h := h.1 q7
      obtain ⟨x8, e_x8⟩ : ∃ z : Int32, z = v3 + 1 := ⟨_, rfl⟩
      replace h := h x8 e_x8
      refine ww_iinc (v := x8) (lv2 := [(3, .int x8), (2, .int x6), (0, .ref (gad g (136 + q))), (1, .int p)]) C dX4_contourOf_33 3 rfl (by rw [e_x8]; rfl) (Nat.le_of_ble_eq_true rfl) rfl ?_
      refine ww_goto (tgt := 4) C dX4_contourOf_36 (by decide) ?_
      exact ww_sub [2, 3, 1, 0] rfl (h hT)
    · replace h := h.2 q7
      refine ww_iload_n C dX4_contourOf_31 3 rfl ?_
      exact ww_iret C hrt dX4_contourOf_32 hT h
def wp_X4_contourOf (S : St) (q : Nat) (p : Int32) (P : Int32 → St → Prop) : Prop :=
  ∀ (X4 : St → Int32 → Int32 → Prop), (∀ S v2 v3, st_X4_contourOf_4 q p P X4 S v2 v3 → X4 S v2 v3) → X4 S 0 0
set_option maxHeartbeats 4000000 in
set_option maxRecDepth 100000 in
theorem run_X4_contourOf {l : Launch} {g : Gx} {S : St} {q : Nat} {p : Int32} {P : Int32 → St → Prop} (hq : q < 12) (h : rowsLe S → wp_X4_contourOf S q p P) : CMi g l yX4_contourOf cX4_contourOf 4 (some .int) rm_X4_contourOf [.ref (gad g (136 + q)), .int p] S P := cm_entry (own := RX4) (plainFor_of_name (by decide)) rfl (Nat.le_of_ble_eq_true rfl) rfl (fun hle f hf C hrt => by
  subst hf
  replace h := h hle
  obtain ⟨T0, hT⟩ : ∃ T, S.2.2.1 = T := ⟨_, rfl⟩
  rw [hT]
  replace h := h (at_X4_contourOf_4 f g T0 q p P) (fun S v2 v3 h => run_X4_contourOf_4 C hrt hq h)
  refine ww_iconst (v := 0) C dX4_contourOf_0 (by decide) ?_
  refine ww_istore_n (lv2 := [(2, .int 0), (0, .ref (gad g (136 + q))), (1, .int p)]) C dX4_contourOf_1 rfl (Nat.le_of_ble_eq_true rfl) rfl ?_
  refine ww_iconst (v := 0) C dX4_contourOf_2 (by decide) ?_
  refine ww_istore_n (lv2 := [(3, .int 0), (2, .int 0), (0, .ref (gad g (136 + q))), (1, .int p)]) C dX4_contourOf_3 rfl (Nat.le_of_ble_eq_true rfl) rfl ?_
  exact ww_sub [2, 3, 1, 0] rfl (h hT))
abbrev rm_X4_sizesTogether : Room := { frames := 1, cells := 0, slots := 0, locals := 21 }
theorem ok_X4_sizesTogether : MOK yX4_sizesTogether RX4 cX4_sizesTogether 3 (some .int) 0 := ⟨bw_780, bw_781, bw_68, bw_782, by decide +kernel⟩
def st_X4_sizesTogether_4 (q : Nat) (P : Int32 → St → Prop) (X4 : St → Int32 → Int32 → Prop) (S : St) (v1 : Int32) (v2 : Int32) : Prop :=
  (((rLen S (4 * q)) ≤ v2 → P v1 S) ∧ (¬ (rLen S (4 * q)) ≤ v2 → ∀ x5 : Int32, x5 = v1 + (rGet S (4 * q) v2) → ∀ x6 : Int32, x6 = v2 + 1 → X4 S x5 x6))
def at_X4_sizesTogether_4 (f : Fx) (g : Gx) (T0 : List (Nat × Nat × Nat)) (q : Nat) (P : Int32 → St → Prop) (S : St) (v1 : Int32) (v2 : Int32) : Prop := S.2.2.1 = T0 → WW f rm_X4_sizesTogether g 3 0 0 (Qi f g 0 0 T0 P) S 4 [(0, .ref (gad g (136 + q))), (1, .int v1), (2, .int v2)] []
set_option maxHeartbeats 4000000 in
set_option maxRecDepth 100000 in
theorem run_X4_sizesTogether_4 {f : Fx} {g : Gx} {T0 : List (Nat × Nat × Nat)} {S : St} {q : Nat} {P : Int32 → St → Prop} (C : Cx f g cX4_sizesTogether 3 RX4) (hrt : (fmeth f).sig.returnType = (some .int)) (hq : q < 12) {v1 : Int32} {v2 : Int32} (h : st_X4_sizesTogether_4 q P (at_X4_sizesTogether_4 f g T0 q P) S v1 v2) : at_X4_sizesTogether_4 f g T0 q P S v1 v2 := by
  intro hT 
  unfold st_X4_sizesTogether_4 at h
  refine ww_iload_n C dX4_sizesTogether_4 2 rfl ?_
  refine ww_aload_n C dX4_sizesTogether_5 0 rfl ?_
  refine gf_Glyph_sizes C (q := q) hq bw_179 dX4_sizesTogether_6 ?_
  refine ww_cVf (As := []) (rest := [.int v2]) C ok_X8_length bw_361 dX4_sizesTogether_9 (cm_X8_length (g4_0 hq)) (rc_Row (g4_0 hq)) rfl ⟨Nat.le_of_ble_eq_true rfl, Nat.le_of_ble_eq_true rfl⟩ (Nat.le_of_ble_eq_true rfl) (c2 := 0) (s2 := 0) rfl rfl ⟨Nat.le_of_ble_eq_true rfl, Nat.le_of_ble_eq_true rfl⟩ rfl ?_
  refine ww_icmp_ge (tgt := 32) C dX4_sizesTogether_12 (by decide) (fun q4 => ?_) (fun q4 => ?_)
  · replace h := h.1 q4
    refine ww_iload_n C dX4_sizesTogether_32 1 rfl ?_
    exact ww_iret C hrt dX4_sizesTogether_33 hT h
  · replace h := h.2 q4
    refine ww_iload_n C dX4_sizesTogether_15 1 rfl ?_
    refine ww_aload_n C dX4_sizesTogether_16 0 rfl ?_
    refine gf_Glyph_sizes C (q := q) hq bw_179 dX4_sizesTogether_17 ?_
    refine ww_iload_n C dX4_sizesTogether_20 2 rfl ?_
    refine ww_cVf (As := [.int v2]) (rest := [.int v1]) C ok_X8_get bw_488 dX4_sizesTogether_21 (cm_X8_get (g4_0 hq)) (rc_Row (g4_0 hq)) rfl ⟨Nat.le_of_ble_eq_true rfl, Nat.le_of_ble_eq_true rfl⟩ (Nat.le_of_ble_eq_true rfl) (c2 := 0) (s2 := 0) rfl rfl ⟨Nat.le_of_ble_eq_true rfl, Nat.le_of_ble_eq_true rfl⟩ rfl ?_
    refine ww_iadd C dX4_sizesTogether_24 ?_
    refine ww_topi (fun x5 e_x5 => ?_)
    replace h := h x5 e_x5
    refine ww_istore_n (lv2 := [(1, .int x5), (0, .ref (gad g (136 + q))), (2, .int v2)]) C dX4_sizesTogether_25 rfl (Nat.le_of_ble_eq_true rfl) rfl ?_
    obtain ⟨x6, e_x6⟩ : ∃ z : Int32, z = v2 + 1 := ⟨_, rfl⟩
    replace h := h x6 e_x6
    refine ww_iinc (v := x6) (lv2 := [(2, .int x6), (1, .int x5), (0, .ref (gad g (136 + q)))]) C dX4_sizesTogether_26 2 rfl (by rw [e_x6]; rfl) (Nat.le_of_ble_eq_true rfl) rfl ?_
    refine ww_goto (tgt := 4) C dX4_sizesTogether_29 (by decide) ?_
    exact ww_sub [2, 1, 0] rfl (h hT)
def wp_X4_sizesTogether (S : St) (q : Nat) (P : Int32 → St → Prop) : Prop :=
  ∀ (X4 : St → Int32 → Int32 → Prop), (∀ S v1 v2, st_X4_sizesTogether_4 q P X4 S v1 v2 → X4 S v1 v2) → X4 S 0 0
set_option maxHeartbeats 4000000 in
set_option maxRecDepth 100000 in
theorem run_X4_sizesTogether {l : Launch} {g : Gx} {S : St} {q : Nat} {P : Int32 → St → Prop} (hq : q < 12) (h : rowsLe S → wp_X4_sizesTogether S q P) : CMi g l yX4_sizesTogether cX4_sizesTogether 3 (some .int) rm_X4_sizesTogether [.ref (gad g (136 + q))] S P := cm_entry (own := RX4) (plainFor_of_name (by decide)) rfl (Nat.le_of_ble_eq_true rfl) rfl (fun hle f hf C hrt => by
  subst hf
  replace h := h hle
  obtain ⟨T0, hT⟩ : ∃ T, S.2.2.1 = T := ⟨_, rfl⟩
  rw [hT]
  replace h := h (at_X4_sizesTogether_4 f g T0 q P) (fun S v1 v2 h => run_X4_sizesTogether_4 C hrt hq h)
  refine ww_iconst (v := 0) C dX4_sizesTogether_0 (by decide) ?_
  refine ww_istore_n (lv2 := [(1, .int 0), (0, .ref (gad g (136 + q)))]) C dX4_sizesTogether_1 rfl (Nat.le_of_ble_eq_true rfl) rfl ?_
  refine ww_iconst (v := 0) C dX4_sizesTogether_2 (by decide) ?_
  refine ww_istore_n (lv2 := [(2, .int 0), (1, .int 0), (0, .ref (gad g (136 + q)))]) C dX4_sizesTogether_3 rfl (Nat.le_of_ble_eq_true rfl) rfl ?_
  exact ww_sub [2, 1, 0] rfl (h hT))
