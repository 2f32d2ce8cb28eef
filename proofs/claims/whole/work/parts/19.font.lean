abbrev rm_X3_glyphCount : Room := { frames := 0, cells := 0, slots := 0, locals := 0 }
theorem ok_X3_glyphCount : MOK yX3_glyphCount RX3 cX3_glyphCount 1 (some .int) 0 := ⟨bw_322, bw_323, bw_67, bw_324, by decide +kernel⟩
def wp_X3_glyphCount (S : St) (j : Nat) (P : Int32 → St → Prop) : Prop :=
  P (S.2.1 1 j) S
set_option maxHeartbeats 4000000 in
set_option maxRecDepth 100000 in
theorem run_X3_glyphCount {l : Launch} {g : Gx} {S : St} {j : Nat} {P : Int32 → St → Prop} (hj : j < 2) (h : rowsLe S → wp_X3_glyphCount S j P) : CMi g l yX3_glyphCount cX3_glyphCount 1 (some .int) rm_X3_glyphCount [.ref (gad g (148 + j))] S P := cm_entry (own := RX3) (plainFor_of_name (by decide)) rfl (Nat.le_of_ble_eq_true rfl) rfl (fun hle f hf C hrt => by
  subst hf
  replace h := h hle
  obtain ⟨T0, hT⟩ : ∃ T, S.2.2.1 = T := ⟨_, rfl⟩
  rw [hT]
  unfold wp_X3_glyphCount at h
  refine ww_aload_n C dX3_glyphCount_0 0 rfl ?_
  refine gf_Font_glyphCount C (j := j) hj bw_201 dX3_glyphCount_1 ?_
  exact ww_iret C hrt dX3_glyphCount_4 hT h)
def fv_X3_glyphCount (S : St) (j : Nat)  : Int32 := (S.2.1 1 j)
set_option maxHeartbeats 4000000 in
set_option maxRecDepth 100000 in
theorem sp_X3_glyphCount {S : St} {j : Nat}  {P : Int32 → St → Prop} (h : P (fv_X3_glyphCount S j ) S) : wp_X3_glyphCount S j P := by
  unfold wp_X3_glyphCount
  unfold fv_X3_glyphCount at h
  exact h
theorem cm_X3_glyphCount {l : Launch} {g : Gx} {S : St} {j : Nat} (hj : j < 2) : CMi g l yX3_glyphCount cX3_glyphCount 1 (some .int) rm_X3_glyphCount [.ref (gad g (148 + j))] S (fun v S2 => v = fv_X3_glyphCount S j ∧ S2 = S) := run_X3_glyphCount hj (fun _ => sp_X3_glyphCount ⟨rfl, rfl⟩)
abbrev rm_X3_addGlyph : Room := { frames := 2, cells := 0, slots := 0, locals := 41 }
theorem ok_X3_addGlyph : MOK yX3_addGlyph RX3 cX3_addGlyph 2 (some .int) 1 := ⟨bw_375, bw_376, bw_67, bw_377, by decide +kernel⟩
def wp_X3_addGlyph_30 (j : Nat) (a : Int32) (S : St)  (P : Int32 → St → Prop) : Prop :=
  P ((S.2.1 1 j) - 1) S
set_option maxHeartbeats 4000000 in
set_option maxRecDepth 100000 in
theorem run_X3_addGlyph_30 {f : Fx} {g : Gx} {T0 : List (Nat × Nat × Nat)} {S : St} {j : Nat} {a : Int32} {P : Int32 → St → Prop} (C : Cx f g cX3_addGlyph 2 RX3) (hrt : (fmeth f).sig.returnType = (some .int)) (hj : j < 2)  (hT : S.2.2.1 = T0)  (h : wp_X3_addGlyph_30 j a S  P) : WW f rm_X3_addGlyph g 2 0 0 (Qi f g 0 0 T0 P) S 30 [(0, .ref (gad g (148 + j)))] [] := by
  unfold wp_X3_addGlyph_30 at h
  refine ww_aload_n C dX3_addGlyph_30 0 rfl ?_
  refine gf_Font_glyphCount C (j := j) hj bw_201 dX3_addGlyph_31 ?_
  refine ww_iconst (v := 1) C dX3_addGlyph_34 (by decide) ?_
  refine ww_isub C dX3_addGlyph_35 ?_
  exact ww_iret C hrt dX3_addGlyph_36 hT h
def wp_X3_addGlyph (S : St) (j : Nat) (a : Int32) (P : Int32 → St → Prop) : Prop :=
  ((6 ≤ (S.2.1 1 j) → wp_X3_addGlyph_30 j a S  P) ∧ (¬ 6 ≤ (S.2.1 1 j) → ∀ S5 : St, S5 = stM S 1 j ((S.2.1 1 j) + 1) → ∀ S6 : St, S6 = fs_X4_begin S5 (lgId S5 j) a → wp_X3_addGlyph_30 j a S6  P))
set_option maxHeartbeats 4000000 in
set_option maxRecDepth 100000 in
theorem run_X3_addGlyph {l : Launch} {g : Gx} {S : St} {j : Nat} {a : Int32} {P : Int32 → St → Prop} (hj : j < 2) (h : rowsLe S → wp_X3_addGlyph S j a P) : CMi g l yX3_addGlyph cX3_addGlyph 2 (some .int) rm_X3_addGlyph [.ref (gad g (148 + j)), .int a] S P := cm_entry (own := RX3) (plainFor_of_name (by decide)) rfl (Nat.le_of_ble_eq_true rfl) rfl (fun hle f hf C hrt => by
  subst hf
  replace h := h hle
  obtain ⟨T0, hT⟩ : ∃ T, S.2.2.1 = T := ⟨_, rfl⟩
  rw [hT]
  unfold wp_X3_addGlyph at h
  refine ww_aload_n C dX3_addGlyph_0 0 rfl ?_
  refine gf_Font_glyphCount C (j := j) hj bw_201 dX3_addGlyph_1 ?_
  refine ww_aload_n C dX3_addGlyph_4 0 rfl ?_
  refine gf_Font_glyphs C (j := j) hj bw_199 dX3_addGlyph_5 ?_
  refine gal C hj dX3_addGlyph_8 ?_
  refine ww_icmp_ge (tgt := 30) C dX3_addGlyph_9 (by decide) (fun q4 => ?_) (fun q4 => ?_)
  · replace h := h.1 q4
    exact ww_sub [0] rfl (run_X3_addGlyph_30 C hrt hj hT  h)
  · replace h := h.2 q4
    refine ww_aload_n C dX3_addGlyph_12 0 rfl ?_
    refine ww_dup C dX3_addGlyph_13 rfl ?_
    refine gf_Font_glyphCount C (j := j) hj bw_201 dX3_addGlyph_14 ?_
    refine ww_iconst (v := 1) C dX3_addGlyph_17 (by decide) ?_
    refine ww_iadd C dX3_addGlyph_18 ?_
    refine pf_Font_glyphCount C (j := j) hj bw_201 dX3_addGlyph_19 ?_
    refine ww_nm (fun S5 e_S5 => ?_)
    replace h := h S5 e_S5
    have hT_S5 : S5.2.2.1 = T0 := by rw [e_S5]; exact hT
    refine ww_aload_n C dX3_addGlyph_22 0 rfl ?_
    refine ww_cVr (As := []) (rest := []) C ok_X3_latestGlyph bw_349 dX3_addGlyph_23 (cm_X3_latestGlyph hj) (rc_Font hj) rfl ⟨Nat.le_of_ble_eq_true rfl, Nat.le_of_ble_eq_true rfl⟩ (Nat.le_of_ble_eq_true rfl) (c2 := 0) (s2 := 0) rfl rfl ⟨Nat.le_of_ble_eq_true rfl, Nat.le_of_ble_eq_true rfl⟩ rfl ?_
    refine ww_iload_n C dX3_addGlyph_26 1 rfl ?_
    refine ww_cVg (As := [.int a]) (rest := []) C ok_X4_begin bw_378 dX3_addGlyph_27 (cm_X4_begin (lgId_lt hj)) (rc_Glyph (lgId_lt hj)) rfl ⟨Nat.le_of_ble_eq_true rfl, Nat.le_of_ble_eq_true rfl⟩ (Nat.le_of_ble_eq_true rfl) (c2 := 0) (s2 := 0) rfl rfl ⟨Nat.le_of_ble_eq_true rfl, Nat.le_of_ble_eq_true rfl⟩ rfl (fun hTg => ?_)
    refine ww_nm (fun S6 e_S6 => ?_)
    replace h := h S6 e_S6
    have hT_S6 : S6.2.2.1 = T0 := by rw [e_S6, hTg]; exact hT_S5
    exact ww_sub [0] rfl (run_X3_addGlyph_30 C hrt hj hT_S6  h))
def fv_X3_addGlyph_30 (S : St) (j : Nat) (a : Int32)  : Int32 := ((S.2.1 1 j) - 1)
def fs_X3_addGlyph_30 (S : St) (j : Nat) (a : Int32)  : St := S
set_option maxHeartbeats 4000000 in
set_option maxRecDepth 100000 in
theorem sp_X3_addGlyph_30 {S : St} {j : Nat} {a : Int32}  {P : Int32 → St → Prop} (h : P (fv_X3_addGlyph_30 S j a ) (fs_X3_addGlyph_30 S j a )) : wp_X3_addGlyph_30 j a S  P := by
  unfold wp_X3_addGlyph_30
  unfold fv_X3_addGlyph_30 fs_X3_addGlyph_30 at h
  exact h
def fv_X3_addGlyph (S : St) (j : Nat) (a : Int32)  : Int32 := (if 6 ≤ (S.2.1 1 j) then (fv_X3_addGlyph_30 S j a) else (fv_X3_addGlyph_30 ((fs_X4_begin (stM S 1 j ((S.2.1 1 j) + 1)) (lgId (stM S 1 j ((S.2.1 1 j) + 1)) j) a)) j a))
def fs_X3_addGlyph (S : St) (j : Nat) (a : Int32)  : St := (if 6 ≤ (S.2.1 1 j) then (fs_X3_addGlyph_30 S j a) else (fs_X3_addGlyph_30 ((fs_X4_begin (stM S 1 j ((S.2.1 1 j) + 1)) (lgId (stM S 1 j ((S.2.1 1 j) + 1)) j) a)) j a))
set_option maxHeartbeats 4000000 in
set_option maxRecDepth 100000 in
theorem sp_X3_addGlyph {S : St} {j : Nat} {a : Int32}  {P : Int32 → St → Prop} (h : P (fv_X3_addGlyph S j a ) (fs_X3_addGlyph S j a )) : wp_X3_addGlyph S j a P := by
  unfold wp_X3_addGlyph
  unfold fv_X3_addGlyph fs_X3_addGlyph at h
  refine ⟨fun q4 => ?_, fun q4 => ?_⟩
  · simp only [if_pos q4] at h
    exact sp_X3_addGlyph_30 h
  · simp only [if_neg q4] at h
    intro S5 e_S5
    subst e_S5
    intro S6 e_S6
    subst e_S6
    exact sp_X3_addGlyph_30 h
theorem cm_X3_addGlyph {l : Launch} {g : Gx} {S : St} {j : Nat} {a : Int32} (hj : j < 2) : CMi g l yX3_addGlyph cX3_addGlyph 2 (some .int) rm_X3_addGlyph [.ref (gad g (148 + j)), .int a] S (fun v S2 => v = fv_X3_addGlyph S j a ∧ S2 = fs_X3_addGlyph S j a) := run_X3_addGlyph hj (fun _ => sp_X3_addGlyph ⟨rfl, rfl⟩)
abbrev rm_X3_hasEmptyContour : Room := { frames := 3, cells := 0, slots := 0, locals := 61 }
theorem ok_X3_hasEmptyContour : MOK yX3_hasEmptyContour RX3 cX3_hasEmptyContour 1 (some .boolean) 0 := ⟨bw_346, bw_347, bw_67, bw_348, by decide +kernel⟩
def wp_X3_hasEmptyContour_22 (j : Nat) (S : St) (s0 : Int32) (P : Int32 → St → Prop) : Prop :=
  ((s0 = 0 ∨ s0 = 1) ∧ P s0 S)
set_option maxHeartbeats 4000000 in
set_option maxRecDepth 100000 in
theorem run_X3_hasEmptyContour_22 {f : Fx} {g : Gx} {T0 : List (Nat × Nat × Nat)} {S : St} {j : Nat} {P : Int32 → St → Prop} (C : Cx f g cX3_hasEmptyContour 1 RX3) (hrt : (fmeth f).sig.returnType = (some .boolean)) (hj : j < 2) {s0 : Int32} (hT : S.2.2.1 = T0)  (h : wp_X3_hasEmptyContour_22 j S s0 P) : WW f rm_X3_hasEmptyContour g 1 0 0 (Qi f g 0 0 T0 P) S 22 [] [.int s0] := by
  unfold wp_X3_hasEmptyContour_22 at h
  exact ww_zret C hrt dX3_hasEmptyContour_22 hT h.1 h.2
def wp_X3_hasEmptyContour_21 (j : Nat) (S : St)  (P : Int32 → St → Prop) : Prop :=
  wp_X3_hasEmptyContour_22 j S 0 P
set_option maxHeartbeats 4000000 in
set_option maxRecDepth 100000 in
theorem run_X3_hasEmptyContour_21 {f : Fx} {g : Gx} {T0 : List (Nat × Nat × Nat)} {S : St} {j : Nat} {P : Int32 → St → Prop} (C : Cx f g cX3_hasEmptyContour 1 RX3) (hrt : (fmeth f).sig.returnType = (some .boolean)) (hj : j < 2)  (hT : S.2.2.1 = T0)  (h : wp_X3_hasEmptyContour_21 j S  P) : WW f rm_X3_hasEmptyContour g 1 0 0 (Qi f g 0 0 T0 P) S 21 [] [] := by
  unfold wp_X3_hasEmptyContour_21 at h
  refine ww_iconst (v := 0) C dX3_hasEmptyContour_21 (by decide) ?_
  exact ww_sub [] rfl (run_X3_hasEmptyContour_22 C hrt hj hT  h)
def wp_X3_hasEmptyContour (S : St) (j : Nat) (P : Int32 → St → Prop) : Prop :=
  (((S.2.1 1 j) ≤ 0 → wp_X3_hasEmptyContour_21 j S  P) ∧ (¬ (S.2.1 1 j) ≤ 0 → wp_X4_hasEmptyContour S (lgId S j) (fun r7 S6 => ((r7 = 0 → wp_X3_hasEmptyContour_21 j S6  P) ∧ (¬ r7 = 0 → wp_X3_hasEmptyContour_22 j S6 1 P)))))
set_option maxHeartbeats 4000000 in
set_option maxRecDepth 100000 in
theorem run_X3_hasEmptyContour {l : Launch} {g : Gx} {S : St} {j : Nat} {P : Int32 → St → Prop} (hj : j < 2) (h : rowsLe S → wp_X3_hasEmptyContour S j P) : CMi g l yX3_hasEmptyContour cX3_hasEmptyContour 1 (some .boolean) rm_X3_hasEmptyContour [.ref (gad g (148 + j))] S P := cm_entry (own := RX3) (plainFor_of_name (by decide)) rfl (Nat.le_of_ble_eq_true rfl) rfl (fun hle f hf C hrt => by
  subst hf
  replace h := h hle
  obtain ⟨T0, hT⟩ : ∃ T, S.2.2.1 = T := ⟨_, rfl⟩
  rw [hT]
  unfold wp_X3_hasEmptyContour at h
  refine ww_aload_n C dX3_hasEmptyContour_0 0 rfl ?_
  refine gf_Font_glyphCount C (j := j) hj bw_201 dX3_hasEmptyContour_1 ?_
  refine ww_if_le (tgt := 21) C dX3_hasEmptyContour_4 (by decide) (fun q5 => ?_) (fun q5 => ?_)
  · replace h := h.1 q5
    exact ww_sub [] rfl (run_X3_hasEmptyContour_21 C hrt hj hT  h)
  · replace h := h.2 q5
    refine ww_aload_n C dX3_hasEmptyContour_7 0 rfl ?_
    refine ww_cVr (As := []) (rest := []) C ok_X3_latestGlyph bw_349 dX3_hasEmptyContour_8 (cm_X3_latestGlyph hj) (rc_Font hj) rfl ⟨Nat.le_of_ble_eq_true rfl, Nat.le_of_ble_eq_true rfl⟩ (Nat.le_of_ble_eq_true rfl) (c2 := 0) (s2 := 0) rfl rfl ⟨Nat.le_of_ble_eq_true rfl, Nat.le_of_ble_eq_true rfl⟩ rfl ?_
    refine ww_cVi (As := []) (rest := []) C ok_X4_hasEmptyContour bw_357 dX3_hasEmptyContour_11 (run_X4_hasEmptyContour (lgId_lt hj) (fun _ => h)) (rc_Glyph (lgId_lt hj)) rfl ⟨Nat.le_of_ble_eq_true rfl, Nat.le_of_ble_eq_true rfl⟩ (Nat.le_of_ble_eq_true rfl) (c2 := 0) (s2 := 0) rfl rfl ⟨Nat.le_of_ble_eq_true rfl, Nat.le_of_ble_eq_true rfl⟩ rfl (fun r7 S6 hp hTg => ?_)
    replace h := hp
    have hT_S6 : S6.2.2.1 = T0 := by rw [hTg]; exact hT
    refine ww_if_eq (tgt := 21) C dX3_hasEmptyContour_14 (by decide) (fun q8 => ?_) (fun q8 => ?_)
    · replace h := h.1 q8
      exact ww_sub [] rfl (run_X3_hasEmptyContour_21 C hrt hj hT_S6  h)
    · replace h := h.2 q8
      refine ww_iconst (v := 1) C dX3_hasEmptyContour_17 (by decide) ?_
      refine ww_goto (tgt := 22) C dX3_hasEmptyContour_18 (by decide) ?_
      exact ww_sub [] rfl (run_X3_hasEmptyContour_22 C hrt hj hT_S6  h))
abbrev rm_X3_hasTable : Room := { frames := 1, cells := 0, slots := 0, locals := 21 }
theorem ok_X3_hasTable : MOK yX3_hasTable RX3 cX3_hasTable 2 (some .boolean) 1 := ⟨bw_570, bw_571, bw_67, bw_572, by decide +kernel⟩
def wp_X3_hasTable_36 (j : Nat) (t : Int32) (S : St) (s0 : Int32) (P : Int32 → St → Prop) : Prop :=
  ((s0 = 0 ∨ s0 = 1) ∧ P s0 S)
set_option maxHeartbeats 4000000 in
set_option maxRecDepth 100000 in
theorem run_X3_hasTable_36 {f : Fx} {g : Gx} {T0 : List (Nat × Nat × Nat)} {S : St} {j : Nat} {t : Int32} {P : Int32 → St → Prop} (C : Cx f g cX3_hasTable 2 RX3) (hrt : (fmeth f).sig.returnType = (some .boolean)) (hj : j < 2) {s0 : Int32} (hT : S.2.2.1 = T0)  (h : wp_X3_hasTable_36 j t S s0 P) : WW f rm_X3_hasTable g 2 0 0 (Qi f g 0 0 T0 P) S 36 [] [.int s0] := by
  unfold wp_X3_hasTable_36 at h
  exact ww_zret C hrt dX3_hasTable_36 hT h.1 h.2
def wp_X3_hasTable (S : St) (j : Nat) (t : Int32) (P : Int32 → St → Prop) : Prop :=
  ((2 ≤ t → (((rLen S (rwId S j t)) ≤ 0 → wp_X3_hasTable_36 j t S 0 P) ∧ (¬ (rLen S (rwId S j t)) ≤ 0 → wp_X3_hasTable_36 j t S 1 P))) ∧ (¬ 2 ≤ t → (((S.2.1 1 j) ≤ 0 → wp_X3_hasTable_36 j t S 0 P) ∧ (¬ (S.2.1 1 j) ≤ 0 → wp_X3_hasTable_36 j t S 1 P))))
set_option maxHeartbeats 4000000 in
set_option maxRecDepth 100000 in
theorem run_X3_hasTable {l : Launch} {g : Gx} {S : St} {j : Nat} {t : Int32} {P : Int32 → St → Prop} (hj : j < 2) (h : rowsLe S → wp_X3_hasTable S j t P) : CMi g l yX3_hasTable cX3_hasTable 2 (some .boolean) rm_X3_hasTable [.ref (gad g (148 + j)), .int t] S P := cm_entry (own := RX3) (plainFor_of_name (by decide)) rfl (Nat.le_of_ble_eq_true rfl) rfl (fun hle f hf C hrt => by
  subst hf
  replace h := h hle
  obtain ⟨T0, hT⟩ : ∃ T, S.2.2.1 = T := ⟨_, rfl⟩
  rw [hT]
  unfold wp_X3_hasTable at h
  refine ww_iload_n C dX3_hasTable_0 1 rfl ?_
  refine ww_iconst (v := 2) C dX3_hasTable_1 (by decide) ?_
  refine ww_icmp_ge (tgt := 20) C dX3_hasTable_2 (by decide) (fun q4 => ?_) (fun q4 => ?_)
  · replace h := h.1 q4
    refine ww_aload_n C dX3_hasTable_20 0 rfl ?_
    refine ww_iload_n C dX3_hasTable_21 1 rfl ?_
    refine ww_cVr (As := [.int t]) (rest := []) C ok_X3_tableRow bw_573 dX3_hasTable_22 (cm_X3_tableRow hj) (rc_Font hj) rfl ⟨Nat.le_of_ble_eq_true rfl, Nat.le_of_ble_eq_true rfl⟩ (Nat.le_of_ble_eq_true rfl) (c2 := 0) (s2 := 0) rfl rfl ⟨Nat.le_of_ble_eq_true rfl, Nat.le_of_ble_eq_true rfl⟩ rfl ?_
    refine ww_cVf (As := []) (rest := []) C ok_X8_length bw_574 dX3_hasTable_25 (cm_X8_length (rwId_lt hj)) (rc_Row (rwId_lt hj)) rfl ⟨Nat.le_of_ble_eq_true rfl, Nat.le_of_ble_eq_true rfl⟩ (Nat.le_of_ble_eq_true rfl) (c2 := 0) (s2 := 0) rfl rfl ⟨Nat.le_of_ble_eq_true rfl, Nat.le_of_ble_eq_true rfl⟩ rfl ?_
    refine ww_if_le (tgt := 35) C dX3_hasTable_28 (by decide) (fun q5 => ?_) (fun q5 => ?_)
    · replace h := h.1 q5
      refine ww_iconst (v := 0) C dX3_hasTable_35 (by decide) ?_
      exact ww_sub [] rfl (run_X3_hasTable_36 C hrt hj hT  h)
    · replace h := h.2 q5
      refine ww_iconst (v := 1) C dX3_hasTable_31 (by decide) ?_
      refine ww_goto (tgt := 36) C dX3_hasTable_32 (by decide) ?_
      exact ww_sub [] rfl (run_X3_hasTable_36 C hrt hj hT  h)
  · replace h := h.2 q4
    refine ww_aload_n C dX3_hasTable_5 0 rfl ?_
    refine gf_Font_glyphCount C (j := j) hj bw_201 dX3_hasTable_6 ?_
    refine ww_if_le (tgt := 16) C dX3_hasTable_9 (by decide) (fun q6 => ?_) (fun q6 => ?_)
    · replace h := h.1 q6
      refine ww_iconst (v := 0) C dX3_hasTable_16 (by decide) ?_
      refine ww_goto (tgt := 36) C dX3_hasTable_17 (by decide) ?_
      exact ww_sub [] rfl (run_X3_hasTable_36 C hrt hj hT  h)
    · replace h := h.2 q6
      refine ww_iconst (v := 1) C dX3_hasTable_12 (by decide) ?_
      refine ww_goto (tgt := 36) C dX3_hasTable_13 (by decide) ?_
      exact ww_sub [] rfl (run_X3_hasTable_36 C hrt hj hT  h))
abbrev rm_X3_tableCount : Room := { frames := 2, cells := 0, slots := 0, locals := 42 }
theorem ok_X3_tableCount : MOK yX3_tableCount RX3 cX3_tableCount 3 (some .int) 0 := ⟨bw_566, bw_567, bw_67, bw_568, by decide +kernel⟩
def st_X3_tableCount_4 (j : Nat) (P : Int32 → St → Prop) (X4 : St → Int32 → Int32 → Prop) (X24 : St → Int32 → Int32 → Int32 → Prop) (S : St) (v1 : Int32) (v2 : Int32) : Prop :=
  ((7 ≤ v2 → P v1 S) ∧ (¬ 7 ≤ v2 → wp_X3_hasTable S j v2 (fun r9 S8 => ((r9 = 0 → X24 S8 v2 0 v1) ∧ (¬ r9 = 0 → X24 S8 v2 1 v1)))))
def st_X3_tableCount_24 (j : Nat) (P : Int32 → St → Prop) (X4 : St → Int32 → Int32 → Prop) (X24 : St → Int32 → Int32 → Int32 → Prop) (S : St) (v2 : Int32) (s0 : Int32) (s1 : Int32) : Prop :=
  ∀ x11 : Int32, x11 = s1 + s0 → ∀ x12 : Int32, x12 = v2 + 1 → X4 S x11 x12
def at_X3_tableCount_4 (f : Fx) (g : Gx) (T0 : List (Nat × Nat × Nat)) (j : Nat) (P : Int32 → St → Prop) (S : St) (v1 : Int32) (v2 : Int32) : Prop := S.2.2.1 = T0 → WW f rm_X3_tableCount g 3 0 0 (Qi f g 0 0 T0 P) S 4 [(0, .ref (gad g (148 + j))), (1, .int v1), (2, .int v2)] []
def at_X3_tableCount_24 (f : Fx) (g : Gx) (T0 : List (Nat × Nat × Nat)) (j : Nat) (P : Int32 → St → Prop) (S : St) (v2 : Int32) (s0 : Int32) (s1 : Int32) : Prop := S.2.2.1 = T0 → WW f rm_X3_tableCount g 3 0 0 (Qi f g 0 0 T0 P) S 24 [(0, .ref (gad g (148 + j))), (2, .int v2)] [.int s0, .int s1]
set_option maxHeartbeats 4000000 in
set_option maxRecDepth 100000 in
theorem run_X3_tableCount_4 {f : Fx} {g : Gx} {T0 : List (Nat × Nat × Nat)} {S : St} {j : Nat} {P : Int32 → St → Prop} (C : Cx f g cX3_tableCount 3 RX3) (hrt : (fmeth f).sig.returnType = (some .int)) (hj : j < 2) {v1 : Int32} {v2 : Int32} (h : st_X3_tableCount_4 j P (at_X3_tableCount_4 f g T0 j P) (at_X3_tableCount_24 f g T0 j P) S v1 v2) : at_X3_tableCount_4 f g T0 j P S v1 v2 := by
  intro hT 
  unfold st_X3_tableCount_4 at h
  refine ww_iload_n C dX3_tableCount_4 2 rfl ?_
  refine ww_bipush (v := 7) C dX3_tableCount_5 (by decide) ?_
  refine ww_icmp_ge (tgt := 32) C dX3_tableCount_7 (by decide) (fun q7 => ?_) (fun q7 => ?_)
  · replace h := h.1 q7
    refine ww_iload_n C dX3_tableCount_32 1 rfl ?_
    exact ww_iret C hrt dX3_tableCount_33 hT h
  · replace h := h.2 q7
    refine ww_iload_n C dX3_tableCount_10 1 rfl ?_
    refine ww_aload_n C dX3_tableCount_11 0 rfl ?_
    refine ww_iload_n C dX3_tableCount_12 2 rfl ?_
    refine ww_cVi (As := [.int v2]) (rest := [.int v1]) C ok_X3_hasTable bw_569 dX3_tableCount_13 (run_X3_hasTable hj (fun _ => h)) (rc_Font hj) rfl ⟨Nat.le_of_ble_eq_true rfl, Nat.le_of_ble_eq_true rfl⟩ (Nat.le_of_ble_eq_true rfl) (c2 := 0) (s2 := 0) rfl rfl ⟨Nat.le_of_ble_eq_true rfl, Nat.le_of_ble_eq_true rfl⟩ rfl (fun r9 S8 hp hTg => ?_)
    replace h := hp
    have hT_S8 : S8.2.2.1 = T0 := by rw [hTg]; exact hT
    refine ww_if_eq (tgt := 23) C dX3_tableCount_16 (by decide) (fun q10 => ?_) (fun q10 => ?_)
    · replace h := h.1 q10
      refine ww_iconst (v := 0) C dX3_tableCount_23 (by decide) ?_
      exact ww_sub [0, 2] rfl (h hT_S8)
    · replace h := h.2 q10
      refine ww_iconst (v := 1) C dX3_tableCount_19 (by decide) ?_
      refine ww_goto (tgt := 24) C dX3_tableCount_20 (by decide) ?_
      exact ww_sub [0, 2] rfl (h hT_S8)
set_option maxHeartbeats 4000000 in
set_option maxRecDepth 100000 in
theorem run_X3_tableCount_24 {f : Fx} {g : Gx} {T0 : List (Nat × Nat × Nat)} {S : St} {j : Nat} {P : Int32 → St → Prop} (C : Cx f g cX3_tableCount 3 RX3) (hrt : (fmeth f).sig.returnType = (some .int)) (hj : j < 2) {v2 : Int32} {s0 : Int32} {s1 : Int32} (h : st_X3_tableCount_24 j P (at_X3_tableCount_4 f g T0 j P) (at_X3_tableCount_24 f g T0 j P) S v2 s0 s1) : at_X3_tableCount_24 f g T0 j P S v2 s0 s1 := by
  intro hT 
  unfold st_X3_tableCount_24 at h
  refine ww_iadd C dX3_tableCount_24 ?_
  refine ww_topi (fun x11 e_x11 => ?_)
  replace h := h x11 e_x11
  refine ww_istore_n (lv2 := [(1, .int x11), (0, .ref (gad g (148 + j))), (2, .int v2)]) C dX3_tableCount_25 rfl (Nat.le_of_ble_eq_true rfl) rfl ?_
  obtain ⟨x12, e_x12⟩ : ∃ z : Int32, z = v2 + 1 := ⟨_, rfl⟩
  replace h := h x12 e_x12
  refine ww_iinc (v := x12) (lv2 := [(2, .int x12), (1, .int x11), (0, .ref (gad g (148 + j)))]) C dX3_tableCount_26 2 rfl (by rw [e_x12]; rfl) (Nat.le_of_ble_eq_true rfl) rfl ?_
  refine ww_goto (tgt := 4) C dX3_tableCount_29 (by decide) ?_
  exact ww_sub [2, 1, 0] rfl (h hT)
def wp_X3_tableCount (S : St) (j : Nat) (P : Int32 → St → Prop) : Prop :=
  ∀ (X4 : St → Int32 → Int32 → Prop) (X24 : St → Int32 → Int32 → Int32 → Prop), (∀ S v1 v2, st_X3_tableCount_4 j P X4 X24 S v1 v2 → X4 S v1 v2) → (∀ S v2 s0 s1, st_X3_tableCount_24 j P X4 X24 S v2 s0 s1 → X24 S v2 s0 s1) → X4 S 0 0
set_option maxHeartbeats 4000000 in
set_option maxRecDepth 100000 in
theorem run_X3_tableCount {l : Launch} {g : Gx} {S : St} {j : Nat} {P : Int32 → St → Prop} (hj : j < 2) (h : rowsLe S → wp_X3_tableCount S j P) : CMi g l yX3_tableCount cX3_tableCount 3 (some .int) rm_X3_tableCount [.ref (gad g (148 + j))] S P := cm_entry (own := RX3) (plainFor_of_name (by decide)) rfl (Nat.le_of_ble_eq_true rfl) rfl (fun hle f hf C hrt => by
  subst hf
  replace h := h hle
  obtain ⟨T0, hT⟩ : ∃ T, S.2.2.1 = T := ⟨_, rfl⟩
  rw [hT]
  replace h := h (at_X3_tableCount_4 f g T0 j P) (at_X3_tableCount_24 f g T0 j P) (fun S v1 v2 h => run_X3_tableCount_4 C hrt hj h) (fun S v2 s0 s1 h => run_X3_tableCount_24 C hrt hj h)
  refine ww_iconst (v := 0) C dX3_tableCount_0 (by decide) ?_
  refine ww_istore_n (lv2 := [(1, .int 0), (0, .ref (gad g (148 + j)))]) C dX3_tableCount_1 rfl (Nat.le_of_ble_eq_true rfl) rfl ?_
  refine ww_iconst (v := 0) C dX3_tableCount_2 (by decide) ?_
  refine ww_istore_n (lv2 := [(2, .int 0), (1, .int 0), (0, .ref (gad g (148 + j)))]) C dX3_tableCount_3 rfl (Nat.le_of_ble_eq_true rfl) rfl ?_
  exact ww_sub [2, 1, 0] rfl (h hT))
