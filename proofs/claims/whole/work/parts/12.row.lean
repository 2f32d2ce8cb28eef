abbrev rm_X8_length : Room := { frames := 0, cells := 0, slots := 0, locals := 0 }
theorem ok_X8_length : MOK yX8_length RX8 cX8_length 1 (some .int) 0 := ⟨bw_362, bw_363, bw_62, bw_364, by decide +kernel⟩
def wp_X8_length (S : St) (r : Nat) (P : Int32 → St → Prop) : Prop :=
  P (nI (S.1 r).length) S
set_option maxHeartbeats 4000000 in
set_option maxRecDepth 100000 in
theorem run_X8_length {l : Launch} {g : Gx} {S : St} {r : Nat} {P : Int32 → St → Prop} (hr : r < 68) (h : rowsLe S → wp_X8_length S r P) : CMi g l yX8_length cX8_length 1 (some .int) rm_X8_length [.ref (gad g r)] S P := cm_entry (own := RX8) (plainFor_of_name (by decide)) rfl (Nat.le_of_ble_eq_true rfl) rfl (fun hle f hf C hrt => by
  subst hf
  replace h := h hle
  obtain ⟨T0, hT⟩ : ∃ T, S.2.2.1 = T := ⟨_, rfl⟩
  rw [hT]
  unfold wp_X8_length at h
  refine ww_aload_n C dX8_length_0 0 rfl ?_
  refine gf_Row_length C (r := r) hr bw_98 dX8_length_1 ?_
  exact ww_iret C hrt dX8_length_4 hT h)
def rLen (S : St) (r : Nat) : Int32 := nI (S.1 r).length
theorem cm_X8_length {l : Launch} {g : Gx} {S : St} {r : Nat} (hr : r < 68) : CMi g l yX8_length cX8_length 1 (some .int) rm_X8_length [.ref (gad g r)] S (fun v S2 => v = rLen S r ∧ S2 = S) := run_X8_length hr (fun hle => ⟨rfl, rfl⟩)
theorem cap_le (r : Nat) : gw_cap r ≤ 1500 := by
  unfold gw_cap
  repeat' split
  all_goals omega
theorem len_lt {S : St} {r : Nat} (hr : r < 68) (hle : rowsLe S) : (S.1 r).length < 2 ^ 31 := by
  have h1 := hle r hr
  have h2 := cap_le r
  omega
theorem getD_big {l : List Int32} {j : Nat} (h : l.length ≤ j) : l.getD j 0 = 0 := by simp [List.getD_eq_getElem?_getD, h]
theorem clamp_ge {x : Int32} {n : Nat} (hn : n < 2 ^ 31) (h : nI n ≤ x) : n ≤ x.toNatClampNeg := by
  have h0 : ¬ x < 0 := fun q => by
    have := Int32.lt_of_le_of_lt h q
    exact nI_pos hn this
  obtain ⟨j, hj, rfl⟩ := nI_of h0
  rw [nI_clamp hj]
  exact (nI_leI hn hj).mp h
theorem vp_of {x : Int32} {n : Nat} (hn : n < 2 ^ 31) (h0 : ¬ x < 0) (h1 : ¬ nI n ≤ x) : vp_in x n := by
  obtain ⟨j, hj, rfl⟩ := nI_of h0
  exact vp_in_nI (Nat.not_le.mp fun q => h1 ((nI_leI hn hj).mpr q)) hn
theorem stX_self {S : St} {r : Nat} : stX S r (S.1 r) = S := by
  unfold stX
  have : va_up S.1 r (S.1 r) = S.1 := by funext j; unfold va_up; split
                                         · rename_i h; rw [h]
                                         · rfl
  rw [this]
theorem stX_stX {S : St} {r : Nat} {a b : List Int32} : stX (stX S r a) r b = stX S r b := by
  unfold stX
  have : va_up (va_up S.1 r a) r b = va_up S.1 r b := by funext j; unfold va_up; split <;> rfl
  simp only [this]
theorem stX_at {S : St} {r : Nat} {a : List Int32} : (stX S r a).1 r = a := by simp [stX, va_up]
theorem stX_ne {S : St} {r q : Nat} {a : List Int32} (h : q ≠ r) : (stX S r a).1 q = S.1 q := by simp [stX, va_up, h]
theorem stX_2 {S : St} {r : Nat} {a : List Int32} : (stX S r a).2 = S.2 := rfl
/-- a list more at the end of a row, as far as there is room -/
def rApp (S : St) (r : Nat) (l : List Int32) : St := stX S r ((S.1 r ++ l).take (gw_cap r))
theorem take_app (L b : List Int32) (c : Nat) : (L.take c ++ b).take c = (L ++ b).take c := by
  by_cases h : L.length ≤ c
  · rw [List.take_of_length_le h]
  · rw [List.take_append_of_le_length (by rw [List.length_take]; omega), List.take_append_of_le_length (by omega), List.take_take, Nat.min_self]
theorem rApp_app {S : St} {r : Nat} {a b : List Int32} : rApp (rApp S r a) r b = rApp S r (a ++ b) := by
  unfold rApp
  rw [stX_stX, stX_at, take_app, List.append_assoc]
theorem rApp_nil {S : St} {r : Nat} (hr : r < 68) (hle : rowsLe S) : rApp S r [] = S := by
  unfold rApp
  rw [List.append_nil, List.take_of_length_le (hle r hr), stX_self]
theorem rApp_le {S : St} {r : Nat} {a : List Int32} (hle : rowsLe S) : rowsLe (rApp S r a) := fun q hq => by
  by_cases e : q = r
  · subst e
    unfold rApp
    rw [stX_at, List.length_take]
    omega
  · unfold rApp
    rw [stX_ne e]
    exact hle q hq
theorem rApp_at {S : St} {r : Nat} {a : List Int32} : (rApp S r a).1 r = (S.1 r ++ a).take (gw_cap r) := stX_at
theorem rApp_ne {S : St} {r q : Nat} {a : List Int32} (h : q ≠ r) : (rApp S r a).1 q = S.1 q := stX_ne h
theorem rApp_2 {S : St} {r : Nat} {a : List Int32} : (rApp S r a).2 = S.2 := rfl
abbrev rm_X8_get : Room := { frames := 0, cells := 0, slots := 0, locals := 0 }
theorem ok_X8_get : MOK yX8_get RX8 cX8_get 2 (some .int) 1 := ⟨bw_370, bw_371, bw_62, bw_372, by decide +kernel⟩
def wp_X8_get_31 (r : Nat) (k : Int32) (S : St) (s0 : Int32) (P : Int32 → St → Prop) : Prop :=
  P s0 S
set_option maxHeartbeats 4000000 in
set_option maxRecDepth 100000 in
theorem run_X8_get_31 {f : Fx} {g : Gx} {T0 : List (Nat × Nat × Nat)} {S : St} {r : Nat} {k : Int32} {P : Int32 → St → Prop} (C : Cx f g cX8_get 2 RX8) (hrt : (fmeth f).sig.returnType = (some .int)) (hr : r < 68) {s0 : Int32} (hT : S.2.2.1 = T0)  (h : wp_X8_get_31 r k S s0 P) : WW f rm_X8_get g 2 0 0 (Qi f g 0 0 T0 P) S 31 [] [.int s0] := by
  unfold wp_X8_get_31 at h
  exact ww_iret C hrt dX8_get_31 hT h
def wp_X8_get_30 (r : Nat) (k : Int32) (S : St)  (P : Int32 → St → Prop) : Prop :=
  wp_X8_get_31 r k S 0 P
set_option maxHeartbeats 4000000 in
set_option maxRecDepth 100000 in
theorem run_X8_get_30 {f : Fx} {g : Gx} {T0 : List (Nat × Nat × Nat)} {S : St} {r : Nat} {k : Int32} {P : Int32 → St → Prop} (C : Cx f g cX8_get 2 RX8) (hrt : (fmeth f).sig.returnType = (some .int)) (hr : r < 68)  (hT : S.2.2.1 = T0)  (h : wp_X8_get_30 r k S  P) : WW f rm_X8_get g 2 0 0 (Qi f g 0 0 T0 P) S 30 [] [] := by
  unfold wp_X8_get_30 at h
  refine ww_iconst (v := 0) C dX8_get_30 (by decide) ?_
  exact ww_sub [] rfl (run_X8_get_31 C hrt hr hT  h)
def wp_X8_get (S : St) (r : Nat) (k : Int32) (P : Int32 → St → Prop) : Prop :=
  ((k < 0 → wp_X8_get_30 r k S  P) ∧ (¬ k < 0 → (((nI (S.1 r).length) ≤ k → wp_X8_get_30 r k S  P) ∧ (¬ (nI (S.1 r).length) ≤ k → (((nI (gw_cap r)) ≤ k → wp_X8_get_30 r k S  P) ∧ (¬ (nI (gw_cap r)) ≤ k → (vp_in k (S.1 r).length ∧ wp_X8_get_31 r k S ((S.1 r).getD k.toNatClampNeg 0) P)))))))
set_option maxHeartbeats 4000000 in
set_option maxRecDepth 100000 in
theorem run_X8_get {l : Launch} {g : Gx} {S : St} {r : Nat} {k : Int32} {P : Int32 → St → Prop} (hr : r < 68) (h : rowsLe S → wp_X8_get S r k P) : CMi g l yX8_get cX8_get 2 (some .int) rm_X8_get [.ref (gad g r), .int k] S P := cm_entry (own := RX8) (plainFor_of_name (by decide)) rfl (Nat.le_of_ble_eq_true rfl) rfl (fun hle f hf C hrt => by
  subst hf
  replace h := h hle
  obtain ⟨T0, hT⟩ : ∃ T, S.2.2.1 = T := ⟨_, rfl⟩
  rw [hT]
  unfold wp_X8_get at h
  refine ww_iload_n C dX8_get_0 1 rfl ?_
  refine ww_if_lt (tgt := 30) C dX8_get_1 (by decide) (fun q4 => ?_) (fun q4 => ?_)
  · replace h := h.1 q4
    exact ww_sub [] rfl (run_X8_get_30 C hrt hr hT  h)
  · replace h := h.2 q4
    refine ww_iload_n C dX8_get_4 1 rfl ?_
    refine ww_aload_n C dX8_get_5 0 rfl ?_
    refine gf_Row_length C (r := r) hr bw_98 dX8_get_6 ?_
    refine ww_icmp_ge (tgt := 30) C dX8_get_9 (by decide) (fun q5 => ?_) (fun q5 => ?_)
    · replace h := h.1 q5
      exact ww_sub [] rfl (run_X8_get_30 C hrt hr hT  h)
    · replace h := h.2 q5
      refine ww_iload_n C dX8_get_12 1 rfl ?_
      refine ww_aload_n C dX8_get_13 0 rfl ?_
      refine gf_Row_cells C (r := r) hr bw_97 dX8_get_14 ?_
      refine al_row C hr dX8_get_17 ?_
      refine ww_icmp_ge (tgt := 30) C dX8_get_18 (by decide) (fun q6 => ?_) (fun q6 => ?_)
      · replace h := h.1 q6
        exact ww_sub [] rfl (run_X8_get_30 C hrt hr hT  h)
      · replace h := h.2 q6
        refine ww_aload_n C dX8_get_21 0 rfl ?_
        refine gf_Row_cells C (r := r) hr bw_97 dX8_get_22 ?_
        refine ww_iload_n C dX8_get_25 1 rfl ?_
        refine ia_row (r := r) C hr h.1 dX8_get_26 ?_
        replace h := h.2
        refine ww_goto (tgt := 31) C dX8_get_27 (by decide) ?_
        exact ww_sub [] rfl (run_X8_get_31 C hrt hr hT  h))
def rGet (S : St) (r : Nat) (k : Int32) : Int32 := if k < 0 then 0 else (S.1 r).getD k.toNatClampNeg 0
theorem sp_get {S : St} {r : Nat} {k : Int32} (hr : r < 68) (hle : rowsLe S) : wp_X8_get S r k (fun v S2 => v = rGet S r k ∧ S2 = S) := by
  have hb := len_lt hr hle
  have hz : k < 0 → rGet S r k = 0 := fun q => by simp [rGet, q]
  refine ⟨fun q => ⟨(hz q).symm, rfl⟩, fun q => ⟨fun q1 => ⟨?_, rfl⟩, fun q1 => ⟨fun q2 => ⟨?_, rfl⟩, fun q2 => ⟨vp_of hb q q1, ?_, rfl⟩⟩⟩⟩
  · simp only [rGet, if_neg q]
    exact (getD_big (clamp_ge hb q1)).symm
  · simp only [rGet, if_neg q]
    have h2 := cap_le r
    have := hle r hr
    exact (getD_big (Nat.le_trans this (clamp_ge (by omega) q2))).symm
  · simp [rGet, q]
theorem cm_X8_get {l : Launch} {g : Gx} {S : St} {r : Nat} {k : Int32} (hr : r < 68) : CMi g l yX8_get cX8_get 2 (some .int) rm_X8_get [.ref (gad g r), .int k] S (fun v S2 => v = rGet S r k ∧ S2 = S) := run_X8_get hr (fun hle => sp_get hr hle)
abbrev rm_X8_latest : Room := { frames := 1, cells := 0, slots := 0, locals := 21 }
theorem ok_X8_latest : MOK yX8_latest RX8 cX8_latest 1 (some .int) 0 := ⟨bw_366, bw_367, bw_62, bw_368, by decide +kernel⟩
def wp_X8_latest (S : St) (r : Nat) (P : Int32 → St → Prop) : Prop :=
  P (rGet S r ((nI (S.1 r).length) - 1)) S
set_option maxHeartbeats 4000000 in
set_option maxRecDepth 100000 in
theorem run_X8_latest {l : Launch} {g : Gx} {S : St} {r : Nat} {P : Int32 → St → Prop} (hr : r < 68) (h : rowsLe S → wp_X8_latest S r P) : CMi g l yX8_latest cX8_latest 1 (some .int) rm_X8_latest [.ref (gad g r)] S P := cm_entry (own := RX8) (plainFor_of_name (by decide)) rfl (Nat.le_of_ble_eq_true rfl) rfl (fun hle f hf C hrt => by
  subst hf
  replace h := h hle
  obtain ⟨T0, hT⟩ : ∃ T, S.2.2.1 = T := ⟨_, rfl⟩
  rw [hT]
  unfold wp_X8_latest at h
  refine ww_aload_n C dX8_latest_0 0 rfl ?_
  refine ww_aload_n C dX8_latest_1 0 rfl ?_
  refine gf_Row_length C (r := r) hr bw_98 dX8_latest_2 ?_
  refine ww_iconst (v := 1) C dX8_latest_5 (by decide) ?_
  refine ww_isub C dX8_latest_6 ?_
  refine ww_cVf (As := [.int ((nI (S.1 r).length) - 1)]) (rest := []) C ok_X8_get bw_369 dX8_latest_7 (cm_X8_get hr) (rc_Row hr) rfl ⟨Nat.le_of_ble_eq_true rfl, Nat.le_of_ble_eq_true rfl⟩ (Nat.le_of_ble_eq_true rfl) (c2 := 0) (s2 := 0) rfl rfl ⟨Nat.le_of_ble_eq_true rfl, Nat.le_of_ble_eq_true rfl⟩ rfl ?_
  exact ww_iret C hrt dX8_latest_10 hT h)
def rLatest (S : St) (r : Nat) : Int32 := rGet S r (nI (S.1 r).length - 1)
theorem cm_X8_latest {l : Launch} {g : Gx} {S : St} {r : Nat} (hr : r < 68) : CMi g l yX8_latest cX8_latest 1 (some .int) rm_X8_latest [.ref (gad g r)] S (fun v S2 => v = rLatest S r ∧ S2 = S) := run_X8_latest hr (fun hle => ⟨rfl, rfl⟩)
abbrev rm_X8_change : Room := { frames := 0, cells := 0, slots := 0, locals := 0 }
theorem ok_X8_change : MOK yX8_change RX8 cX8_change 3 none 2 := ⟨bw_427, bw_428, bw_62, bw_429, by decide +kernel⟩
def wp_X8_change_28 (r : Nat) (k : Int32) (v : Int32) (S : St)  (P : St → Prop) : Prop :=
  P S
set_option maxHeartbeats 4000000 in
set_option maxRecDepth 100000 in
theorem run_X8_change_28 {f : Fx} {g : Gx} {T0 : List (Nat × Nat × Nat)} {S : St} {r : Nat} {k : Int32} {v : Int32} {P : St → Prop} (C : Cx f g cX8_change 3 RX8) (hrt : (fmeth f).sig.returnType = none) (hr : r < 68)  (hT : S.2.2.1 = T0)  (h : wp_X8_change_28 r k v S  P) : WW f rm_X8_change g 3 0 0 (Qv f g 0 0 T0 P) S 28 [] [] := by
  unfold wp_X8_change_28 at h
  exact ww_vret C hrt dX8_change_28 hT h
def wp_X8_change (S : St) (r : Nat) (k : Int32) (v : Int32) (P : St → Prop) : Prop :=
  ((k < 0 → wp_X8_change_28 r k v S  P) ∧ (¬ k < 0 → (((nI (S.1 r).length) ≤ k → wp_X8_change_28 r k v S  P) ∧ (¬ (nI (S.1 r).length) ≤ k → (((nI (gw_cap r)) ≤ k → wp_X8_change_28 r k v S  P) ∧ (¬ (nI (gw_cap r)) ≤ k → (vp_in k (S.1 r).length ∧ ∀ S8 : St, S8 = stX S r ((S.1 r).set k.toNatClampNeg v) → wp_X8_change_28 r k v S8  P)))))))
set_option maxHeartbeats 4000000 in
set_option maxRecDepth 100000 in
theorem run_X8_change {l : Launch} {g : Gx} {S : St} {r : Nat} {k : Int32} {v : Int32} {P : St → Prop} (hr : r < 68) (h : rowsLe S → wp_X8_change S r k v P) : CMv g l yX8_change cX8_change 3 none rm_X8_change [.ref (gad g r), .int k, .int v] S P := cm_entry (own := RX8) (plainFor_of_name (by decide)) rfl (Nat.le_of_ble_eq_true rfl) rfl (fun hle f hf C hrt => by
  subst hf
  replace h := h hle
  obtain ⟨T0, hT⟩ : ∃ T, S.2.2.1 = T := ⟨_, rfl⟩
  rw [hT]
  unfold wp_X8_change at h
  refine ww_iload_n C dX8_change_0 1 rfl ?_
  refine ww_if_lt (tgt := 28) C dX8_change_1 (by decide) (fun q5 => ?_) (fun q5 => ?_)
  · replace h := h.1 q5
    exact ww_sub [] rfl (run_X8_change_28 C hrt hr hT  h)
  · replace h := h.2 q5
    refine ww_iload_n C dX8_change_4 1 rfl ?_
    refine ww_aload_n C dX8_change_5 0 rfl ?_
    refine gf_Row_length C (r := r) hr bw_98 dX8_change_6 ?_
    refine ww_icmp_ge (tgt := 28) C dX8_change_9 (by decide) (fun q6 => ?_) (fun q6 => ?_)
    · replace h := h.1 q6
      exact ww_sub [] rfl (run_X8_change_28 C hrt hr hT  h)
    · replace h := h.2 q6
      refine ww_iload_n C dX8_change_12 1 rfl ?_
      refine ww_aload_n C dX8_change_13 0 rfl ?_
      refine gf_Row_cells C (r := r) hr bw_97 dX8_change_14 ?_
      refine al_row C hr dX8_change_17 ?_
      refine ww_icmp_ge (tgt := 28) C dX8_change_18 (by decide) (fun q7 => ?_) (fun q7 => ?_)
      · replace h := h.1 q7
        exact ww_sub [] rfl (run_X8_change_28 C hrt hr hT  h)
      · replace h := h.2 q7
        refine ww_aload_n C dX8_change_21 0 rfl ?_
        refine gf_Row_cells C (r := r) hr bw_97 dX8_change_22 ?_
        refine ww_iload_n C dX8_change_25 1 rfl ?_
        refine ww_iload_n C dX8_change_26 2 rfl ?_
        refine is_row (r := r) C hr h.1 dX8_change_27 ?_
        replace h := h.2
        refine ww_nm (fun S8 e_S8 => ?_)
        replace h := h S8 e_S8
        have hT_S8 : S8.2.2.1 = T0 := by rw [e_S8]; exact hT
        exact ww_sub [] rfl (run_X8_change_28 C hrt hr hT_S8  h))
def rChange (S : St) (r : Nat) (k : Int32) (v : Int32) : St := if k < 0 then S else stX S r ((S.1 r).set k.toNatClampNeg v)
theorem set_big {l : List Int32} {j : Nat} {v : Int32} (h : l.length ≤ j) : l.set j v = l := List.set_eq_of_length_le h
theorem sp_change {S : St} {r : Nat} {k v : Int32} (hr : r < 68) (hle : rowsLe S) : wp_X8_change S r k v (fun S2 => S2 = rChange S r k v) := by
  have hb := len_lt hr hle
  refine ⟨fun q => ?_, fun q => ⟨fun q1 => ?_, fun q1 => ⟨fun q2 => ?_, fun q2 => ⟨vp_of hb q q1, fun S1 e => ?_⟩⟩⟩⟩
  · show S = rChange S r k v
    simp [rChange, q]
  · show S = rChange S r k v
    simp only [rChange, if_neg q]
    rw [set_big (clamp_ge hb q1), stX_self]
  · show S = rChange S r k v
    have h2 := cap_le r
    have := hle r hr
    simp only [rChange, if_neg q]
    rw [set_big (Nat.le_trans this (clamp_ge (by omega) q2)), stX_self]
  · show S1 = rChange S r k v
    rw [e]
    simp [rChange, q]
theorem cm_X8_change {l : Launch} {g : Gx} {S : St} {r : Nat} {k : Int32} {v : Int32} (hr : r < 68) : CMv g l yX8_change cX8_change 3 none rm_X8_change [.ref (gad g r), .int k, .int v] S (fun S2 => S2 = rChange S r k v) := run_X8_change hr (fun hle => sp_change hr hle)
section RA
variable {f : Fx} {R : Room} {g : Gx} {cells slots : Nat} {Q : State → Prop} {S : St} {lv : List (Nat × Value)}
set_option maxHeartbeats 4000000 in
set_option maxRecDepth 100000 in
/-- add: the cell behind the last one, then the length -/
theorem ww_rowadd (C : Cx f g cX8_add 2 RX8) {r : Nat} {v : Int32} (hr : r < 68) (hlen : (S.1 r).length < gw_cap r) (h0 : lv[0]? = some (0, .ref (gad g r))) (k : WW f R g 2 cells slots Q (stX S r (S.1 r ++ [v])) 39 lv []) : WW f R g 2 cells slots Q S 28 lv [.int v, .int (nI (S.1 r).length), .ref (gad g (68 + r))] := by
  intro H locs ls h hl
  obtain ⟨Gb, h1, h2, h3, h4, h5⟩ := id h
  have hc := cap_le r
  have hb : (S.1 r).length < 2 ^ 31 := by omega
  refine va_iast C.1 C.2.1 C.2.2.2.2.2.1 h2 h3 h4 (68 + r) 0 (by rw [wl_get g S Gb (by omega), gw_arr hr]) rfl (vp_in_nI hlen (by omega)) dX8_add_28 (fun H1 locs1 hP hD hS => ?_)
  rw [nI_clamp hb] at hP hD
  obtain ⟨Gb', hGb⟩ : ∃ z : Nat → Nat → Int32, z = fun q => if q = r then upd (Gb r) (S.1 r).length v else Gb q := ⟨_, rfl⟩
  have hoth : ∀ i, i < 184 → i ≠ 68 + r → gw_e g S Gb' i = gw_e g S Gb i := fun i hi hne => by
    by_cases e : i < 136
    · by_cases e1 : i < 68
      · rw [gw_row e1, gw_row e1]
      · have e4 : i = 68 + (i - 68) := by omega
        have e5 : i - 68 ≠ r := by omega
        rw [e4, gw_arr (by omega), gw_arr (by omega), hGb]
        simp [e5]
    · have e1 : ¬ i < 68 := by omega
      simp only [gw_e, if_neg e, if_neg e1]
  rw [wl_set g S S Gb Gb' (i0 := 68 + r) (by omega) (by rw [gw_arr hr, hGb]; simp) hoth rfl (fun t _ => rfl)] at hP hD
  have hd := hl.2.2 _ (List.mem_of_getElem? h0)
  refine lv_aload_n C.1 C.2.1 dX8_add_29 rfl hd ?_
  refine lv_dup C.1 C.2.1 dX8_add_30 rfl ?_
  refine va_get (ci := 7) C.1 C.2.1 C.2.2.2.2.1 inX8 C.2.2.2.1 C.2.2.2.2.2.1 hP r (by rw [wl_get g S Gb' (by omega), gw_row hr]) rfl 1 (by decide) (C.2.2.2.2.1 _ bw_98) (fun x hx => hx) rfl dX8_add_31 ?_
  refine lv_iconst (v := 1) C.1 C.2.1 dX8_add_34 (by decide) ?_
  refine lv_iadd C.1 C.2.1 dX8_add_35 ?_
  rw [nI_1]
  refine va_put (ci := 7) C.1 C.2.1 C.2.2.2.2.1 inX8 tyX8 tyX8_ok nmX8 C.2.2.2.1 C.2.2.2.2.2.1 hP hD hS r (by rw [wl_get g S Gb' (by omega), gw_row hr]) rfl 1 (by decide) (C.2.2.2.2.1 _ bw_98) (fun x hx => hx) rfl (ty := .int) (by decide +kernel) rfl rfl (Nat.le_of_ble_eq_true rfl) dX8_add_36 (fun H2 locs2 hP hD hS => ?_)
  rw [wl_set g S (stX S r (S.1 r ++ [v])) Gb' Gb' (i0 := r) (by omega) (by rw [gw_row hr, stX_at, List.length_append]; rfl) (fun i hi hne => gw_eX (fun _ => by rw [stX_ne hne]) rfl) rfl (fun t _ => gw_tX rfl t)] at hP hD
  refine k H2 locs2 ls ⟨Gb', fun q hq => ?_, hP, hD, hS, h5⟩ hl
  by_cases e : q = r
  · subst e
    rw [stX_at, List.length_append]
    refine ⟨by simp only [List.length_singleton]; omega, fun j hj => ?_⟩
    rw [hGb]
    simp only [if_true, upd]
    by_cases e2 : j = (S.1 q).length
    · subst e2; simp
    · simp only [List.length_singleton] at hj
      rw [if_neg e2, (h1 q hq).2 j (by omega)]
      simp only [List.getD_eq_getElem?_getD]
      rw [List.getElem?_append_left (by omega)]
  · rw [stX_ne e, hGb]
    simp only [if_neg e]
    exact h1 q hq
end RA
abbrev rm_X8_add : Room := { frames := 0, cells := 0, slots := 0, locals := 0 }
theorem ok_X8_add : MOK yX8_add RX8 cX8_add 2 none 1 := ⟨bw_407, bw_408, bw_62, bw_409, by decide +kernel⟩
def wp_X8_add_39 (r : Nat) (x : Int32) (S : St)  (P : St → Prop) : Prop :=
  P S
set_option maxHeartbeats 4000000 in
set_option maxRecDepth 100000 in
theorem run_X8_add_39 {f : Fx} {g : Gx} {T0 : List (Nat × Nat × Nat)} {S : St} {r : Nat} {x : Int32} {P : St → Prop} (C : Cx f g cX8_add 2 RX8) (hrt : (fmeth f).sig.returnType = none) (hr : r < 68)  (hT : S.2.2.1 = T0)  (h : wp_X8_add_39 r x S  P) : WW f rm_X8_add g 2 0 0 (Qv f g 0 0 T0 P) S 39 [] [] := by
  unfold wp_X8_add_39 at h
  exact ww_vret C hrt dX8_add_39 hT h
def wp_X8_add (S : St) (r : Nat) (x : Int32) (P : St → Prop) : Prop :=
  (((nI (S.1 r).length) < 0 → wp_X8_add_39 r x S  P) ∧ (¬ (nI (S.1 r).length) < 0 → (((nI (gw_cap r)) ≤ (nI (S.1 r).length) → wp_X8_add_39 r x S  P) ∧ (¬ (nI (gw_cap r)) ≤ (nI (S.1 r).length) → ((S.1 r).length < gw_cap r ∧ ∀ S6 : St, S6 = stX S r (S.1 r ++ [x]) → wp_X8_add_39 r x S6  P)))))
set_option maxHeartbeats 4000000 in
set_option maxRecDepth 100000 in
theorem run_X8_add {l : Launch} {g : Gx} {S : St} {r : Nat} {x : Int32} {P : St → Prop} (hr : r < 68) (h : rowsLe S → wp_X8_add S r x P) : CMv g l yX8_add cX8_add 2 none rm_X8_add [.ref (gad g r), .int x] S P := cm_entry (own := RX8) (plainFor_of_name (by decide)) rfl (Nat.le_of_ble_eq_true rfl) rfl (fun hle f hf C hrt => by
  subst hf
  replace h := h hle
  obtain ⟨T0, hT⟩ : ∃ T, S.2.2.1 = T := ⟨_, rfl⟩
  rw [hT]
  unfold wp_X8_add at h
  refine ww_aload_n C dX8_add_0 0 rfl ?_
  refine gf_Row_length C (r := r) hr bw_98 dX8_add_1 ?_
  refine ww_if_lt (tgt := 39) C dX8_add_4 (by decide) (fun q4 => ?_) (fun q4 => ?_)
  · replace h := h.1 q4
    exact ww_sub [] rfl (run_X8_add_39 C hrt hr hT  h)
  · replace h := h.2 q4
    refine ww_aload_n C dX8_add_7 0 rfl ?_
    refine gf_Row_length C (r := r) hr bw_98 dX8_add_8 ?_
    refine ww_aload_n C dX8_add_11 0 rfl ?_
    refine gf_Row_cells C (r := r) hr bw_97 dX8_add_12 ?_
    refine al_row C hr dX8_add_15 ?_
    refine ww_icmp_ge (tgt := 39) C dX8_add_16 (by decide) (fun q5 => ?_) (fun q5 => ?_)
    · replace h := h.1 q5
      exact ww_sub [] rfl (run_X8_add_39 C hrt hr hT  h)
    · replace h := h.2 q5
      refine ww_aload_n C dX8_add_19 0 rfl ?_
      refine gf_Row_cells C (r := r) hr bw_97 dX8_add_20 ?_
      refine ww_aload_n C dX8_add_23 0 rfl ?_
      refine gf_Row_length C (r := r) hr bw_98 dX8_add_24 ?_
      refine ww_iload_n C dX8_add_27 1 rfl ?_
      refine ww_rowadd C hr h.1 rfl ?_
      replace h := h.2
      refine ww_nm (fun S6 e_S6 => ?_)
      replace h := h S6 e_S6
      have hT_S6 : S6.2.2.1 = T0 := by rw [e_S6]; exact hT
      exact ww_sub [] rfl (run_X8_add_39 C hrt hr hT_S6  h))
def rAdd (S : St) (r : Nat) (x : Int32) : St := rApp S r [x]
theorem sp_add {S : St} {r : Nat} {x : Int32} (hr : r < 68) (hle : rowsLe S) : wp_X8_add S r x (fun S2 => S2 = rAdd S r x) := by
  have hb := len_lt hr hle
  have hc := cap_le r
  have hl := hle r hr
  refine ⟨fun q => absurd q (nI_pos hb), fun q => ⟨fun q1 => ?_, fun q1 => ?_⟩⟩
  · show S = rAdd S r x
    have q2 := (nI_leI (by omega) hb).mp q1
    unfold rAdd rApp
    rw [List.take_append_of_le_length q2, List.take_of_length_le hl, stX_self]
  · have q2 : (S.1 r).length < gw_cap r := Nat.not_le.mp fun z => q1 ((nI_leI (by omega) hb).mpr z)
    refine ⟨q2, fun S1 e => ?_⟩
    show S1 = rAdd S r x
    rw [e]
    unfold rAdd rApp
    rw [List.take_of_length_le (by rw [List.length_append]; simp only [List.length_singleton]; omega)]
theorem cm_X8_add {l : Launch} {g : Gx} {S : St} {r : Nat} {x : Int32} (hr : r < 68) : CMv g l yX8_add cX8_add 2 none rm_X8_add [.ref (gad g r), .int x] S (fun S2 => S2 = rAdd S r x) := run_X8_add hr (fun hle => sp_add hr hle)
abbrev rm_X8_makeEmpty : Room := { frames := 0, cells := 0, slots := 0, locals := 0 }
theorem ok_X8_makeEmpty : MOK yX8_makeEmpty RX8 cX8_makeEmpty 1 none 0 := ⟨bw_237, bw_238, bw_62, bw_239, by decide +kernel⟩
def wp_X8_makeEmpty (S : St) (r : Nat) (P : St → Prop) : Prop :=
  (vp_in 0 ((S.1 r).length + 1) ∧ ∀ S2 : St, S2 = stX S r ((S.1 r).take (0 : Int32).toNatClampNeg) → P S2)
set_option maxHeartbeats 4000000 in
set_option maxRecDepth 100000 in
theorem run_X8_makeEmpty {l : Launch} {g : Gx} {S : St} {r : Nat} {P : St → Prop} (hr : r < 68) (h : rowsLe S → wp_X8_makeEmpty S r P) : CMv g l yX8_makeEmpty cX8_makeEmpty 1 none rm_X8_makeEmpty [.ref (gad g r)] S P := cm_entry (own := RX8) (plainFor_of_name (by decide)) rfl (Nat.le_of_ble_eq_true rfl) rfl (fun hle f hf C hrt => by
  subst hf
  replace h := h hle
  obtain ⟨T0, hT⟩ : ∃ T, S.2.2.1 = T := ⟨_, rfl⟩
  rw [hT]
  unfold wp_X8_makeEmpty at h
  refine ww_aload_n C dX8_makeEmpty_0 0 rfl ?_
  refine ww_iconst (v := 0) C dX8_makeEmpty_1 (by decide) ?_
  refine pf_Row_length C (r := r) hr h.1 bw_98 dX8_makeEmpty_2 ?_
  replace h := h.2
  refine ww_nm (fun S2 e_S2 => ?_)
  replace h := h S2 e_S2
  have hT_S2 : S2.2.2.1 = T0 := by rw [e_S2]; exact hT
  exact ww_vret C hrt dX8_makeEmpty_5 hT_S2 h)
def rMake (S : St) (r : Nat) : St := stX S r []
theorem sp_make {S : St} {r : Nat} (hr : r < 68) (hle : rowsLe S) : wp_X8_makeEmpty S r (fun S2 => S2 = rMake S r) := by
  refine ⟨vp_in_nI (n := 0) (by omega) (by have h1 := hle r hr; have h2 := cap_le r; omega), fun S1 e => ?_⟩
  rw [e]
  rfl
theorem cm_X8_makeEmpty {l : Launch} {g : Gx} {S : St} {r : Nat} (hr : r < 68) : CMv g l yX8_makeEmpty cX8_makeEmpty 1 none rm_X8_makeEmpty [.ref (gad g r)] S (fun S2 => S2 = rMake S r) := run_X8_makeEmpty hr (fun hle => sp_make hr hle)
abbrev rm_X8_keepFirst : Room := { frames := 0, cells := 0, slots := 0, locals := 0 }
theorem ok_X8_keepFirst : MOK yX8_keepFirst RX8 cX8_keepFirst 2 none 1 := ⟨bw_871, bw_872, bw_62, bw_873, by decide +kernel⟩
def wp_X8_keepFirst_17 (r : Nat) (n : Int32) (S : St)  (P : St → Prop) : Prop :=
  P S
set_option maxHeartbeats 4000000 in
set_option maxRecDepth 100000 in
theorem run_X8_keepFirst_17 {f : Fx} {g : Gx} {T0 : List (Nat × Nat × Nat)} {S : St} {r : Nat} {n : Int32} {P : St → Prop} (C : Cx f g cX8_keepFirst 2 RX8) (hrt : (fmeth f).sig.returnType = none) (hr : r < 68)  (hT : S.2.2.1 = T0)  (h : wp_X8_keepFirst_17 r n S  P) : WW f rm_X8_keepFirst g 2 0 0 (Qv f g 0 0 T0 P) S 17 [] [] := by
  unfold wp_X8_keepFirst_17 at h
  exact ww_vret C hrt dX8_keepFirst_17 hT h
def wp_X8_keepFirst (S : St) (r : Nat) (n : Int32) (P : St → Prop) : Prop :=
  ((n < 0 → wp_X8_keepFirst_17 r n S  P) ∧ (¬ n < 0 → (((nI (S.1 r).length) ≤ n → wp_X8_keepFirst_17 r n S  P) ∧ (¬ (nI (S.1 r).length) ≤ n → (vp_in n ((S.1 r).length + 1) ∧ ∀ S6 : St, S6 = stX S r ((S.1 r).take n.toNatClampNeg) → wp_X8_keepFirst_17 r n S6  P)))))
set_option maxHeartbeats 4000000 in
set_option maxRecDepth 100000 in
theorem run_X8_keepFirst {l : Launch} {g : Gx} {S : St} {r : Nat} {n : Int32} {P : St → Prop} (hr : r < 68) (h : rowsLe S → wp_X8_keepFirst S r n P) : CMv g l yX8_keepFirst cX8_keepFirst 2 none rm_X8_keepFirst [.ref (gad g r), .int n] S P := cm_entry (own := RX8) (plainFor_of_name (by decide)) rfl (Nat.le_of_ble_eq_true rfl) rfl (fun hle f hf C hrt => by
  subst hf
  replace h := h hle
  obtain ⟨T0, hT⟩ : ∃ T, S.2.2.1 = T := ⟨_, rfl⟩
  rw [hT]
  unfold wp_X8_keepFirst at h
  refine ww_iload_n C dX8_keepFirst_0 1 rfl ?_
  refine ww_if_lt (tgt := 17) C dX8_keepFirst_1 (by decide) (fun q4 => ?_) (fun q4 => ?_)
  · replace h := h.1 q4
    exact ww_sub [] rfl (run_X8_keepFirst_17 C hrt hr hT  h)
  · replace h := h.2 q4
    refine ww_iload_n C dX8_keepFirst_4 1 rfl ?_
    refine ww_aload_n C dX8_keepFirst_5 0 rfl ?_
    refine gf_Row_length C (r := r) hr bw_98 dX8_keepFirst_6 ?_
    refine ww_icmp_ge (tgt := 17) C dX8_keepFirst_9 (by decide) (fun q5 => ?_) (fun q5 => ?_)
    · replace h := h.1 q5
      exact ww_sub [] rfl (run_X8_keepFirst_17 C hrt hr hT  h)
    · replace h := h.2 q5
      refine ww_aload_n C dX8_keepFirst_12 0 rfl ?_
      refine ww_iload_n C dX8_keepFirst_13 1 rfl ?_
      refine pf_Row_length C (r := r) hr h.1 bw_98 dX8_keepFirst_14 ?_
      replace h := h.2
      refine ww_nm (fun S6 e_S6 => ?_)
      replace h := h S6 e_S6
      have hT_S6 : S6.2.2.1 = T0 := by rw [e_S6]; exact hT
      exact ww_sub [] rfl (run_X8_keepFirst_17 C hrt hr hT_S6  h))
def rKeep (S : St) (r : Nat) (n : Int32) : St := if n < 0 then S else stX S r ((S.1 r).take n.toNatClampNeg)
theorem sp_keep {S : St} {r : Nat} {n : Int32} (hr : r < 68) (hle : rowsLe S) : wp_X8_keepFirst S r n (fun S2 => S2 = rKeep S r n) := by
  have hb := len_lt hr hle
  refine ⟨fun q => ?_, fun q => ⟨fun q1 => ?_, fun q1 => ⟨vp_in_le (vp_of hb q q1) (by omega), fun S1 e => ?_⟩⟩⟩
  · show S = rKeep S r n
    simp [rKeep, q]
  · show S = rKeep S r n
    simp only [rKeep, if_neg q]
    rw [List.take_of_length_le (clamp_ge hb q1), stX_self]
  · show S1 = rKeep S r n
    rw [e]
    simp [rKeep, q]
theorem cm_X8_keepFirst {l : Launch} {g : Gx} {S : St} {r : Nat} {n : Int32} (hr : r < 68) : CMv g l yX8_keepFirst cX8_keepFirst 2 none rm_X8_keepFirst [.ref (gad g r), .int n] S (fun S2 => S2 = rKeep S r n) := run_X8_keepFirst hr (fun hle => sp_keep hr hle)
/-- a byte of a long number, and the lowest N of them, the highest first -/
def numByte (a : Int64) (k : Nat) : Int32 := ((a >>> ((8 * nI k).toInt64 &&& 63)) &&& 255).toInt32
def numB (a : Int64) (N : Nat) : List Int32 := (List.range N).map (fun i => numByte a (N - 1 - i))
theorem up_loop {X : St → Int32 → Prop} (F : Nat → St) {N : Nat} (hend : X (F N) (nI N)) (hstep : ∀ j, j < N → X (F (j + 1)) (nI (j + 1)) → X (F j) (nI j)) : ∀ i, i ≤ N → X (F i) (nI i) := by
  have key : ∀ d i, N = i + d → X (F i) (nI i) := by
    intro d
    induction d with
    | zero => intro i h; have : i = N := by omega
              rw [this]; exact hend
    | succ d ih => intro i h; exact hstep i (by omega) (ih (i + 1) (by omega))
  intro i hi
  exact key (N - i) i (by omega)
theorem nonneg_nI {n : Int32} (h : ¬ n < 0) : n = nI n.toNatClampNeg ∧ n.toNatClampNeg < 2 ^ 31 := by
  obtain ⟨j, hj, rfl⟩ := nI_of h
  rw [nI_clamp hj]
  exact ⟨rfl, hj⟩
theorem neg_clamp {n : Int32} (h : n < 0) : n.toNatClampNeg = 0 := by
  have h1 : n.toInt < 0 := Int32.lt_iff_toInt_lt.mp h
  unfold Int32.toNatClampNeg
  omega
abbrev rm_X8_addZeros : Room := { frames := 1, cells := 0, slots := 0, locals := 21 }
theorem ok_X8_addZeros : MOK yX8_addZeros RX8 cX8_addZeros 3 none 1 := ⟨bw_524, bw_525, bw_62, bw_526, by decide +kernel⟩
def st_X8_addZeros_2 (r : Nat) (n : Int32) (P : St → Prop) (X2 : St → Int32 → Prop) (S : St) (v2 : Int32) : Prop :=
  ((n ≤ v2 → P S) ∧ (¬ n ≤ v2 → ∀ S5 : St, S5 = rAdd S r 0 → ∀ x6 : Int32, x6 = v2 + 1 → X2 S5 x6))
def at_X8_addZeros_2 (f : Fx) (g : Gx) (T0 : List (Nat × Nat × Nat)) (r : Nat) (n : Int32) (P : St → Prop) (S : St) (v2 : Int32) : Prop := S.2.2.1 = T0 → WW f rm_X8_addZeros g 3 0 0 (Qv f g 0 0 T0 P) S 2 [(0, .ref (gad g r)), (1, .int n), (2, .int v2)] []
set_option maxHeartbeats 4000000 in
set_option maxRecDepth 100000 in
theorem run_X8_addZeros_2 {f : Fx} {g : Gx} {T0 : List (Nat × Nat × Nat)} {S : St} {r : Nat} {n : Int32} {P : St → Prop} (C : Cx f g cX8_addZeros 3 RX8) (hrt : (fmeth f).sig.returnType = none) (hr : r < 68) {v2 : Int32} (h : st_X8_addZeros_2 r n P (at_X8_addZeros_2 f g T0 r n P) S v2) : at_X8_addZeros_2 f g T0 r n P S v2 := by
  intro hT 
  unfold st_X8_addZeros_2 at h
  refine ww_iload_n C dX8_addZeros_2 2 rfl ?_
  refine ww_iload_n C dX8_addZeros_3 1 rfl ?_
  refine ww_icmp_ge (tgt := 18) C dX8_addZeros_4 (by decide) (fun q4 => ?_) (fun q4 => ?_)
  · replace h := h.1 q4
    exact ww_vret C hrt dX8_addZeros_18 hT h
  · replace h := h.2 q4
    refine ww_aload_n C dX8_addZeros_7 0 rfl ?_
    refine ww_iconst (v := 0) C dX8_addZeros_8 (by decide) ?_
    refine ww_cVg (As := [.int 0]) (rest := []) C ok_X8_add bw_454 dX8_addZeros_9 (cm_X8_add hr) (rc_Row hr) rfl ⟨Nat.le_of_ble_eq_true rfl, Nat.le_of_ble_eq_true rfl⟩ (Nat.le_of_ble_eq_true rfl) (c2 := 0) (s2 := 0) rfl rfl ⟨Nat.le_of_ble_eq_true rfl, Nat.le_of_ble_eq_true rfl⟩ rfl (fun hTg => ?_)
    refine ww_nm (fun S5 e_S5 => ?_)
    replace h := h S5 e_S5
    have hT_S5 : S5.2.2.1 = T0 := by rw [e_S5, hTg]; exact hT
    obtain ⟨x6, e_x6⟩ : ∃ z : Int32, z = v2 + 1 := ⟨_, rfl⟩
    replace h := h x6 e_x6
    refine ww_iinc (v := x6) (lv2 := [(2, .int x6), (0, .ref (gad g r)), (1, .int n)]) C dX8_addZeros_12 2 rfl (by rw [e_x6]; rfl) (Nat.le_of_ble_eq_true rfl) rfl ?_
    refine ww_goto (tgt := 2) C dX8_addZeros_15 (by decide) ?_
    exact ww_sub [1, 2, 0] rfl (h hT_S5)
def wp_X8_addZeros (S : St) (r : Nat) (n : Int32) (P : St → Prop) : Prop :=
  ∀ (X2 : St → Int32 → Prop), (∀ S v2, st_X8_addZeros_2 r n P X2 S v2 → X2 S v2) → X2 S 0
set_option maxHeartbeats 4000000 in
set_option maxRecDepth 100000 in
theorem run_X8_addZeros {l : Launch} {g : Gx} {S : St} {r : Nat} {n : Int32} {P : St → Prop} (hr : r < 68) (h : rowsLe S → wp_X8_addZeros S r n P) : CMv g l yX8_addZeros cX8_addZeros 3 none rm_X8_addZeros [.ref (gad g r), .int n] S P := cm_entry (own := RX8) (plainFor_of_name (by decide)) rfl (Nat.le_of_ble_eq_true rfl) rfl (fun hle f hf C hrt => by
  subst hf
  replace h := h hle
  obtain ⟨T0, hT⟩ : ∃ T, S.2.2.1 = T := ⟨_, rfl⟩
  rw [hT]
  replace h := h (at_X8_addZeros_2 f g T0 r n P) (fun S v2 h => run_X8_addZeros_2 C hrt hr h)
  refine ww_iconst (v := 0) C dX8_addZeros_0 (by decide) ?_
  refine ww_istore_n (lv2 := [(2, .int 0), (0, .ref (gad g r)), (1, .int n)]) C dX8_addZeros_1 rfl (Nat.le_of_ble_eq_true rfl) rfl ?_
  exact ww_sub [1, 2, 0] rfl (h hT))
def rZeros (S : St) (r : Nat) (n : Int32) : St := rApp S r (List.replicate n.toNatClampNeg 0)
theorem sp_zeros {S : St} {r : Nat} {n : Int32} (hr : r < 68) (hle : rowsLe S) : wp_X8_addZeros S r n (fun S2 => S2 = rZeros S r n) := by
  intro X2 h2
  by_cases q : n < 0
  · refine h2 S 0 ⟨fun _ => ?_, fun q1 => absurd (Int32.le_of_lt q) q1⟩
    show S = rZeros S r n
    unfold rZeros
    rw [neg_clamp q, List.replicate_zero, rApp_nil hr hle]
  · obtain ⟨e, hN⟩ := nonneg_nI q
    have key := up_loop (X := X2) (fun j => rApp S r (List.replicate j 0)) (N := n.toNatClampNeg) (h2 _ _ ⟨fun _ => rfl, fun q1 => absurd (by rw [← e]; exact Int32.le_refl n) q1⟩) (fun j hj h => h2 _ _ ⟨fun q1 => ?_, fun _ S5 e5 x6 e6 => ?_⟩) 0 (Nat.zero_le _)
    · rw [List.replicate_zero, rApp_nil hr hle, nI_0] at key
      exact key
    · rw [e] at q1
      exact absurd q1 (fun z => by have := (nI_leI hN (by omega)).mp z; omega)
    · rw [e5, e6, nI_1]
      show X2 (rApp (rApp S r (List.replicate j 0)) r [0]) (nI (j + 1))
      rw [rApp_app, ← List.replicate_succ']
      exact h
theorem cm_X8_addZeros {l : Launch} {g : Gx} {S : St} {r : Nat} {n : Int32} (hr : r < 68) : CMv g l yX8_addZeros cX8_addZeros 3 none rm_X8_addZeros [.ref (gad g r), .int n] S (fun S2 => S2 = rZeros S r n) := run_X8_addZeros hr (fun hle => sp_zeros hr hle)
abbrev rm_X8_addRow : Room := { frames := 1, cells := 0, slots := 0, locals := 21 }
theorem ok_X8_addRow : MOK yX8_addRow RX8 cX8_addRow 3 none 1 := ⟨bw_560, bw_561, bw_62, bw_562, by decide +kernel⟩
def st_X8_addRow_2 (r : Nat) (o : Nat) (P : St → Prop) (X2 : St → Int32 → Prop) (S : St) (v2 : Int32) : Prop :=
  (((nI (S.1 o).length) ≤ v2 → P S) ∧ (¬ (nI (S.1 o).length) ≤ v2 → ∀ S5 : St, S5 = rAdd S r (rGet S o v2) → ∀ x6 : Int32, x6 = v2 + 1 → X2 S5 x6))
def at_X8_addRow_2 (f : Fx) (g : Gx) (T0 : List (Nat × Nat × Nat)) (r : Nat) (o : Nat) (P : St → Prop) (S : St) (v2 : Int32) : Prop := S.2.2.1 = T0 → WW f rm_X8_addRow g 3 0 0 (Qv f g 0 0 T0 P) S 2 [(0, .ref (gad g r)), (1, .ref (gad g o)), (2, .int v2)] []
set_option maxHeartbeats 4000000 in
set_option maxRecDepth 100000 in
theorem run_X8_addRow_2 {f : Fx} {g : Gx} {T0 : List (Nat × Nat × Nat)} {S : St} {r : Nat} {o : Nat} {P : St → Prop} (C : Cx f g cX8_addRow 3 RX8) (hrt : (fmeth f).sig.returnType = none) (hr : r < 68) (ho : o < 68) {v2 : Int32} (h : st_X8_addRow_2 r o P (at_X8_addRow_2 f g T0 r o P) S v2) : at_X8_addRow_2 f g T0 r o P S v2 := by
  intro hT 
  unfold st_X8_addRow_2 at h
  refine ww_iload_n C dX8_addRow_2 2 rfl ?_
  refine ww_aload_n C dX8_addRow_3 1 rfl ?_
  refine gf_Row_length C (r := o) ho bw_98 dX8_addRow_4 ?_
  refine ww_icmp_ge (tgt := 25) C dX8_addRow_7 (by decide) (fun q4 => ?_) (fun q4 => ?_)
  · replace h := h.1 q4
    exact ww_vret C hrt dX8_addRow_25 hT h
  · replace h := h.2 q4
    refine ww_aload_n C dX8_addRow_10 0 rfl ?_
    refine ww_aload_n C dX8_addRow_11 1 rfl ?_
    refine ww_iload_n C dX8_addRow_12 2 rfl ?_
    refine ww_cVf (As := [.int v2]) (rest := [.ref (gad g r)]) C ok_X8_get bw_369 dX8_addRow_13 (cm_X8_get ho) (rc_Row ho) rfl ⟨Nat.le_of_ble_eq_true rfl, Nat.le_of_ble_eq_true rfl⟩ (Nat.le_of_ble_eq_true rfl) (c2 := 0) (s2 := 0) rfl rfl ⟨Nat.le_of_ble_eq_true rfl, Nat.le_of_ble_eq_true rfl⟩ rfl ?_
    refine ww_cVg (As := [.int (rGet S o v2)]) (rest := []) C ok_X8_add bw_454 dX8_addRow_16 (cm_X8_add hr) (rc_Row hr) rfl ⟨Nat.le_of_ble_eq_true rfl, Nat.le_of_ble_eq_true rfl⟩ (Nat.le_of_ble_eq_true rfl) (c2 := 0) (s2 := 0) rfl rfl ⟨Nat.le_of_ble_eq_true rfl, Nat.le_of_ble_eq_true rfl⟩ rfl (fun hTg => ?_)
    refine ww_nm (fun S5 e_S5 => ?_)
    replace h := h S5 e_S5
    have hT_S5 : S5.2.2.1 = T0 := by rw [e_S5, hTg]; exact hT
    obtain ⟨x6, e_x6⟩ : ∃ z : Int32, z = v2 + 1 := ⟨_, rfl⟩
    replace h := h x6 e_x6
    refine ww_iinc (v := x6) (lv2 := [(2, .int x6), (0, .ref (gad g r)), (1, .ref (gad g o))]) C dX8_addRow_19 2 rfl (by rw [e_x6]; rfl) (Nat.le_of_ble_eq_true rfl) rfl ?_
    refine ww_goto (tgt := 2) C dX8_addRow_22 (by decide) ?_
    exact ww_sub [1, 2, 0] rfl (h hT_S5)
def wp_X8_addRow (S : St) (r : Nat) (o : Nat) (P : St → Prop) : Prop :=
  ∀ (X2 : St → Int32 → Prop), (∀ S v2, st_X8_addRow_2 r o P X2 S v2 → X2 S v2) → X2 S 0
set_option maxHeartbeats 4000000 in
set_option maxRecDepth 100000 in
theorem run_X8_addRow {l : Launch} {g : Gx} {S : St} {r : Nat} {o : Nat} {P : St → Prop} (hr : r < 68) (ho : o < 68) (h : rowsLe S → wp_X8_addRow S r o P) : CMv g l yX8_addRow cX8_addRow 3 none rm_X8_addRow [.ref (gad g r), .ref (gad g o)] S P := cm_entry (own := RX8) (plainFor_of_name (by decide)) rfl (Nat.le_of_ble_eq_true rfl) rfl (fun hle f hf C hrt => by
  subst hf
  replace h := h hle
  obtain ⟨T0, hT⟩ : ∃ T, S.2.2.1 = T := ⟨_, rfl⟩
  rw [hT]
  replace h := h (at_X8_addRow_2 f g T0 r o P) (fun S v2 h => run_X8_addRow_2 C hrt hr ho h)
  refine ww_iconst (v := 0) C dX8_addRow_0 (by decide) ?_
  refine ww_istore_n (lv2 := [(2, .int 0), (0, .ref (gad g r)), (1, .ref (gad g o))]) C dX8_addRow_1 rfl (Nat.le_of_ble_eq_true rfl) rfl ?_
  exact ww_sub [1, 2, 0] rfl (h hT))
def rAddRow (S : St) (r o : Nat) : St := rApp S r (S.1 o)
def neRow (S : St) (r o : Nat) : Prop := o ≠ r
theorem sp_addRow {S : St} {r o : Nat} (hr : r < 68) (ho : o < 68) (hne : o ≠ r) (hle : rowsLe S) : wp_X8_addRow S r o (fun S2 => S2 = rAddRow S r o) := by
  intro X2 h2
  have hN := len_lt ho hle
  have key := up_loop (X := X2) (fun j => rApp S r ((S.1 o).take j)) (N := (S.1 o).length) (h2 _ _ ⟨fun _ => ?_, fun q1 => absurd ?_ q1⟩) (fun j hj h => h2 _ _ ⟨fun q1 => ?_, fun _ S5 e5 x6 e6 => ?_⟩) 0 (Nat.zero_le _)
  · rw [List.take_zero, rApp_nil hr hle, nI_0] at key
    exact key
  · show rApp S r _ = rApp S r _
    rw [List.take_length]
  · show nI ((rApp S r _).1 o).length ≤ _
    rw [rApp_ne hne]
    exact Int32.le_refl _
  · rw [rApp_ne hne] at q1
    exact absurd q1 (fun z => by have := (nI_leI hN (by omega)).mp z; omega)
  · rw [e5, e6, nI_1]
    show X2 (rApp (rApp S r _) r [rGet (rApp S r _) o (nI j)]) (nI (j + 1))
    have e9 : rGet (rApp S r ((S.1 o).take j)) o (nI j) = (S.1 o).getD j 0 := by
      unfold rGet
      rw [if_neg (nI_pos (by omega)), rApp_ne hne, nI_clamp (by omega)]
    have e10 : (S.1 o).take j ++ [(S.1 o).getD j 0] = (S.1 o).take (j + 1) := by
      rw [List.take_succ, List.getD_eq_getElem?_getD, List.getElem?_eq_getElem hj]
      rfl
    rw [rApp_app, e9, e10]
    exact h
theorem cm_X8_addRow {l : Launch} {g : Gx} {S : St} {r o : Nat} (hr : r < 68) (ho : o < 68) (hne : neRow S r o) : CMv g l yX8_addRow cX8_addRow 3 none rm_X8_addRow [.ref (gad g r), .ref (gad g o)] S (fun S2 => S2 = rAddRow S r o) := run_X8_addRow hr ho (fun hle => sp_addRow hr ho hne hle)
abbrev rm_X8_addNumber : Room := { frames := 1, cells := 0, slots := 0, locals := 21 }
theorem ok_X8_addNumber : MOK yX8_addNumber RX8 cX8_addNumber 5 none 2 := ⟨bw_450, bw_451, bw_62, bw_452, by decide +kernel⟩
def st_X8_addNumber_5 (r : Nat) (a : Int64) (n : Int32) (P : St → Prop) (X5 : St → Int32 → Prop) (S : St) (v4 : Int32) : Prop :=
  ((v4 < 0 → P S) ∧ (¬ v4 < 0 → ∀ S6 : St, S6 = rAdd S r (((a >>> ((8 * v4).toInt64 &&& 63)) &&& 255).toInt32) → ∀ x7 : Int32, x7 = v4 + (-1) → X5 S6 x7))
def at_X8_addNumber_5 (f : Fx) (g : Gx) (T0 : List (Nat × Nat × Nat)) (r : Nat) (a : Int64) (n : Int32) (P : St → Prop) (S : St) (v4 : Int32) : Prop := S.2.2.1 = T0 → WW f rm_X8_addNumber g 5 0 0 (Qv f g 0 0 T0 P) S 5 [(0, .ref (gad g r)), (1, .long a), (4, .int v4)] []
set_option maxHeartbeats 4000000 in
set_option maxRecDepth 100000 in
theorem run_X8_addNumber_5 {f : Fx} {g : Gx} {T0 : List (Nat × Nat × Nat)} {S : St} {r : Nat} {a : Int64} {n : Int32} {P : St → Prop} (C : Cx f g cX8_addNumber 5 RX8) (hrt : (fmeth f).sig.returnType = none) (hr : r < 68) {v4 : Int32} (h : st_X8_addNumber_5 r a n P (at_X8_addNumber_5 f g T0 r a n P) S v4) : at_X8_addNumber_5 f g T0 r a n P S v4 := by
  intro hT 
  unfold st_X8_addNumber_5 at h
  refine ww_iload C dX8_addNumber_5 2 rfl ?_
  refine ww_if_lt (tgt := 32) C dX8_addNumber_7 (by decide) (fun q5 => ?_) (fun q5 => ?_)
  · replace h := h.1 q5
    exact ww_vret C hrt dX8_addNumber_32 hT h
  · replace h := h.2 q5
    refine ww_aload_n C dX8_addNumber_10 0 rfl ?_
    refine ww_lload_n C dX8_addNumber_11 1 rfl ?_
    refine ww_bipush (v := 8) C dX8_addNumber_12 (by decide) ?_
    refine ww_iload C dX8_addNumber_14 2 rfl ?_
    refine ww_imul C dX8_addNumber_16 ?_
    refine ww_lshr C dX8_addNumber_17 ?_
    refine ww_ldc2 (v := 255) C dX8_addNumber_18 bw_453 ?_
    refine ww_land C dX8_addNumber_21 ?_
    refine ww_l2i C dX8_addNumber_22 ?_
    refine ww_cVg (As := [.int (((a >>> ((8 * v4).toInt64 &&& 63)) &&& 255).toInt32)]) (rest := []) C ok_X8_add bw_454 dX8_addNumber_23 (cm_X8_add hr) (rc_Row hr) rfl ⟨Nat.le_of_ble_eq_true rfl, Nat.le_of_ble_eq_true rfl⟩ (Nat.le_of_ble_eq_true rfl) (c2 := 0) (s2 := 0) rfl rfl ⟨Nat.le_of_ble_eq_true rfl, Nat.le_of_ble_eq_true rfl⟩ rfl (fun hTg => ?_)
    refine ww_nm (fun S6 e_S6 => ?_)
    replace h := h S6 e_S6
    have hT_S6 : S6.2.2.1 = T0 := by rw [e_S6, hTg]; exact hT
    obtain ⟨x7, e_x7⟩ : ∃ z : Int32, z = v4 + (-1) := ⟨_, rfl⟩
    replace h := h x7 e_x7
    refine ww_iinc (v := x7) (lv2 := [(4, .int x7), (0, .ref (gad g r)), (1, .long a)]) C dX8_addNumber_26 2 rfl (by rw [e_x7]; rfl) (Nat.le_of_ble_eq_true rfl) rfl ?_
    refine ww_goto (tgt := 5) C dX8_addNumber_29 (by decide) ?_
    exact ww_sub [1, 2, 0] rfl (h hT_S6)
def wp_X8_addNumber (S : St) (r : Nat) (a : Int64) (n : Int32) (P : St → Prop) : Prop :=
  ∀ (X5 : St → Int32 → Prop), (∀ S v4, st_X8_addNumber_5 r a n P X5 S v4 → X5 S v4) → ∀ x8 : Int32, x8 = n - 1 → X5 S x8
set_option maxHeartbeats 4000000 in
set_option maxRecDepth 100000 in
theorem run_X8_addNumber {l : Launch} {g : Gx} {S : St} {r : Nat} {a : Int64} {n : Int32} {P : St → Prop} (hr : r < 68) (h : rowsLe S → wp_X8_addNumber S r a n P) : CMv g l yX8_addNumber cX8_addNumber 5 none rm_X8_addNumber [.ref (gad g r), .long a, .int n] S P := cm_entry (own := RX8) (plainFor_of_name (by decide)) rfl (Nat.le_of_ble_eq_true rfl) rfl (fun hle f hf C hrt => by
  subst hf
  replace h := h hle
  obtain ⟨T0, hT⟩ : ∃ T, S.2.2.1 = T := ⟨_, rfl⟩
  rw [hT]
  replace h := h (at_X8_addNumber_5 f g T0 r a n P) (fun S v4 h => run_X8_addNumber_5 C hrt hr h)
  refine ww_iload_n C dX8_addNumber_0 2 rfl ?_
  refine ww_iconst (v := 1) C dX8_addNumber_1 (by decide) ?_
  refine ww_isub C dX8_addNumber_2 ?_
  refine ww_topi (fun x8 e_x8 => ?_)
  replace h := h x8 e_x8
  refine ww_istore (lv2 := [(4, .int x8), (0, .ref (gad g r)), (1, .long a), (3, .int n)]) C dX8_addNumber_3 (Nat.le_of_ble_eq_true rfl) rfl ?_
  exact ww_sub [1, 2, 0] rfl (h hT))
def rNum (S : St) (r : Nat) (a : Int64) (n : Int32) : St := rApp S r (numB a n.toNatClampNeg)
def nnB (S : St) (r : Nat) (a : Int64) (n : Int32) : Prop := ¬ n < 0
theorem numB_len {a : Int64} {N : Nat} : (numB a N).length = N := by simp [numB]
theorem numB_succ {a : Int64} {m j : Nat} (hm : 0 < m) : (numB a (m + j)).take j ++ [numByte a (m - 1)] = (numB a (m + j)).take (j + 1) := by
  have hj : j < (numB a (m + j)).length := by rw [numB_len]; omega
  rw [List.take_succ, List.getElem?_eq_getElem hj]
  simp [numB]
  congr 1
  omega
theorem sp_num {S : St} {r : Nat} {a : Int64} {n : Int32} (hr : r < 68) (q : ¬ n < 0) (hle : rowsLe S) : wp_X8_addNumber S r a n (fun S2 => S2 = rNum S r a n) := by
  intro X5 h5 x8 e8
  have key : ∀ m j, m + j < 2 ^ 31 → X5 (rApp S r ((numB a (m + j)).take j)) (nI m - 1) ∨ rApp S r (numB a (m + j)) ≠ rNum S r a n := by
    intro m
    induction m with
    | zero =>
      intro j hj
      by_cases hP : rApp S r (numB a (0 + j)) = rNum S r a n
      · left
        refine h5 _ _ ⟨fun _ => ?_, fun q => absurd (by decide) q⟩
        show rApp S r _ = rNum S r a n
        rw [← hP, List.take_of_length_le (by rw [numB_len]; omega)]
      · right; exact hP
    | succ m ih =>
      intro j hj
      by_cases hP : rApp S r (numB a (m + 1 + j)) = rNum S r a n
      · left
        rw [nI_pred]
        refine h5 _ _ ⟨fun q => absurd q (nI_pos (by omega)), fun _ S6 e6 x7 e7 => ?_⟩
        rw [e6, e7]
        have e9 : nI m + (-1) = nI m - 1 := by rw [Int32.sub_eq_add_neg]
        have e10 : rAdd (rApp S r ((numB a (m + 1 + j)).take j)) r (((a >>> ((8 * nI m).toInt64 &&& 63)) &&& 255).toInt32) = rApp S r ((numB a (m + (j + 1))).take (j + 1)) := by
          show rApp (rApp S r _) r [numByte a m] = _
          rw [rApp_app]
          have := numB_succ (a := a) (m := m + 1) (j := j) (by omega)
          rw [show m + 1 - 1 = m from rfl] at this
          rw [this, show m + (j + 1) = m + 1 + j by omega]
        rw [e9, e10]
        rcases ih (j + 1) (by omega) with h | h
        · exact h
        · exact absurd (by rw [show m + (j + 1) = m + 1 + j by omega]; exact hP) h
      · right; exact hP
  obtain ⟨e, hN⟩ := nonneg_nI q
  rcases key n.toNatClampNeg 0 (by omega) with h | h
  · rw [List.take_zero, rApp_nil hr hle, ← e, ← e8] at h
    exact h
  · exact absurd rfl h
theorem cm_X8_addNumber {l : Launch} {g : Gx} {S : St} {r : Nat} {a : Int64} {n : Int32} (hr : r < 68) (q : nnB S r a n) : CMv g l yX8_addNumber cX8_addNumber 5 none rm_X8_addNumber [.ref (gad g r), .long a, .int n] S (fun S2 => S2 = rNum S r a n) := run_X8_addNumber hr (fun hle => sp_num hr q hle)
def shortB (v : Int32) : List Int32 := if 253 ≤ v then (if 505 < v then (if 761 < v then 253 :: numB v.toInt64 2 else [254, v - 506]) else [255, v - 253]) else [v]
def longB (v : Int32) : List Int32 := if 128 ≤ v then [128 + v / 128, v - v / 128 * 128] else [v - v / 128 * 128]
abbrev rm_X8_addShort : Room := { frames := 2, cells := 0, slots := 0, locals := 45 }
theorem ok_X8_addShort : MOK yX8_addShort RX8 cX8_addShort 2 none 1 := ⟨bw_544, bw_545, bw_62, bw_546, by decide +kernel⟩
def wp_X8_addShort_81 (r : Nat) (v : Int32) (S : St)  (P : St → Prop) : Prop :=
  P S
set_option maxHeartbeats 4000000 in
set_option maxRecDepth 100000 in
theorem run_X8_addShort_81 {f : Fx} {g : Gx} {T0 : List (Nat × Nat × Nat)} {S : St} {r : Nat} {v : Int32} {P : St → Prop} (C : Cx f g cX8_addShort 2 RX8) (hrt : (fmeth f).sig.returnType = none) (hr : r < 68)  (hT : S.2.2.1 = T0)  (h : wp_X8_addShort_81 r v S  P) : WW f rm_X8_addShort g 2 0 0 (Qv f g 0 0 T0 P) S 81 [] [] := by
  unfold wp_X8_addShort_81 at h
  exact ww_vret C hrt dX8_addShort_81 hT h
def wp_X8_addShort (S : St) (r : Nat) (v : Int32) (P : St → Prop) : Prop :=
  ((253 ≤ v → ((505 < v → ((761 < v → ∀ S14 : St, S14 = rAdd S r 253 → (nnB S14 r v.toInt64 2 ∧ ∀ S15 : St, S15 = rNum S14 r v.toInt64 2 → wp_X8_addShort_81 r v S15  P)) ∧ (¬ 761 < v → ∀ S16 : St, S16 = rAdd S r 254 → ∀ S17 : St, S17 = rAdd S16 r (v - 506) → wp_X8_addShort_81 r v S17  P))) ∧ (¬ 505 < v → ∀ S18 : St, S18 = rAdd S r 255 → ∀ S19 : St, S19 = rAdd S18 r (v - 253) → wp_X8_addShort_81 r v S19  P))) ∧ (¬ 253 ≤ v → ∀ S20 : St, S20 = rAdd S r v → wp_X8_addShort_81 r v S20  P))
set_option maxHeartbeats 4000000 in
set_option maxRecDepth 100000 in
theorem run_X8_addShort {l : Launch} {g : Gx} {S : St} {r : Nat} {v : Int32} {P : St → Prop} (hr : r < 68) (h : rowsLe S → wp_X8_addShort S r v P) : CMv g l yX8_addShort cX8_addShort 2 none rm_X8_addShort [.ref (gad g r), .int v] S P := cm_entry (own := RX8) (plainFor_of_name (by decide)) rfl (Nat.le_of_ble_eq_true rfl) rfl (fun hle f hf C hrt => by
  subst hf
  replace h := h hle
  obtain ⟨T0, hT⟩ : ∃ T, S.2.2.1 = T := ⟨_, rfl⟩
  rw [hT]
  unfold wp_X8_addShort at h
  refine ww_iload_n C dX8_addShort_0 1 rfl ?_
  refine ww_sipush (v := 253) C dX8_addShort_1 (by decide) ?_
  refine ww_icmp_ge (tgt := 15) C dX8_addShort_4 (by decide) (fun q11 => ?_) (fun q11 => ?_)
  · replace h := h.1 q11
    refine ww_iload_n C dX8_addShort_15 1 rfl ?_
    refine ww_sipush (v := 505) C dX8_addShort_16 (by decide) ?_
    refine ww_icmp_gt (tgt := 41) C dX8_addShort_19 (by decide) (fun q12 => ?_) (fun q12 => ?_)
    · replace h := h.1 q12
      refine ww_iload_n C dX8_addShort_41 1 rfl ?_
      refine ww_sipush (v := 761) C dX8_addShort_42 (by decide) ?_
      refine ww_icmp_gt (tgt := 67) C dX8_addShort_45 (by decide) (fun q13 => ?_) (fun q13 => ?_)
      · replace h := h.1 q13
        refine ww_aload_n C dX8_addShort_67 0 rfl ?_
        refine ww_sipush (v := 253) C dX8_addShort_68 (by decide) ?_
        refine ww_cVg (As := [.int 253]) (rest := []) C ok_X8_add bw_454 dX8_addShort_71 (cm_X8_add hr) (rc_Row hr) rfl ⟨Nat.le_of_ble_eq_true rfl, Nat.le_of_ble_eq_true rfl⟩ (Nat.le_of_ble_eq_true rfl) (c2 := 0) (s2 := 0) rfl rfl ⟨Nat.le_of_ble_eq_true rfl, Nat.le_of_ble_eq_true rfl⟩ rfl (fun hTg => ?_)
        refine ww_nm (fun S14 e_S14 => ?_)
        replace h := h S14 e_S14
        have hT_S14 : S14.2.2.1 = T0 := by rw [e_S14, hTg]; exact hT
        refine ww_aload_n C dX8_addShort_74 0 rfl ?_
        refine ww_iload_n C dX8_addShort_75 1 rfl ?_
        refine ww_i2l C dX8_addShort_76 ?_
        refine ww_iconst (v := 2) C dX8_addShort_77 (by decide) ?_
        refine ww_cVg (As := [.long v.toInt64, .int 2]) (rest := []) C ok_X8_addNumber bw_547 dX8_addShort_78 (cm_X8_addNumber hr h.1) (rc_Row hr) rfl ⟨Nat.le_of_ble_eq_true rfl, Nat.le_of_ble_eq_true rfl⟩ (Nat.le_of_ble_eq_true rfl) (c2 := 0) (s2 := 0) rfl rfl ⟨Nat.le_of_ble_eq_true rfl, Nat.le_of_ble_eq_true rfl⟩ rfl (fun hTg => ?_)
        replace h := h.2
        refine ww_nm (fun S15 e_S15 => ?_)
        replace h := h S15 e_S15
        have hT_S15 : S15.2.2.1 = T0 := by rw [e_S15, hTg]; exact hT_S14
        exact ww_sub [] rfl (run_X8_addShort_81 C hrt hr hT_S15  h)
      · replace h := h.2 q13
        refine ww_aload_n C dX8_addShort_48 0 rfl ?_
        refine ww_sipush (v := 254) C dX8_addShort_49 (by decide) ?_
        refine ww_cVg (As := [.int 254]) (rest := []) C ok_X8_add bw_454 dX8_addShort_52 (cm_X8_add hr) (rc_Row hr) rfl ⟨Nat.le_of_ble_eq_true rfl, Nat.le_of_ble_eq_true rfl⟩ (Nat.le_of_ble_eq_true rfl) (c2 := 0) (s2 := 0) rfl rfl ⟨Nat.le_of_ble_eq_true rfl, Nat.le_of_ble_eq_true rfl⟩ rfl (fun hTg => ?_)
        refine ww_nm (fun S16 e_S16 => ?_)
        replace h := h S16 e_S16
        have hT_S16 : S16.2.2.1 = T0 := by rw [e_S16, hTg]; exact hT
        refine ww_aload_n C dX8_addShort_55 0 rfl ?_
        refine ww_iload_n C dX8_addShort_56 1 rfl ?_
        refine ww_sipush (v := 506) C dX8_addShort_57 (by decide) ?_
        refine ww_isub C dX8_addShort_60 ?_
        refine ww_cVg (As := [.int (v - 506)]) (rest := []) C ok_X8_add bw_454 dX8_addShort_61 (cm_X8_add hr) (rc_Row hr) rfl ⟨Nat.le_of_ble_eq_true rfl, Nat.le_of_ble_eq_true rfl⟩ (Nat.le_of_ble_eq_true rfl) (c2 := 0) (s2 := 0) rfl rfl ⟨Nat.le_of_ble_eq_true rfl, Nat.le_of_ble_eq_true rfl⟩ rfl (fun hTg => ?_)
        refine ww_nm (fun S17 e_S17 => ?_)
        replace h := h S17 e_S17
        have hT_S17 : S17.2.2.1 = T0 := by rw [e_S17, hTg]; exact hT_S16
        refine ww_goto (tgt := 81) C dX8_addShort_64 (by decide) ?_
        exact ww_sub [] rfl (run_X8_addShort_81 C hrt hr hT_S17  h)
    · replace h := h.2 q12
      refine ww_aload_n C dX8_addShort_22 0 rfl ?_
      refine ww_sipush (v := 255) C dX8_addShort_23 (by decide) ?_
      refine ww_cVg (As := [.int 255]) (rest := []) C ok_X8_add bw_454 dX8_addShort_26 (cm_X8_add hr) (rc_Row hr) rfl ⟨Nat.le_of_ble_eq_true rfl, Nat.le_of_ble_eq_true rfl⟩ (Nat.le_of_ble_eq_true rfl) (c2 := 0) (s2 := 0) rfl rfl ⟨Nat.le_of_ble_eq_true rfl, Nat.le_of_ble_eq_true rfl⟩ rfl (fun hTg => ?_)
      refine ww_nm (fun S18 e_S18 => ?_)
      replace h := h S18 e_S18
      have hT_S18 : S18.2.2.1 = T0 := by rw [e_S18, hTg]; exact hT
      refine ww_aload_n C dX8_addShort_29 0 rfl ?_
      refine ww_iload_n C dX8_addShort_30 1 rfl ?_
      refine ww_sipush (v := 253) C dX8_addShort_31 (by decide) ?_
      refine ww_isub C dX8_addShort_34 ?_
      refine ww_cVg (As := [.int (v - 253)]) (rest := []) C ok_X8_add bw_454 dX8_addShort_35 (cm_X8_add hr) (rc_Row hr) rfl ⟨Nat.le_of_ble_eq_true rfl, Nat.le_of_ble_eq_true rfl⟩ (Nat.le_of_ble_eq_true rfl) (c2 := 0) (s2 := 0) rfl rfl ⟨Nat.le_of_ble_eq_true rfl, Nat.le_of_ble_eq_true rfl⟩ rfl (fun hTg => ?_)
      refine ww_nm (fun S19 e_S19 => ?_)
      replace h := h S19 e_S19
      have hT_S19 : S19.2.2.1 = T0 := by rw [e_S19, hTg]; exact hT_S18
      refine ww_goto (tgt := 81) C dX8_addShort_38 (by decide) ?_
      exact ww_sub [] rfl (run_X8_addShort_81 C hrt hr hT_S19  h)
  · replace h := h.2 q11
    refine ww_aload_n C dX8_addShort_7 0 rfl ?_
    refine ww_iload_n C dX8_addShort_8 1 rfl ?_
    refine ww_cVg (As := [.int v]) (rest := []) C ok_X8_add bw_454 dX8_addShort_9 (cm_X8_add hr) (rc_Row hr) rfl ⟨Nat.le_of_ble_eq_true rfl, Nat.le_of_ble_eq_true rfl⟩ (Nat.le_of_ble_eq_true rfl) (c2 := 0) (s2 := 0) rfl rfl ⟨Nat.le_of_ble_eq_true rfl, Nat.le_of_ble_eq_true rfl⟩ rfl (fun hTg => ?_)
    refine ww_nm (fun S20 e_S20 => ?_)
    replace h := h S20 e_S20
    have hT_S20 : S20.2.2.1 = T0 := by rw [e_S20, hTg]; exact hT
    refine ww_goto (tgt := 81) C dX8_addShort_12 (by decide) ?_
    exact ww_sub [] rfl (run_X8_addShort_81 C hrt hr hT_S20  h))
def rShort (S : St) (r : Nat) (v : Int32) : St := rApp S r (shortB v)
theorem sp_short {S : St} {r : Nat} {v : Int32} : wp_X8_addShort S r v (fun S2 => S2 = rShort S r v) := by
  unfold wp_X8_addShort rShort shortB
  refine ⟨fun q => ?_, fun q => ?_⟩
  · rw [if_pos q]
    refine ⟨fun q1 => ?_, fun q1 => ?_⟩
    · rw [if_pos q1]
      refine ⟨fun q2 => ?_, fun q2 => ?_⟩
      · rw [if_pos q2]
        intro S1 e1
        refine ⟨by unfold nnB; decide, fun S2 e2 => ?_⟩
        show S2 = _
        rw [e2, e1]
        unfold rNum rAdd
        rw [rApp_app]
        rfl
      · rw [if_neg q2]
        intro S1 e1 S2 e2
        show S2 = _
        rw [e2, e1]
        unfold rAdd
        rw [rApp_app]
        rfl
    · rw [if_neg q1]
      intro S1 e1 S2 e2
      show S2 = _
      rw [e2, e1]
      unfold rAdd
      rw [rApp_app]
      rfl
  · rw [if_neg q]
    intro S1 e1
    exact e1
theorem cm_X8_addShort {l : Launch} {g : Gx} {S : St} {r : Nat} {v : Int32} (hr : r < 68) : CMv g l yX8_addShort cX8_addShort 2 none rm_X8_addShort [.ref (gad g r), .int v] S (fun S2 => S2 = rShort S r v) := run_X8_addShort hr (fun hle => sp_short)
abbrev rm_X8_addLong : Room := { frames := 1, cells := 0, slots := 0, locals := 21 }
theorem ok_X8_addLong : MOK yX8_addLong RX8 cX8_addLong 2 none 1 := ⟨bw_577, bw_578, bw_62, bw_579, by decide +kernel⟩
def wp_X8_addLong_20 (r : Nat) (v : Int32) (S : St)  (P : St → Prop) : Prop :=
  ∀ S4 : St, S4 = rAdd S r (v - v / 128 * 128) → P S4
set_option maxHeartbeats 4000000 in
set_option maxRecDepth 100000 in
theorem run_X8_addLong_20 {f : Fx} {g : Gx} {T0 : List (Nat × Nat × Nat)} {S : St} {r : Nat} {v : Int32} {P : St → Prop} (C : Cx f g cX8_addLong 2 RX8) (hrt : (fmeth f).sig.returnType = none) (hr : r < 68)  (hT : S.2.2.1 = T0)  (h : wp_X8_addLong_20 r v S  P) : WW f rm_X8_addLong g 2 0 0 (Qv f g 0 0 T0 P) S 20 [(0, .ref (gad g r)), (1, .int v)] [] := by
  unfold wp_X8_addLong_20 at h
  refine ww_aload_n C dX8_addLong_20 0 rfl ?_
  refine ww_iload_n C dX8_addLong_21 1 rfl ?_
  refine ww_sipush (v := 128) C dX8_addLong_22 (by decide) ?_
  refine ww_irem C dX8_addLong_25 (by decide) ?_
  refine ww_cVg (As := [.int (v - v / 128 * 128)]) (rest := []) C ok_X8_add bw_454 dX8_addLong_26 (cm_X8_add hr) (rc_Row hr) rfl ⟨Nat.le_of_ble_eq_true rfl, Nat.le_of_ble_eq_true rfl⟩ (Nat.le_of_ble_eq_true rfl) (c2 := 0) (s2 := 0) rfl rfl ⟨Nat.le_of_ble_eq_true rfl, Nat.le_of_ble_eq_true rfl⟩ rfl (fun hTg => ?_)
  refine ww_nm (fun S4 e_S4 => ?_)
  replace h := h S4 e_S4
  have hT_S4 : S4.2.2.1 = T0 := by rw [e_S4, hTg]; exact hT
  exact ww_vret C hrt dX8_addLong_29 hT_S4 h
def wp_X8_addLong (S : St) (r : Nat) (v : Int32) (P : St → Prop) : Prop :=
  ((v < 128 → wp_X8_addLong_20 r v S  P) ∧ (¬ v < 128 → ∀ S6 : St, S6 = rAdd S r (128 + (v / 128)) → wp_X8_addLong_20 r v S6  P))
set_option maxHeartbeats 4000000 in
set_option maxRecDepth 100000 in
theorem run_X8_addLong {l : Launch} {g : Gx} {S : St} {r : Nat} {v : Int32} {P : St → Prop} (hr : r < 68) (h : rowsLe S → wp_X8_addLong S r v P) : CMv g l yX8_addLong cX8_addLong 2 none rm_X8_addLong [.ref (gad g r), .int v] S P := cm_entry (own := RX8) (plainFor_of_name (by decide)) rfl (Nat.le_of_ble_eq_true rfl) rfl (fun hle f hf C hrt => by
  subst hf
  replace h := h hle
  obtain ⟨T0, hT⟩ : ∃ T, S.2.2.1 = T := ⟨_, rfl⟩
  rw [hT]
  unfold wp_X8_addLong at h
  refine ww_iload_n C dX8_addLong_0 1 rfl ?_
  refine ww_sipush (v := 128) C dX8_addLong_1 (by decide) ?_
  refine ww_icmp_lt (tgt := 20) C dX8_addLong_4 (by decide) (fun q5 => ?_) (fun q5 => ?_)
  · replace h := h.1 q5
    exact ww_sub [0, 1] rfl (run_X8_addLong_20 C hrt hr hT  h)
  · replace h := h.2 q5
    refine ww_aload_n C dX8_addLong_7 0 rfl ?_
    refine ww_sipush (v := 128) C dX8_addLong_8 (by decide) ?_
    refine ww_iload_n C dX8_addLong_11 1 rfl ?_
    refine ww_sipush (v := 128) C dX8_addLong_12 (by decide) ?_
    refine ww_idiv C dX8_addLong_15 (by decide) ?_
    refine ww_iadd C dX8_addLong_16 ?_
    refine ww_cVg (As := [.int (128 + (v / 128))]) (rest := []) C ok_X8_add bw_454 dX8_addLong_17 (cm_X8_add hr) (rc_Row hr) rfl ⟨Nat.le_of_ble_eq_true rfl, Nat.le_of_ble_eq_true rfl⟩ (Nat.le_of_ble_eq_true rfl) (c2 := 0) (s2 := 0) rfl rfl ⟨Nat.le_of_ble_eq_true rfl, Nat.le_of_ble_eq_true rfl⟩ rfl (fun hTg => ?_)
    refine ww_nm (fun S6 e_S6 => ?_)
    replace h := h S6 e_S6
    have hT_S6 : S6.2.2.1 = T0 := by rw [e_S6, hTg]; exact hT
    exact ww_sub [0, 1] rfl (run_X8_addLong_20 C hrt hr hT_S6  h))
def rLong (S : St) (r : Nat) (v : Int32) : St := rApp S r (longB v)
theorem sp_long {S : St} {r : Nat} {v : Int32} : wp_X8_addLong S r v (fun S2 => S2 = rLong S r v) := by
  unfold wp_X8_addLong rLong longB
  refine ⟨fun q => ?_, fun q => ?_⟩
  · rw [if_neg (by rw [Int32.not_le]; exact q)]
    intro S1 e1
    exact e1
  · rw [if_pos (by rw [Int32.not_lt] at q; exact q)]
    intro S1 e1 S2 e2
    show S2 = _
    rw [e2, e1]
    unfold rAdd
    rw [rApp_app]
    rfl
theorem cm_X8_addLong {l : Launch} {g : Gx} {S : St} {r : Nat} {v : Int32} (hr : r < 68) : CMv g l yX8_addLong cX8_addLong 2 none rm_X8_addLong [.ref (gad g r), .int v] S (fun S2 => S2 = rLong S r v) := run_X8_addLong hr (fun hle => sp_long)
abbrev rm_X8_sameFrom : Room := { frames := 0, cells := 0, slots := 0, locals := 0 }
theorem ok_X8_sameFrom : MOK yX8_sameFrom RX8 cX8_sameFrom 4 (some .int) 2 := ⟨bw_606, bw_607, bw_62, bw_608, by decide +kernel⟩
def st_X8_sameFrom_22 (r : Nat) (p : Int32) (d : Int32) (P : Int32 → St → Prop) (X22 : St → Prop) (X26 : St → Int32 → Prop) (X63 : St → Int32 → Prop) (S : St)  : Prop :=
  P 0 S
def st_X8_sameFrom_26 (r : Nat) (p : Int32) (d : Int32) (P : Int32 → St → Prop) (X22 : St → Prop) (X26 : St → Int32 → Prop) (X63 : St → Int32 → Prop) (S : St) (v3 : Int32) : Prop :=
  (((nI (S.1 r).length) ≤ (p + v3) → X63 S v3) ∧ (¬ (nI (S.1 r).length) ≤ (p + v3) → (vp_in (p + v3) (S.1 r).length ∧ (vp_in ((p + v3) - d) (S.1 r).length ∧ ((¬ ((S.1 r).getD (p + v3).toNatClampNeg 0) = ((S.1 r).getD ((p + v3) - d).toNatClampNeg 0) → X63 S v3) ∧ (((S.1 r).getD (p + v3).toNatClampNeg 0) = ((S.1 r).getD ((p + v3) - d).toNatClampNeg 0) → ∀ x9 : Int32, x9 = v3 + 1 → X26 S x9))))))
def st_X8_sameFrom_63 (r : Nat) (p : Int32) (d : Int32) (P : Int32 → St → Prop) (X22 : St → Prop) (X26 : St → Int32 → Prop) (X63 : St → Int32 → Prop) (S : St) (v3 : Int32) : Prop :=
  P v3 S
def at_X8_sameFrom_22 (f : Fx) (g : Gx) (T0 : List (Nat × Nat × Nat)) (r : Nat) (p : Int32) (d : Int32) (P : Int32 → St → Prop) (S : St)  : Prop := S.2.2.1 = T0 → WW f rm_X8_sameFrom g 4 0 0 (Qi f g 0 0 T0 P) S 22 [] []
def at_X8_sameFrom_26 (f : Fx) (g : Gx) (T0 : List (Nat × Nat × Nat)) (r : Nat) (p : Int32) (d : Int32) (P : Int32 → St → Prop) (S : St) (v3 : Int32) : Prop := S.2.2.1 = T0 → WW f rm_X8_sameFrom g 4 0 0 (Qi f g 0 0 T0 P) S 26 [(0, .ref (gad g r)), (1, .int p), (2, .int d), (3, .int v3)] []
def at_X8_sameFrom_63 (f : Fx) (g : Gx) (T0 : List (Nat × Nat × Nat)) (r : Nat) (p : Int32) (d : Int32) (P : Int32 → St → Prop) (S : St) (v3 : Int32) : Prop := S.2.2.1 = T0 → WW f rm_X8_sameFrom g 4 0 0 (Qi f g 0 0 T0 P) S 63 [(3, .int v3)] []
set_option maxHeartbeats 4000000 in
set_option maxRecDepth 100000 in
theorem run_X8_sameFrom_22 {f : Fx} {g : Gx} {T0 : List (Nat × Nat × Nat)} {S : St} {r : Nat} {p : Int32} {d : Int32} {P : Int32 → St → Prop} (C : Cx f g cX8_sameFrom 4 RX8) (hrt : (fmeth f).sig.returnType = (some .int)) (hr : r < 68)  (h : st_X8_sameFrom_22 r p d P (at_X8_sameFrom_22 f g T0 r p d P) (at_X8_sameFrom_26 f g T0 r p d P) (at_X8_sameFrom_63 f g T0 r p d P) S ) : at_X8_sameFrom_22 f g T0 r p d P S  := by
  intro hT 
  unfold st_X8_sameFrom_22 at h
  refine ww_iconst (v := 0) C dX8_sameFrom_22 (by decide) ?_
  exact ww_iret C hrt dX8_sameFrom_23 hT h
set_option maxHeartbeats 4000000 in
set_option maxRecDepth 100000 in
theorem run_X8_sameFrom_26 {f : Fx} {g : Gx} {T0 : List (Nat × Nat × Nat)} {S : St} {r : Nat} {p : Int32} {d : Int32} {P : Int32 → St → Prop} (C : Cx f g cX8_sameFrom 4 RX8) (hrt : (fmeth f).sig.returnType = (some .int)) (hr : r < 68) {v3 : Int32} (h : st_X8_sameFrom_26 r p d P (at_X8_sameFrom_22 f g T0 r p d P) (at_X8_sameFrom_26 f g T0 r p d P) (at_X8_sameFrom_63 f g T0 r p d P) S v3) : at_X8_sameFrom_26 f g T0 r p d P S v3 := by
  intro hT 
  unfold st_X8_sameFrom_26 at h
  refine ww_iload_n C dX8_sameFrom_26 1 rfl ?_
  refine ww_iload_n C dX8_sameFrom_27 3 rfl ?_
  refine ww_iadd C dX8_sameFrom_28 ?_
  refine ww_aload_n C dX8_sameFrom_29 0 rfl ?_
  refine gf_Row_length C (r := r) hr bw_98 dX8_sameFrom_30 ?_
  refine ww_icmp_ge (tgt := 63) C dX8_sameFrom_33 (by decide) (fun q7 => ?_) (fun q7 => ?_)
  · replace h := h.1 q7
    exact ww_sub [3] rfl (h hT)
  · replace h := h.2 q7
    refine ww_aload_n C dX8_sameFrom_36 0 rfl ?_
    refine gf_Row_cells C (r := r) hr bw_97 dX8_sameFrom_37 ?_
    refine ww_iload_n C dX8_sameFrom_40 1 rfl ?_
    refine ww_iload_n C dX8_sameFrom_41 3 rfl ?_
    refine ww_iadd C dX8_sameFrom_42 ?_
    refine ia_row (r := r) C hr h.1 dX8_sameFrom_43 ?_
    replace h := h.2
    refine ww_aload_n C dX8_sameFrom_44 0 rfl ?_
    refine gf_Row_cells C (r := r) hr bw_97 dX8_sameFrom_45 ?_
    refine ww_iload_n C dX8_sameFrom_48 1 rfl ?_
    refine ww_iload_n C dX8_sameFrom_49 3 rfl ?_
    refine ww_iadd C dX8_sameFrom_50 ?_
    refine ww_iload_n C dX8_sameFrom_51 2 rfl ?_
    refine ww_isub C dX8_sameFrom_52 ?_
    refine ia_row (r := r) C hr h.1 dX8_sameFrom_53 ?_
    replace h := h.2
    refine ww_icmp_ne (tgt := 63) C dX8_sameFrom_54 (by decide) (fun q8 => ?_) (fun q8 => ?_)
    · replace h := h.1 q8
      exact ww_sub [3] rfl (h hT)
    · replace h := h.2 q8
      obtain ⟨x9, e_x9⟩ : ∃ z : Int32, z = v3 + 1 := ⟨_, rfl⟩
      replace h := h x9 e_x9
      refine ww_iinc (v := x9) (lv2 := [(3, .int x9), (0, .ref (gad g r)), (1, .int p), (2, .int d)]) C dX8_sameFrom_57 3 rfl (by rw [e_x9]; rfl) (Nat.le_of_ble_eq_true rfl) rfl ?_
      refine ww_goto (tgt := 26) C dX8_sameFrom_60 (by decide) ?_
      exact ww_sub [1, 2, 3, 0] rfl (h hT)
set_option maxHeartbeats 4000000 in
set_option maxRecDepth 100000 in
theorem run_X8_sameFrom_63 {f : Fx} {g : Gx} {T0 : List (Nat × Nat × Nat)} {S : St} {r : Nat} {p : Int32} {d : Int32} {P : Int32 → St → Prop} (C : Cx f g cX8_sameFrom 4 RX8) (hrt : (fmeth f).sig.returnType = (some .int)) (hr : r < 68) {v3 : Int32} (h : st_X8_sameFrom_63 r p d P (at_X8_sameFrom_22 f g T0 r p d P) (at_X8_sameFrom_26 f g T0 r p d P) (at_X8_sameFrom_63 f g T0 r p d P) S v3) : at_X8_sameFrom_63 f g T0 r p d P S v3 := by
  intro hT 
  unfold st_X8_sameFrom_63 at h
  refine ww_iload_n C dX8_sameFrom_63 0 rfl ?_
  exact ww_iret C hrt dX8_sameFrom_64 hT h
def wp_X8_sameFrom (S : St) (r : Nat) (p : Int32) (d : Int32) (P : Int32 → St → Prop) : Prop :=
  ∀ (X22 : St → Prop) (X26 : St → Int32 → Prop) (X63 : St → Int32 → Prop), (∀ S , st_X8_sameFrom_22 r p d P X22 X26 X63 S  → X22 S ) → (∀ S v3, st_X8_sameFrom_26 r p d P X22 X26 X63 S v3 → X26 S v3) → (∀ S v3, st_X8_sameFrom_63 r p d P X22 X26 X63 S v3 → X63 S v3) → ((d < 1 → X22 S) ∧ (¬ d < 1 → ((p < d → X22 S) ∧ (¬ p < d → (((nI (S.1 r).length) ≤ (nI (gw_cap r)) → X26 S 0) ∧ (¬ (nI (S.1 r).length) ≤ (nI (gw_cap r)) → X22 S))))))
set_option maxHeartbeats 4000000 in
set_option maxRecDepth 100000 in
theorem run_X8_sameFrom {l : Launch} {g : Gx} {S : St} {r : Nat} {p : Int32} {d : Int32} {P : Int32 → St → Prop} (hr : r < 68) (h : rowsLe S → wp_X8_sameFrom S r p d P) : CMi g l yX8_sameFrom cX8_sameFrom 4 (some .int) rm_X8_sameFrom [.ref (gad g r), .int p, .int d] S P := cm_entry (own := RX8) (plainFor_of_name (by decide)) rfl (Nat.le_of_ble_eq_true rfl) rfl (fun hle f hf C hrt => by
  subst hf
  replace h := h hle
  obtain ⟨T0, hT⟩ : ∃ T, S.2.2.1 = T := ⟨_, rfl⟩
  rw [hT]
  replace h := h (at_X8_sameFrom_22 f g T0 r p d P) (at_X8_sameFrom_26 f g T0 r p d P) (at_X8_sameFrom_63 f g T0 r p d P) (fun S  h => run_X8_sameFrom_22 C hrt hr h) (fun S v3 h => run_X8_sameFrom_26 C hrt hr h) (fun S v3 h => run_X8_sameFrom_63 C hrt hr h)
  refine ww_iload_n C dX8_sameFrom_0 2 rfl ?_
  refine ww_iconst (v := 1) C dX8_sameFrom_1 (by decide) ?_
  refine ww_icmp_lt (tgt := 22) C dX8_sameFrom_2 (by decide) (fun q10 => ?_) (fun q10 => ?_)
  · replace h := h.1 q10
    exact ww_sub [] rfl (h hT)
  · replace h := h.2 q10
    refine ww_iload_n C dX8_sameFrom_5 2 rfl ?_
    refine ww_iload_n C dX8_sameFrom_6 1 rfl ?_
    refine ww_icmp_gt (tgt := 22) C dX8_sameFrom_7 (by decide) (fun q11 => ?_) (fun q11 => ?_)
    · replace h := h.1 q11
      exact ww_sub [] rfl (h hT)
    · replace h := h.2 q11
      refine ww_aload_n C dX8_sameFrom_10 0 rfl ?_
      refine gf_Row_length C (r := r) hr bw_98 dX8_sameFrom_11 ?_
      refine ww_aload_n C dX8_sameFrom_14 0 rfl ?_
      refine gf_Row_cells C (r := r) hr bw_97 dX8_sameFrom_15 ?_
      refine al_row C hr dX8_sameFrom_18 ?_
      refine ww_icmp_le (tgt := 24) C dX8_sameFrom_19 (by decide) (fun q12 => ?_) (fun q12 => ?_)
      · replace h := h.1 q12
        refine ww_iconst (v := 0) C dX8_sameFrom_24 (by decide) ?_
        refine ww_istore_n (lv2 := [(3, .int 0), (0, .ref (gad g r)), (1, .int p), (2, .int d)]) C dX8_sameFrom_25 rfl (Nat.le_of_ble_eq_true rfl) rfl ?_
        exact ww_sub [1, 2, 3, 0] rfl (h hT)
      · replace h := h.2 q12
        exact ww_sub [] rfl (h hT))
