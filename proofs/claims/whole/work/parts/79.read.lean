/-! read, both sides -/
theorem rd_ok {B : List Int32} (hB : okB B) : (rd B).1 ≤ 4 ∧ ((rd B).1 = 0 → okF (rd B).2) := by
  have hb := hB.2
  unfold rd
  cases h1 : hd B with
  | none => exact ⟨by simp, fun z => by simp at z⟩
  | some x =>
    obtain ⟨p, z, hs⟩ := x
    simp only
    obtain ⟨d1, d2, d3, d4, d5⟩ := hd_ok hb h1
    cases h2 : ex B p z with
    | none => exact ⟨by simp, fun z => by simp at z⟩
    | some L =>
      simp only
      have hLb := (ex_ok h2 d1).2
      cases h3 : rdG L hs with
      | none => exact ⟨by simp, fun z => by simp at z⟩
      | some gs =>
        simp only
        split
        · exact ⟨by simp, fun _ => (rdT_ok hLb d4 h3).1⟩
        · exact ⟨by simp, fun z => by simp at z⟩
theorem sm_read {S : St} {A : Ab} {P : Int32 → St → Prop} (hok : okA A) (hm : MA S A)
    (h0 : (rd A.2.1).1 = 0 → ∀ S2, mFr S S2 → S2.2.1 9 0 = 0 → MA S2 ((rd A.2.1).2, A.2.1, nI 0) → P (nI (cntT (rd A.2.1).2 7)) S2)
    (h1 : (rd A.2.1).1 ≠ 0 → ∀ S2, mFr S S2 → S2.2.1 9 0 = 1 → MA S2 (A.1, A.2.1, nI (rd A.2.1).1) → P 0 S2) : wp_X11_read S P := by
  unfold wp_X11_read wp_X11_read_21 wp_X11_read_39
  have hr := rd_ok hok.2
  refine sm_readStages hok hm (fun S13 f13 mB13 mF13 S15 e15 => ?_)
  have g15 : S15.2.1 9 14 = nI (rd A.2.1).1 := by rw [e15, stM_self]
  have fx : ∀ {v}, fr kX S (stM S15 9 0 v) := fun {v} => by rw [e15]; exact fr_m (fr_m f13 (by unfold kX; omega)) (by unfold kX; omega)
  have mfx : ∀ {v}, mFr S (stM S15 9 0 v) := fun {v} => fx.m (fun k p z => by unfold kX at z; omega)
  have mFx : ∀ {v F}, mF S13 F → mF (stM S15 9 0 v) F := fun {v F} m => m.keep (K := fun k p => k = 9 ∧ (p = 14 ∨ p = 0)) (by rw [e15]; exact fr_m (fr_m (fr.refl _) (by omega)) (by omega)) (fun k p a b z => by omega) (by omega)
  have mBx : ∀ {v}, mB (stM S15 9 0 v) A.2.1 := fun {v} => by
    rw [e15]
    exact ⟨by rw [stM_p (by omega), stM_p (by omega)]; exact mB13.1, fun k hk => by rw [stM_k (by omega), stM_k (by omega)]; exact mB13.2 k hk⟩
  have g9 : ∀ {v}, (stM S15 9 0 v).2.1 9 14 = nI (rd A.2.1).1 := fun {v} => by rw [stM_p (by omega)]; exact g15
  refine pk_le (rd A.2.1).1 0 (fun z S9 e9 => ?_) (fun z S9 e9 => ?_) g15
  · have z0 : (rd A.2.1).1 = 0 := by omega
    rw [if_pos z0] at mF13
    refine ⟨fun _ => ?_, fun w => absurd (by rw [e9, stM_self]; decide) w⟩
    have m9 : mF S9 (rd A.2.1).2 := by rw [e9]; exact mFx mF13
    refine sm_tables m9 (hr.2 z0) (h0 z0 S9 (by rw [e9]; exact mfx) (by rw [e9, stM_self]) ⟨m9, by rw [e9]; exact mBx, ?_⟩)
    rw [e9, g9, z0]
  · have z0 : (rd A.2.1).1 ≠ 0 := by omega
    rw [if_neg z0] at mF13
    refine ⟨fun w => absurd w (by rw [e9, stM_self]; decide), fun _ => ?_⟩
    exact h1 z0 S9 (by rw [e9]; exact mfx) (by rw [e9, stM_self]) ⟨by rw [e9]; exact mFx mF13, by rw [e9]; exact mBx, by rw [e9]; exact g9⟩
theorem cF_k {S S2 : St} {j : Nat} {F : Fo} (h : cF S j F) (h1 : S2.1 = S.1) (h2 : ∀ k p, k < 2 → S2.2.1 k p = S.2.1 k p) : cF S2 j F := ⟨by rw [h2 1 j (by omega)]; exact h.1, fun g G e => (h.2.1 g G e).of (fun r _ _ => by rw [h1]) (h2 0 _ (by omega)), fun t a b => by rw [h1]; exact h.2.2 t a b⟩
theorem fx_nI {S : St} {j : Nat} (h : S.2.1 3 1 = nI j) (hj : j ≤ 1) : gw_fx S = j := by
  unfold gw_fx; rw [h]
  rcases Nat.eq_zero_or_pos j with z | z
  · rw [z, if_pos (by rfl)]
  · rw [show j = 1 by omega, if_neg (by decide)]
theorem sx_nI {S : St} {j : Nat} (h : S.2.1 3 2 = nI j) (hj : j ≤ 1) : gw_sx S = j := by
  unfold gw_sx; rw [h]
  rcases Nat.eq_zero_or_pos j with z | z
  · rw [z, if_pos (by rfl)]
  · rw [show j = 1 by omega, if_neg (by decide)]
theorem op_read {S : St} {Z : Int32 → Int32 → St → Prop} (h : Sim S) (hZ : ∀ k b S2, S2.2.1 9 0 = k → (k = 0 → S2.2.2.2 = b.toInt64) → Sim S2 → Z k b S2) : wp_L_read S (fun k S1 => wp_X11_read S1 (fun b S2 => Z k b S2)) := by
  obtain ⟨A, hk, hc, hm⟩ := h
  have hj := gw_fx_le S
  have hsx := gw_sx_le S
  obtain ⟨c1, c2, c3, c4, c5⟩ := id hc
  have hr := rd_ok hk.2
  unfold wp_L_read wp_X10_read
  refine sp_readPacked c1 hsx c4 hk.2 (fun S9 x9 c9 S11 e11 => ?_)
  have g11 : S11.2.1 3 0 = nI (rd A.2.1).1 := by rw [e11, stM_self]
  have s11 : S11.1 = S9.1 := by rw [e11]; rfl
  have k11 : ∀ k p, ¬ (k = 3 ∧ p = 0) → S11.2.1 k p = S9.2.1 k p := fun k p z => by rw [e11, stM_get, if_neg z]
  have k9 : ∀ p, S9.2.1 3 p = S.2.1 3 p := fun p => x9.2.1 3 p (by omega) (by omega) (by omega) (by omega)
  have fx11 : gw_fx S11 = gw_fx S := fx_of (by rw [k11 3 1 (by omega), k9])
  have sx11 : gw_sx S11 = gw_sx S := sx_of (by rw [k11 3 2 (by omega), k9])
  have l9 : rowsLe S9 := x9.2.2 c1
  have b9 : S9.1 62 = A.2.1 := by rw [x9.1 62 (by omega) (by omega) (by omega)]; exact c4
  refine pk_eq (rd A.2.1).1 0 (fun z S13 e13 S14 e14 => ?_) (fun z => ⟨rfl, ?_⟩) g11
  · rw [sx11] at e13
    rw [fx11] at e14
    have fx14 : gw_fx S14 = gw_sx S := fx_nI (by rw [e14, stM_p (by omega), e13, stM_self]) hsx
    have sx14 : gw_sx S14 = gw_fx S := sx_nI (by rw [e14, stM_self]) hj
    have s14 : S14.1 = S9.1 := by rw [e14, e13]; exact s11
    have k14 : ∀ k p, k ≠ 3 → S14.2.1 k p = S9.2.1 k p := fun k p z => by rw [e14, stM_k z, e13, stM_k z]; exact k11 k p (by omega)
    have c14 : cF S14 (gw_sx S) (rd A.2.1).2 := cF_k (c9 z) s14 (fun k p h => k14 k p (by omega))
    rw [fx14]
    refine sp_tableCount c14 (hr.2 z) ?_
    have m14 : MA (stO S14 (nI (cntT (rd A.2.1).2 7)).toInt64) A := hm.cl (fun k p a b => by
      show S14.2.1 k p = _
      rw [k14 k p (by omega)]; exact x9.2.1 k p (by omega) (by omega) (by omega) (by omega))
    have C14 : CA (stO S14 (nI (cntT (rd A.2.1).2 7)).toInt64) ((rd A.2.1).2, A.2.1, nI 0) := by
      refine ⟨le_of1 s14 l9, ?_, ?_, by show S14.1 62 = _; rw [s14]; exact b9, ?_⟩
      · show gw_sx S14 = 1 - gw_fx S14
        rw [fx14, sx14]; omega
      · show cF S14 (gw_fx S14) _
        rw [fx14]; exact c14
      · show S14.2.1 3 0 = _
        rw [e14, stM_p (by omega), e13, stM_p (by omega), g11, z]
    refine sm_read hk m14 (fun _ S2 f2 t2 hm2 => ?_) (fun y => absurd z y)
    exact hZ _ _ _ t2 (fun _ => by rw [f2.2.1]; rfl) ⟨((rd A.2.1).2, A.2.1, nI 0), ⟨hr.2 z, hk.2⟩, C14.mo f2, hm2⟩
  · have m11 : MA S11 A := hm.cl (fun k p a b => by
      rw [k11 k p (by omega)]; exact x9.2.1 k p (by omega) (by omega) (by omega) (by omega))
    have C11 : CA S11 (A.1, A.2.1, nI (rd A.2.1).1) := by
      refine ⟨le_of1 s11 l9, by rw [fx11, sx11]; exact c2, ?_, by rw [s11]; exact b9, g11⟩
      rw [fx11]
      refine ⟨by rw [k11 1 _ (by omega), x9.2.1 1 _ (by omega) (by omega) (by omega) (by omega)]; exact c3.1, fun g G e => ?_, fun t t1 t2 => ?_⟩
      · have hg := g_lt hk.1 e
        refine (c3.2.1 g G e).of (fun r a b => ?_) ?_
        · rw [s11]; exact x9.1 r (by omega) (by omega) (by omega)
        · rw [k11 0 _ (by omega)]; exact x9.2.1 0 _ (by omega) (by omega) (by omega) (by omega)
      · rw [s11, x9.1 _ (by omega) (by omega) (by omega)]; exact c3.2.2 t t1 t2
    refine sm_read hk m11 (fun y => absurd y z) (fun _ S2 f2 t2 hm2 => ?_)
    exact hZ _ _ _ t2 (fun y => absurd y (by decide)) ⟨(A.1, A.2.1, nI (rd A.2.1).1), ⟨hk.1, hk.2⟩, C11.mo f2, hm2⟩
