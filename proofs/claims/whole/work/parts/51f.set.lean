/-! set, cut, at, count, outline, stage, clear, table -/
def noB (B : List Int32) (k : Int32) : Prop := k < 0 ∨ ¬ k < nI B.length
def badB (b : Int32) : Prop := b < 0 ∨ ¬ b ≤ 255
theorem hasB {B : List Int32} {k : Int32} (hl : B.length ≤ 1500) (h : ¬ noB B k) : ∃ i, i < B.length ∧ k = nI i := by
  unfold noB at h
  have h1 : ¬ k < 0 := fun z => h (Or.inl z)
  have h2 : k < nI B.length := Classical.byContradiction fun z => h (Or.inr z)
  obtain ⟨i, hi, e⟩ := nI_of h1
  rw [e] at h2
  exact ⟨i, (nI_ltI hi (by omega)).mp h2, e⟩
theorem goodB {b : Int32} (h : ¬ badB b) : byt b := by
  unfold badB at h
  obtain ⟨m, hm, e⟩ := nI_of3 (a := b) (n := 255) (by omega) (fun z => h (Or.inl z)) (Classical.byContradiction fun z => h (Or.inr z))
  exact ⟨m, by omega, e⟩
theorem mo_thr {S : St} {A : Ab} {v : Int32} (hk : okA A) (hc : CA S A) (hm : MA S A) : Sim (stM S 9 0 v) := ⟨A, hk, hc.mo (mfThr _), hm.thr _⟩
theorem op_set {S : St} {k b : Int32} {V : Int32 → St → Prop} {Z : Int32 → St → Prop} (h : Sim S) (hV : ∀ c S1, wp_X11_set S1 k b (fun S2 => Z c S2) → V c S1) (hZ : ∀ c S2, S2.2.1 9 0 = c → Sim S2 → Z c S2) : wp_L_set S k b V := by
  obtain ⟨A, hk, hc, hm⟩ := h
  have hB := hk.2.1
  obtain ⟨c1, c2, c3, c4, c5⟩ := id hc
  have hl : rLen S 62 = nI A.2.1.length := by unfold rLen; rw [c4]
  have hl2 := hm.2.1.1
  have mo : ∀ S1, S1.2.1 9 3 = nI A.2.1.length → (noB A.2.1 k → Z 1 (stM S1 9 0 1)) → (¬ noB A.2.1 k → badB b → Z 2 (stM S1 9 0 2)) → ∀ c, (¬ noB A.2.1 k → ¬ badB b → c = 0) → (noB A.2.1 k → c = 1) → (¬ noB A.2.1 k → badB b → c = 2) → (¬ noB A.2.1 k → ¬ badB b → Z c (stM (stM S1 9 0 0) 29 k.toNatClampNeg b)) → wp_X11_set S1 k b (fun S2 => Z c S2) := by
    intro S1 e1 h1 h2 c hc0 hc1 hc2 h0
    unfold wp_X11_set wp_X11_set_31 wp_X11_set_48
    rw [e1]
    refine sm_out (fun q => ⟨fun z => absurd z (by decide), fun _ S10 e10 => ?_⟩) (fun q q2 => ⟨fun _ => ?_, fun z => absurd rfl z⟩)
    · rw [e10, stM_self]
      refine ⟨fun _ => ?_, fun z => absurd z (by decide)⟩
      rw [hc1 q]; exact h1 q
    · have nb : ¬ noB A.2.1 k := fun z => z.elim q (fun z => z q2)
      refine sm_out (fun q => ⟨fun z => absurd z (by decide), fun _ S10 e10 => ?_⟩) (fun q3 q4 => ⟨fun _ S10 e10 => ?_, fun z => absurd rfl z⟩)
      · have bb : badB b := q.imp_right fun q z => q ((lt_succ32 (n := 255) (by omega)).mpr z)
        rw [e10, stM_self]
        refine ⟨fun _ => ?_, fun z => absurd z (by decide)⟩
        rw [hc2 nb bb]; exact h2 nb bb
      · have bb : ¬ badB b := fun z => z.elim q3 (fun z => z ((lt_succ32 (n := 255) (by omega)).mp q4))
        rw [e10, stM_self]
        obtain ⟨i, hi, e⟩ := hasB hB nb
        refine ⟨fun z => absurd rfl z, fun _ => ⟨pk_in i _ (show i < 1500 by omega) e (by decide), fun S12 e12 => ?_⟩⟩
        rw [e12]; exact h0 nb bb
  unfold wp_L_set wp_X10_set wp_X10_set_16 wp_X10_refuseMissingByte wp_X10_refuseMissingByte_15
  rw [hl]
  have e1 : noB A.2.1 k → V 1 S := fun q => hV _ _ (mo S hl2 (fun _ => hZ _ _ stM_self (mo_thr hk hc hm)) (fun z => absurd q z) 1 (fun z => absurd q z) (fun _ => rfl) (fun z => absurd q z) (fun z => absurd q z))
  refine ⟨fun q => Or.inl ⟨rfl, e1 (Or.inl q)⟩, fun q => ⟨fun q2 => ?_, fun q2 => Or.inl ⟨rfl, e1 (Or.inr q2)⟩⟩⟩
  have nb : ¬ noB A.2.1 k := fun z => z.elim q (fun z => z q2)
  have e2 : badB b → V 2 S := fun q => hV _ _ (mo S hl2 (fun z => absurd z nb) (fun _ _ => hZ _ _ stM_self (mo_thr hk hc hm)) 2 (fun _ z => absurd q z) (fun z => absurd z nb) (fun _ _ => rfl) (fun _ z => absurd q z))
  refine ⟨fun q3 => Or.inr ⟨rfl, e2 (Or.inl q3)⟩, fun q3 => ⟨fun q4 S10 e10 => ?_, fun q4 => Or.inr ⟨rfl, e2 (Or.inr q4)⟩⟩⟩
  have bb : ¬ badB b := fun z => z.elim q3 (fun z => z q4)
  obtain ⟨i, hi, e⟩ := hasB hB nb
  have e10' : S10 = stX S 62 (A.2.1.set i b) := by
    rw [e10]; unfold rChange
    rw [if_neg q, e, nI_clamp (by omega), c4]
  have hc10 : CA S10 (A.1, A.2.1.set i b, A.2.2) := CA_buf hk hc (by simpa using hB) e10'
  have hm10 : MA S10 A := hm.cl (by rw [e10']; exact cFr.refl S)
  refine hV _ _ (mo S10 hm10.2.1.1 (fun z => absurd z nb) (fun _ z => absurd z bb) 0 (fun _ _ => rfl) (fun z => absurd z nb) (fun _ z => absurd z bb) (fun _ _ => hZ _ _ (by rw [stM_k (by omega), stM_self]) ⟨(A.1, A.2.1.set i b, A.2.2), ⟨hk.1, by simpa using hB, fun z hz => ?_⟩, hc10.mo (mfM (mfThr 0) (by omega) (by omega)), ?_⟩))
  · rcases List.mem_or_eq_of_mem_set hz with z2 | z2
    · exact hk.2.2 z z2
    · rw [z2]; exact goodB bb
  · rw [e, nI_clamp (by omega)]
    refine MA_buf (K := fun k p => k = 29) (S := stM S10 9 0 0) (A := A) (hm10.thr 0) ⟨rfl, rfl, fun k p z => stM_k z⟩ (fun k p z => Or.inl z) ⟨?_, fun k hkk => ?_⟩
    · rw [stM_k (by omega), stM_p (by omega), List.length_set]; exact hm10.2.1.1
    · rw [List.length_set] at hkk
      rw [stM_get, List.getD_eq_getElem?_getD, List.getElem?_set]
      by_cases hki : k = i
      · subst hki; simp [hkk]
      · rw [if_neg (by omega), stM_k (by omega), if_neg (by omega), ← List.getD_eq_getElem?_getD]
        exact hm10.2.1.2 k hkk
theorem op_cut {S : St} {n : Int32} {V : Int32 → St → Prop} {Z : Int32 → St → Prop} (h : Sim S) (hV : ∀ c S1, Z c (fs_X11_cut S1 n) → V c S1) (hZ : ∀ c S2, S2.2.1 9 0 = c → Sim S2 → Z c S2) : wp_L_cut S n V := by
  obtain ⟨A, hk, hc, hm⟩ := h
  have hB := hk.2.1
  obtain ⟨c1, c2, c3, c4, c5⟩ := id hc
  have hl : rLen S 62 = nI A.2.1.length := by unfold rLen; rw [c4]
  have hl2 := hm.2.1.1
  have er : (n < 0 ∨ ¬ n ≤ nI A.2.1.length) → V 1 S := fun q => hV _ _ (by
    have : fs_X11_cut S n = stM S 9 0 1 := by
      have e1 : fs_X11_cut_13 S n = stM S 9 0 1 := by
        unfold fs_X11_cut_13 fs_X11_cut_18 fs_X11_cut_33
        rw [stM_self, if_neg (by decide)]
      unfold fs_X11_cut
      rw [hl2]
      by_cases q1 : n < 0
      · rw [if_pos q1, e1]
      · rw [if_neg q1, if_neg (q.resolve_left q1), e1]
    rw [this]
    exact hZ _ _ stM_self (mo_thr hk hc hm))
  unfold wp_L_cut wp_X10_cut wp_X10_cut_15
  rw [hl]
  refine ⟨fun q => ⟨rfl, er (Or.inl q)⟩, fun q => ⟨fun q2 S6 e6 => hV _ _ ?_, fun q2 => ⟨rfl, er (Or.inr q2)⟩⟩⟩
  obtain ⟨m, hm2, e⟩ := nI_of3 (by omega) q q2
  have e6' : S6 = stX S 62 (A.2.1.take m) := by
    rw [e6]; unfold rKeep
    rw [if_neg q, e, nI_clamp (by omega), c4]
  have hc6 : CA S6 (A.1, A.2.1.take m, A.2.2) := CA_buf hk hc (by simp; omega) e6'
  have hm6 : MA S6 A := hm.cl (by rw [e6']; exact cFr.refl S)
  have : fs_X11_cut S6 n = stM (stM S6 9 0 0) 9 3 n := by
    unfold fs_X11_cut fs_X11_cut_18 fs_X11_cut_33
    rw [if_neg q, hm6.2.1.1, if_pos q2, stM_self, if_pos rfl]
  rw [this]
  refine hZ _ _ (by rw [stM_p (by omega), stM_self]) ⟨(A.1, A.2.1.take m, A.2.2), ⟨hk.1, by simp; omega, fun z hz => hk.2.2 z (List.mem_of_mem_take hz)⟩, hc6.mo (mfM (mfThr 0) (by omega) (by omega)), ?_⟩
  refine MA_buf (K := fun k p => k = 9 ∧ p = 3) (S := stM S6 9 0 0) (A := A) (hm6.thr 0) ⟨rfl, rfl, fun k p z => by rw [stM_get, if_neg z]⟩ (fun k p z => by omega) ⟨?_, fun k hkk => ?_⟩
  · rw [stM_self, e, List.length_take]; congr 1; omega
  · rw [List.length_take] at hkk
    rw [stM_k (by omega), stM_k (by omega), hm6.2.1.2 k (by omega)]
    simp only [List.getD_eq_getElem?_getD]
    rw [List.getElem?_take, if_pos (by omega)]
theorem m1_lt {k : Int32} : k < -1 ↔ (k < 0 ∧ ¬ k = -1) := by
  rw [Int32.lt_iff_toInt_lt, Int32.lt_iff_toInt_lt, ← Int32.toInt_inj]
  have e1 : (-1 : Int32).toInt = -1 := by decide
  have e2 : (0 : Int32).toInt = 0 := by decide
  rw [e1, e2]
  omega
theorem op_at {S : St} {k : Int32} {V : Int32 → St → Prop} {Z : Int32 → Int32 → St → Prop} (h : Sim S) (hV : ∀ c S1, wp_X11_at S1 k (fun b S2 => Z c b S2) → V c S1) (hZ : ∀ c b S2, S2.2.1 9 0 = c → (c = 0 → S2.2.2.2 = b.toInt64) → Sim S2 → Z c b S2) : wp_L_at S k V := by
  obtain ⟨A, hk, hc, hm⟩ := h
  have hB := hk.2.1
  obtain ⟨c1, c2, c3, c4, c5⟩ := id hc
  have hl : rLen S 62 = nI A.2.1.length := by unfold rLen; rw [c4]
  have hl2 := hm.2.1.1
  have er : k < -1 ∨ ¬ k < nI A.2.1.length → V 1 S := fun q => hV _ _ (by
    unfold wp_X11_at wp_X11_at_14 wp_X11_at_19 wp_X11_at_50
    rw [hl2]
    have hz : ∀ S6, S6 = stM S 9 0 1 → ((((S6.2.1 9 0) ≤ 0 → ((0 ≤ k → (vp_in k (gw_ml 19) ∧ Z 1 (S6.2.1 29 k.toNatClampNeg) S6)) ∧ (¬ 0 ≤ k → Z 1 (S6.2.1 9 3) S6))) ∧ (¬ (S6.2.1 9 0) ≤ 0 → Z 1 0 S6))) := fun S6 e6 => by
      rw [e6, stM_self]
      exact ⟨fun z => absurd z (by decide), fun _ => hZ _ _ _ stM_self (fun z => absurd z (by decide)) (mo_thr hk hc hm)⟩
    exact ⟨fun _ => hz, fun q1 => ⟨fun q2 => absurd q (fun z => z.elim q1 (fun z => z q2)), fun _ => hz⟩⟩)
  have ok : ∀ v : Int32, ¬ k < -1 → k < nI A.2.1.length → (0 ≤ k → v = (A.2.1).getD k.toNatClampNeg 0) → (¬ 0 ≤ k → v = nI A.2.1.length) → V 0 (stO S v.toInt64) := fun v q1 q2 h1 h2 => hV _ _ (by
    unfold wp_X11_at wp_X11_at_19 wp_X11_at_50
    have e3 : (stO S v.toInt64).2.1 9 3 = nI A.2.1.length := hl2
    rw [e3]
    refine ⟨fun z => absurd z q1, fun _ => ⟨fun _ S6 e6 => ?_, fun z => absurd q2 z⟩⟩
    rw [e6, stM_self]
    have hs : Sim (stM (stO S v.toInt64) 9 0 0) := mo_thr (S := stO S v.toInt64) hk hc hm
    refine ⟨fun _ => ⟨fun q3 => ?_, fun q3 => ?_⟩, fun z => absurd (by decide) z⟩
    · obtain ⟨i, hi, e⟩ := nI_of (x := k) (fun z => by rw [Int32.lt_iff_toInt_lt] at z; rw [Int32.le_iff_toInt_le] at q3; omega)
      have hi2 : i < A.2.1.length := (nI_ltI hi (by omega)).mp (by rw [← e]; exact q2)
      refine ⟨pk_in i _ (show i < 1500 by omega) e (by decide), ?_⟩
      refine hZ _ _ _ stM_self (fun _ => ?_) hs
      show v.toInt64 = _
      rw [h1 q3, e, nI_clamp hi, stM_k (by omega)]
      show _ = (S.2.1 29 i).toInt64
      rw [hm.2.1.2 i hi2]
    · refine hZ _ _ _ stM_self (fun _ => ?_) hs
      show v.toInt64 = _
      rw [stM_p (by omega), e3, h2 q3])
  unfold wp_L_at wp_X10_at wp_X10_refuseMissingByte wp_X10_refuseMissingByte_15
  rw [hl]
  refine ⟨fun q => ⟨fun q1 => ⟨rfl, er (Or.inl (m1_lt.mpr ⟨q1, q⟩))⟩, fun q1 => ⟨fun q2 => ?_, fun q2 => ⟨rfl, er (Or.inr q2)⟩⟩⟩, fun q => ?_⟩
  · refine ok _ (fun z => q1 (m1_lt.mp z).1) q2 (fun _ => ?_) (fun z => absurd (Int32.not_lt.mp q1) z)
    unfold rGet
    rw [if_neg q1, c4]
  · refine ok _ (by rw [q]; decide) ?_ (fun z => absurd z (by rw [q]; decide)) (fun _ => rfl)
    rw [q, Int32.lt_iff_toInt_lt, nI_toInt (by omega)]
    have e1 : (-1 : Int32).toInt = -1 := by decide
    omega
