def noG (F : Fo) (q : Int32) : Prop := q < 0 ∨ ¬ q < nI F.1.length
theorem hasG {F : Fo} {q : Int32} (hl : F.1.length ≤ 6) (h : ¬ noG F q) : ∃ i G, i < 6 ∧ F.1[i]? = some G ∧ q = nI i := by
  unfold noG at h
  obtain ⟨i, hi, e⟩ := nI_of (x := q) (fun z => h (Or.inl z))
  have h2 : q < nI F.1.length := Classical.byContradiction fun z => h (Or.inr z)
  rw [e] at h2
  have h3 : i < F.1.length := (nI_ltI hi (by omega)).mp h2
  exact ⟨i, F.1[i], by omega, List.getElem?_eq_getElem h3, e⟩
theorem op_count {S : St} {q : Int32} {V : Int32 → St → Prop} {Z : Int32 → Int32 → St → Prop} (h : Sim S) (hV : ∀ c S1, wp_X11_count S1 q (fun b S2 => Z c b S2) → V c S1) (hZ : ∀ c b S2, S2.2.1 9 0 = c → (c = 0 → S2.2.2.2 = b.toInt64) → Sim S2 → Z c b S2) : wp_L_count S q V := by
  obtain ⟨A, hk, hc, hm⟩ := h
  have h6 := hk.1.1
  obtain ⟨c1, c2, c3, c4, c5⟩ := id hc
  have hj := gw_fx_le S
  unfold wp_L_count wp_X10_count wp_X10_refuseMissingGlyph wp_X10_refuseMissingGlyph_15
  have e1 : fv_X3_glyphCount S (gw_fx S) = nI A.1.1.length := c3.1
  rw [e1]
  have er : ¬ q = -1 → noG A.1 q → V 1 S := fun q0 qn => hV _ _ (by
    intro S8 e8
    have e91 : S8.2.1 9 1 = nI A.1.1.length := by rw [e8, stM_p (by omega)]; exact hm.1.1
    refine ⟨fun _ => ?_, fun z => absurd z q0⟩
    rw [e91]
    refine sm_out (fun _ => ⟨fun z => absurd z (by decide), fun _ r14 S13 e14 e13 => ?_⟩) (fun z1 z2 => absurd qn (fun w => w.elim z1 (fun w => w z2)))
    rw [e14, e13, e8]
    have : fs_X11_fail (stM S 9 0 0) 1 = stM (stM S 9 0 0) 9 0 1 := rfl
    show Z 1 0 (fs_X11_fail (stM S 9 0 0) 1)
    rw [this]
    exact hZ _ _ _ stM_self (fun z => absurd z (by decide)) (mo_thr hk (hc.mo (mfThr _)) (hm.thr _)))
  refine ⟨fun q0 => ⟨fun q1 => ⟨rfl, er q0 (Or.inl q1)⟩, fun q1 => ⟨fun q2 => hV _ _ ?_, fun q2 => ⟨rfl, er q0 (Or.inr q2)⟩⟩⟩, fun q0 => hV _ _ ?_⟩
  · have hn : ¬ noG A.1 q := fun z => z.elim q1 (fun z => z q2)
    obtain ⟨i, G, hi, eG, e⟩ := hasG h6 hn
    intro S8 e8
    have e91 : S8.2.1 9 1 = nI A.1.1.length := by rw [e8, stM_p (by omega)]; exact hm.1.1
    refine ⟨fun _ => ?_, fun z => absurd z q0⟩
    rw [e91]
    refine sm_out (fun z => absurd z hn) (fun z1 z2 => ⟨fun _ => ⟨pk_in i _ (show i < 6 from hi) e (by decide), ?_⟩, fun z => absurd rfl z⟩)
    have v1 : S8.2.1 12 q.toNatClampNeg = nI G.2.1.sum := by rw [e, nI_clamp (by omega), e8, stM_k (by omega)]; exact (hm.1.2.1 i G eG).2.2.1
    have v2 : fv_X4_pointCount S (glId S (gw_fx S) q) = nI G.2.1.sum := by
      rw [e, glId_nI hi]
      show nI (S.1 _).length = _
      rw [(c3.2.1 i G eG).2.2.1, (hk.1.2.1 i G eG).1.2.2.1]
    rw [v2] at e8
    refine hZ _ _ _ (by rw [e8, stM_self]) (fun _ => ?_) (by rw [e8]; exact mo_thr (S := stO S (nI G.2.1.sum).toInt64) hk hc hm)
    rw [v1, e8]
    rfl
  · intro S8 e8
    refine ⟨fun z => absurd q0 z, fun _ => ?_⟩
    have e91 : S8.2.1 9 1 = nI A.1.1.length := by rw [e8, stM_p (by omega)]; exact hm.1.1
    refine hZ _ _ _ (by rw [e8, stM_self]) (fun _ => by rw [e91, e8]; rfl) (by rw [e8]; exact mo_thr (S := stO S (nI A.1.1.length).toInt64) hk hc hm)
theorem expC_mid : ∀ (t : List Nat) (s c p : Nat), (expC c (s :: t)).getD p 0 = if p < s then c else (expC (c + 1) t).getD (p - s) 0 := by
  intro t s c p
  simp only [expC, List.getD_eq_getElem?_getD, List.getElem?_append, List.length_replicate]
  split
  · rename_i h; rw [List.getElem?_replicate, if_pos h]; rfl
  · rfl
theorem sp_contourOf {S : St} {q p : Nat} {G : Gl} {P : Int32 → St → Prop} (hk : okG G) (hc : cG S q G) (hp : p < G.2.1.sum) (h : P (nI ((expC 0 G.2.1).getD p 0)) S) : wp_X4_contourOf S q (nI p) P := by
  intro X4 x4
  have k1 := hk.1.1
  have k2 := hk.1.2.1
  have hl : rLen S (4 * q) = nI G.2.1.length := by unfold rLen; rw [hc.2.1, List.length_map]
  have key : ∀ (t pre : List Nat), G.2.1 = pre ++ t → pre.sum ≤ p → (expC pre.length t).getD (p - pre.sum) 0 = (expC 0 G.2.1).getD p 0 → X4 S (nI pre.sum) (nI pre.length) := by
    intro t
    induction t with
    | nil =>
      intro pre e hs _
      simp at e
      rw [e] at hp
      omega
    | cons s t ih =>
      intro pre e hs hv
      have el : G.2.1.length = pre.length + t.length + 1 := by rw [e]; simp; omega
      have es : G.2.1.sum = pre.sum + s + t.sum := by rw [e]; simp; omega
      have eg : rGet S (4 * q) (nI pre.length) = nI s := by
        rw [rGet_nI (by omega), hc.2.1, e]
        simp
      refine x4 _ _ _ ⟨fun z => absurd z (by rw [hl]; exact nI_ge (by omega) (by omega)), fun _ x6 e6 => ?_⟩
      rw [eg, nI_add] at e6
      refine pk_le (pre.sum + s) p (fun h1 x8 e8 => ?_) (fun h1 => ?_) e6
      · rw [e6, e8, nI_1]
        have := ih (pre ++ [s]) (by rw [e]; simp) (by simp; omega) (by
          rw [← hv, expC_mid, if_neg (by omega)]
          simp
          rw [show p - (pre.sum + s) = p - pre.sum - s by omega])
        simpa using this
      · rw [expC_mid, if_pos (by omega)] at hv
        rw [hv]
        exact h
  have := key G.2.1 [] rfl (by simp) rfl
  simpa [nI_0] using this
theorem op_outline {S : St} {q p w : Int32} {V : Int32 → St → Prop} {Z : Int32 → Int32 → St → Prop} (h : Sim S) (hV : ∀ c S1, wp_X11_outline S1 q p w (fun b S2 => Z c b S2) → V c S1) (hZ : ∀ c b S2, S2.2.1 9 0 = c → (c = 0 → S2.2.2.2 = b.toInt64) → Sim S2 → Z c b S2) : wp_L_outline S q p w V := by
  obtain ⟨A, hk, hc, hm⟩ := h
  have h6 := hk.1.1
  obtain ⟨c1, c2, c3, c4, c5⟩ := id hc
  have hj := gw_fx_le S
  have hm91 := hm.1.1
  unfold wp_L_outline wp_X10_outline wp_X10_outline_14 wp_X10_outline_47 wp_X10_outline_112 wp_X10_refuseMissingGlyph wp_X10_refuseMissingGlyph_15
  have e1 : fv_X3_glyphCount S (gw_fx S) = nI A.1.1.length := c3.1
  rw [e1]
  have zf : ∀ c : Int32, c ≠ 0 → Z c 0 (stM (stM S 9 0 0) 9 0 c) := fun c hc0 => hZ _ _ _ stM_self (fun z => absurd z hc0) (mo_thr hk (hc.mo (mfThr _)) (hm.thr _))
  have er1 : noG A.1 q → V 1 S := fun qn => hV _ _ (by
    intro S8 e8
    have e91 : S8.2.1 9 1 = nI A.1.1.length := by rw [e8, stM_p (by omega)]; exact hm91
    rw [e91]
    refine sm_out (fun _ => ⟨fun _ r S' er eS => ?_, fun z => absurd z (by decide)⟩) (fun z1 z2 => absurd qn (fun w => w.elim z1 (fun w => w z2)))
    rw [er, eS, e8]
    exact zf 1 (by decide))
  refine ⟨fun q1 => Or.inl ⟨rfl, er1 (Or.inl q1)⟩, fun q1 => ⟨fun q2 => ?_, fun q2 => Or.inl ⟨rfl, er1 (Or.inr q2)⟩⟩⟩
  have hn : ¬ noG A.1 q := fun z => z.elim q1 (fun z => z q2)
  obtain ⟨i, G, hi, eG, e⟩ := hasG h6 hn
  have hG := c3.2.1 i G eG
  have kG := hk.1.2.1 i G eG
  have mg := hm.1.2.1 i G eG
  have k2 := kG.1.2.1
  have er2 : (w < 0 ∨ ¬ w ≤ 3) → V 1 S := fun qw => hV _ _ (by
    intro S8 e8
    have e91 : S8.2.1 9 1 = nI A.1.1.length := by rw [e8, stM_p (by omega)]; exact hm91
    rw [e91]
    refine sm_out (fun z => absurd z hn) (fun _ _ => ⟨fun z => absurd rfl z, fun _ => ?_⟩)
    refine sm_out (fun _ => ⟨fun z => absurd z (by decide), fun _ r S' er eS => ?_⟩) (fun z1 z2 => absurd qw (fun y => y.elim z1 (fun y => y ((lt_succ32 (n := 3) (by omega)).mp z2))))
    rw [er, eS, e8]
    exact zf 1 (by decide))
  refine ⟨fun q3 => Or.inl ⟨rfl, er2 (Or.inl q3)⟩, fun q3 => ⟨fun q4 => ?_, fun q4 => Or.inl ⟨rfl, er2 (Or.inr q4)⟩⟩⟩
  rw [e, glId_nI hi]
  have epc : fv_X4_pointCount S (6 * gw_fx S + i) = nI G.2.1.sum := by show nI (S.1 _).length = _; rw [hG.2.2.1, kG.1.2.2.1]
  rw [epc]
  -- the reference up to its test of the point
  have mo : ∀ (S1 : St) (c : Int32), S1.2.1 = S.2.1 → ((p < 0 ∨ ¬ p < nI G.2.1.sum) → Z c 0 (stM (stM S1 9 0 0) 9 0 2)) → (∀ n, n < G.2.1.sum → p = nI n → (w = 0 → Z c (G.2.2.1.getD n 0) (stM S1 9 0 0)) ∧ (w = 1 → Z c (G.2.2.2.1.getD n 0) (stM S1 9 0 0)) ∧ (w = 2 → Z c (G.2.2.2.2.getD n 0) (stM S1 9 0 0)) ∧ (¬ w = 0 → ¬ w = 1 → ¬ w = 2 → Z c (nI ((expC 0 G.2.1).getD n 0)) (stM S1 9 0 0))) → wp_X11_outline S1 q p w (fun b S2 => Z c b S2) := by
    intro S1 c es hbad hgood S8 e8
    have e91 : S8.2.1 9 1 = nI A.1.1.length := by rw [e8, stM_p (by omega), es]; exact hm91
    rw [e91]
    refine sm_out (fun z => absurd z hn) (fun _ _ => ⟨fun z => absurd rfl z, fun _ => ?_⟩)
    refine sm_out (fun z => absurd z (fun z => z.elim q3 (fun z => z ((lt_succ32 (n := 3) (by omega)).mpr q4)))) (fun _ _ => ⟨fun _ => ⟨pk_in i _ (show i < 6 from hi) e (by decide), ?_⟩, fun z => absurd rfl z⟩)
    have v12 : S8.2.1 12 q.toNatClampNeg = nI G.2.1.sum := by rw [e, nI_clamp (by omega), e8, stM_k (by omega), es]; exact mg.2.2.1
    rw [v12]
    refine sm_out (fun z => ⟨fun z => absurd z (by decide), fun _ r S' er eS => ?_⟩) (fun z1 z2 => ⟨fun _ x32 e32 => ?_, fun z => absurd rfl z⟩)
    · rw [er, eS, e8]
      exact hbad z
    · obtain ⟨n, hn', en⟩ := nI_of z1
      have hns : n < G.2.1.sum := (nI_ltI hn' (by omega)).mp (by rw [← en]; exact z2)
      have e32' : x32 = nI (16 * i + n) := by rw [e32, e, en]; simp only [lit32, pk_mul, nI_add]
      have hin : ∀ N, 96 ≤ N → N < 2 ^ 31 → vp_in x32 N := fun N h1 h2 => pk_in _ _ (by omega) e32' h2
      have hcl : x32.toNatClampNeg = 16 * i + n := pk_cl _ e32'
      obtain ⟨g1, g2, g3, g4⟩ := mg.2.2.2 n hns
      rw [hcl]
      have k8 : ∀ k x, k ≠ 9 → S8.2.1 k x = S.2.1 k x := fun k x hk => by rw [e8, stM_k hk, es]
      obtain ⟨w0, w1, w2, w3⟩ := hgood n hns en
      rw [k8 13 _ (by omega), k8 14 _ (by omega), k8 15 _ (by omega), k8 16 _ (by omega), g1, g2, g3, g4]
      rw [← e8] at w0 w1 w2 w3
      refine ⟨fun a0 => ⟨fun a1 => ⟨fun a2 => ⟨hin _ (by decide) (by decide), w3 a0 a1 a2⟩, fun a2 => ⟨hin _ (by decide) (by decide), fun y => ?_, fun y => ?_⟩⟩, fun a1 => ⟨hin _ (by decide) (by decide), w1 a1⟩⟩, fun a0 => ⟨hin _ (by decide) (by decide), w0 a0⟩⟩
      · have := w2 a2; rw [y] at this; exact this
      · have hon : G.2.2.2.2.getD n 0 = 1 := by
          have hlt : n < G.2.2.2.2.length := by rw [kG.1.2.2.2.2]; exact hns
          have := kG.2.2.2.1 _ (List.getElem_mem hlt)
          rw [List.getD_eq_getElem?_getD, List.getElem?_eq_getElem hlt] at y ⊢
          exact this.resolve_left y
        have := w2 a2; rw [hon] at this; exact this
  have er3 : (p < 0 ∨ ¬ p < nI G.2.1.sum) → V 2 S := fun qp => hV _ _ (mo S 2 rfl (fun _ => zf 2 (by decide)) (fun n hn' en => by
    exfalso
    rw [en] at qp
    rcases qp with z | z
    · exact nI_pos (by omega) z
    · exact z (nI_lt hn' (by omega))))
  refine ⟨fun q5 => Or.inr ⟨rfl, er3 (Or.inl q5)⟩, fun q5 => ⟨fun q6 => ?_, fun q6 => Or.inr ⟨rfl, er3 (Or.inr q6)⟩⟩⟩
  obtain ⟨n, hn', en⟩ := nI_of q5
  have hns : n < G.2.1.sum := (nI_ltI hn' (by omega)).mp (by rw [← en]; exact q6)
  have inj : ∀ {m : Nat}, m < G.2.1.sum → p = nI m → m = n := fun h1 h2 => (nI_eq (by omega) (by omega)).mp (h2.symm.trans en)
  have fin : ∀ v : Int32, (∀ m, m < G.2.1.sum → p = nI m → (w = 0 → G.2.2.1.getD m 0 = v) ∧ (w = 1 → G.2.2.2.1.getD m 0 = v) ∧ (w = 2 → G.2.2.2.2.getD m 0 = v) ∧ (¬ w = 0 → ¬ w = 1 → ¬ w = 2 → nI ((expC 0 G.2.1).getD m 0) = v)) → V 0 (stO S v.toInt64) := fun v hv => hV _ _ (by
    have hs : Sim (stM (stO S v.toInt64) 9 0 0) := mo_thr (S := stO S v.toInt64) hk hc hm
    have zz : Z 0 v (stM (stO S v.toInt64) 9 0 0) := hZ _ _ _ stM_self (fun _ => rfl) hs
    refine mo (stO S v.toInt64) 0 rfl (fun z => absurd z (fun z => z.elim q5 (fun z => z q6))) (fun m h1 h2 => ?_)
    obtain ⟨a0, a1, a2, a3⟩ := hv m h1 h2
    exact ⟨fun y => by rw [a0 y]; exact zz, fun y => by rw [a1 y]; exact zz, fun y => by rw [a2 y]; exact zz, fun y0 y1 y2 => by rw [a3 y0 y1 y2]; exact zz⟩)
  have hgx : rGet S (4 * (6 * gw_fx S + i) + 1) p = G.2.2.1.getD n 0 := by rw [en, rGet_nI (by omega), hG.2.2.1]
  have hgy : rGet S (4 * (6 * gw_fx S + i) + 2) p = G.2.2.2.1.getD n 0 := by rw [en, rGet_nI (by omega), hG.2.2.2.1]
  have hgo : rGet S (4 * (6 * gw_fx S + i) + 3) p = G.2.2.2.2.getD n 0 := by rw [en, rGet_nI (by omega), hG.2.2.2.2]
  refine ⟨fun w0 => ?_, fun w1 => ?_, fun w2 => ?_, fun w0 w1 w2 => ?_⟩
  · refine fin _ (fun m h1 h2 => ?_)
    have := inj h1 h2; subst this
    refine ⟨fun _ => hgx.symm, fun y => ?_, fun y => ?_, fun y => absurd w0 y⟩
    · rw [w0] at y; exact absurd y (by decide)
    · rw [w0] at y; exact absurd y (by decide)
  · refine fin _ (fun m h1 h2 => ?_)
    have := inj h1 h2; subst this
    refine ⟨fun y => ?_, fun _ => hgy.symm, fun y => ?_, fun _ y => absurd w1 y⟩
    · rw [w1] at y; exact absurd y (by decide)
    · rw [w1] at y; exact absurd y (by decide)
  · have hon : G.2.2.2.2.getD n 0 = 0 ∨ G.2.2.2.2.getD n 0 = 1 := by
      have hlt : n < G.2.2.2.2.length := by rw [kG.1.2.2.2.2]; exact hns
      have := kG.2.2.2.1 _ (List.getElem_mem hlt)
      rw [List.getD_eq_getElem?_getD, List.getElem?_eq_getElem hlt]
      exact this
    have f0 : G.2.2.2.2.getD n 0 = 0 → V 0 (stO S (0 : Int32).toInt64) := fun y0 => fin 0 (fun m h1 h2 => by
      have := inj h1 h2; subst this
      refine ⟨fun y => ?_, fun y => ?_, fun _ => y0, fun _ _ y => absurd w2 y⟩
      · rw [w2] at y; exact absurd y (by decide)
      · rw [w2] at y; exact absurd y (by decide))
    have f1 : G.2.2.2.2.getD n 0 = 1 → V 0 (stO S (1 : Int32).toInt64) := fun y0 => fin 1 (fun m h1 h2 => by
      have := inj h1 h2; subst this
      refine ⟨fun y => ?_, fun y => ?_, fun _ => y0, fun _ _ y => absurd w2 y⟩
      · rw [w2] at y; exact absurd y (by decide)
      · rw [w2] at y; exact absurd y (by decide))
    unfold wp_X4_isOn wp_X4_isOn_17
    rw [hgo]
    refine ⟨fun y => ⟨Or.inl rfl, fun _ => f0 (hon.resolve_right y), fun z => absurd rfl z⟩, fun y => ⟨Or.inr rfl, fun z => absurd z (by decide), fun _ => f1 y⟩⟩
  · rw [en]
    refine sp_contourOf kG hG hns ?_
    refine fin _ (fun m h1 h2 => ?_)
    have := inj h1 h2; subst this
    exact ⟨fun y => absurd y w0, fun y => absurd y w1, fun y => absurd y w2, fun _ _ _ => rfl⟩
/-! stage, clear, table -/
theorem op_stage {S : St} {Z : St → Prop} (h : Sim S) (hZ : ∀ S2, Sim S2 → Z S2) : ∀ (r : Int32) (S1 : St), r = fv_X11_stage S → S1 = fs_X11_stage S → (((fv_X10_stage S) = r → Z S1) ∧ (¬ (fv_X10_stage S) = r → False)) := by
  intro r S1 er eS
  obtain ⟨A, hk, hc, hm⟩ := h
  have e1 : S1 = stM S 9 0 0 := eS
  have e2 : r = A.2.2 := by
    rw [er]; show (stM S 9 0 0).2.1 9 14 = _; rw [stM_p (by omega)]; exact hm.2.2
  have e3 : fv_X10_stage S = A.2.2 := hc.2.2.2.2
  exact ⟨fun _ => hZ _ (by rw [e1]; exact mo_thr hk hc hm), fun z => z (e3.trans e2.symm)⟩
theorem cFr_only {S S2 : St} (h : ∀ k p, 9 ≤ k → k < 1000 → S2.2.1 k p = S.2.1 k p) : cFr S S2 := h
theorem up_loop2 {X : St → Int32 → Prop} (I : Nat → St → Prop) {N : Nat} (hend : ∀ S, I N S → X S (nI N)) (hstep : ∀ i S, i < N → I i S → (∀ S', I (i + 1) S' → X S' (nI (i + 1))) → X S (nI i)) : ∀ i S, i ≤ N → I i S → X S (nI i) := by
  have key : ∀ d i S, N = i + d → I i S → X S (nI i) := by
    intro d
    induction d with
    | zero => intro i S h hI; have : i = N := by omega
              rw [this] at hI ⊢; exact hend S hI
    | succ d ih => intro i S h hI; exact hstep i S (by omega) hI (fun S' h' => ih (i + 1) S' (by omega) h')
  intro i S hi hI
  exact key (N - i) i S (by omega) hI
/-- a font's tables are emptied -/
def emp (S : St) (j : Nat) (S2 : St) (i : Nat) : Prop := S2.2 = (stM S 1 j 0).2 ∧ ∀ r, S2.1 r = if 48 + 7 * j ≤ r ∧ r < 48 + 7 * j + i then [] else S.1 r
theorem sp_makeEmpty {S : St} {j : Nat} {P : St → Prop} (h : ∀ S2, emp S j S2 7 → P S2) : wp_X3_makeEmpty S j P := by
  intro X7 x7 S10 e10
  have := up_loop2 (X := X7) (fun i S2 => emp S j S2 i) (N := 7) (fun S2 h2 => x7 _ _ ⟨fun _ => h S2 h2, fun z => absurd (by decide) z⟩) (fun i S2 hi h2 hk => x7 _ _ ⟨fun z => absurd z (nI_ge (b := 7) hi (by omega)), fun _ => ⟨pk_in i 7 hi, fun S8 e8 x9 e9 => ?_⟩⟩) 0 S10 (by omega) ⟨by rw [e10], fun r => by rw [e10, if_neg (by omega)]; rfl⟩
  · rw [nI_0] at this; exact this
  · rw [e9, nI_1]
    refine hk S8 ⟨by rw [e8]; exact h2.1, fun r => ?_⟩
    rw [e8, nI_clamp (by omega)]
    unfold rMake
    rw [stX_get, h2.2]
    by_cases hr : r = 48 + 7 * j + i
    · rw [if_pos hr, if_pos (by omega)]
    · rw [if_neg hr]
      by_cases hr2 : 48 + 7 * j ≤ r ∧ r < 48 + 7 * j + i
      · rw [if_pos hr2, if_pos (by omega)]
      · rw [if_neg hr2, if_neg (by omega)]
def F0e : Fo := ([], fun _ => [])
theorem okF0 : okF F0e := ⟨by simp [F0e], fun g G e => by simp [F0e] at e, fun g G e => by simp [F0e] at e, fun _ _ => rfl, fun t _ => by simp [F0e]⟩
theorem emp_cF {S S2 : St} {j : Nat} (h : emp S j S2 7) : cF S2 j F0e := by
  refine ⟨by rw [h.1]; show (stM S 1 j 0).2.1 1 j = _; rw [stM_self]; rfl, fun g G e => by simp [F0e] at e, fun t t1 t2 => ?_⟩
  rw [h.2, if_pos (by omega)]
  rfl
theorem emp_le {S S2 : St} {j i : Nat} (h : emp S j S2 i) (hle : rowsLe S) : rowsLe S2 := fun r hr => by
  rw [h.2]; split
  · simp
  · exact hle r hr
theorem op_clear {S : St} {Z : St → Prop} (h : Sim S) (hZ : ∀ S2, Sim S2 → Z S2) : wp_X10_clear S (fun S1 => wp_X11_clear S1 (fun S2 => Z S2)) := by
  obtain ⟨A, hk, hc, hm⟩ := h
  obtain ⟨c1, c2, c3, c4, c5⟩ := id hc
  have hj := gw_fx_le S
  refine sp_makeEmpty (fun S1 h1 => ?_)
  have e21 : ∀ k p, S1.2.1 k p = (stM S 1 (gw_fx S) 0).2.1 k p := fun k p => by rw [h1.1]
  have fx : gw_fx S1 = gw_fx S := fx_of (by rw [e21, stM_k (by omega)])
  have sx : gw_sx S1 = gw_sx S := sx_of (by rw [e21, stM_k (by omega)])
  have hc1 : CA S1 (F0e, A.2) := ⟨emp_le h1 c1, by rw [fx, sx]; exact c2, by rw [fx]; exact emp_cF h1, by rw [h1.2, if_neg (by omega)]; exact c4, by rw [e21, stM_k (by omega)]; exact c5⟩
  have hm1 : MA S1 A := hm.cl (fun k p a b => by rw [e21, stM_k (by omega)])
  intro X12 x12 S9 e9 S10 e10
  have := up_loop2 (X := X12) (fun i S2 => mFr S1 S2 ∧ (∀ k p, k ≠ 17 → S2.2.1 k p = S10.2.1 k p) ∧ ∀ t, t < i → S2.2.1 17 t = 0) (N := 7) (fun S2 h2 => x12 _ _ ⟨fun _ => ?_, fun z => absurd (by decide) z⟩) (fun i S2 hi h2 hkk => x12 _ _ ⟨fun z => absurd z (nI_ge (b := 7) hi (by omega)), fun _ => ⟨pk_in i 7 hi, fun S8 e8 x9 e9 => ?_⟩⟩) 0 S10 (by omega) ⟨by rw [e10, e9]; exact mfM (mfThr 0) (by omega) (by omega), fun _ _ _ => rfl, fun t ht => by omega⟩
  · rw [nI_0] at this; exact this
  · refine hZ S2 ⟨(F0e, A.2), ⟨okF0, hk.2⟩, hc1.mo h2.1, ⟨?_, fun g G e => by simp [F0e] at e, fun t ht => ⟨by rw [h2.2.2 t ht]; rfl, fun k hk' => by simp [F0e] at hk'⟩⟩, ⟨?_, fun k hk' => ?_⟩, ?_⟩
    · rw [h2.2.1 9 1 (by omega), e10, stM_self]; rfl
    · rw [h2.2.1 9 3 (by omega), e10, stM_p (by omega), e9, stM_p (by omega)]; exact hm1.2.1.1
    · rw [h2.2.1 29 k (by omega), e10, stM_k (by omega), e9, stM_k (by omega)]; exact hm1.2.1.2 k hk'
    · rw [h2.2.1 9 14 (by omega), e10, stM_p (by omega), e9, stM_p (by omega)]; exact hm1.2.2
  · rw [e9, nI_1]
    refine hkk S8 ⟨by rw [e8]; exact mfM h2.1 (by omega) (by omega), fun k p hk' => by rw [e8, stM_k hk']; exact h2.2.1 k p hk', fun t ht => ?_⟩
    rw [e8, nI_clamp (by omega), stM_get]
    by_cases hti : t = i
    · rw [if_pos ⟨rfl, hti⟩]
    · rw [if_neg (by omega)]; exact h2.2.2 t (by omega)
def badT (t : Int32) : Prop := t < 2 ∨ 6 < t
theorem goodT {t : Int32} (h : ¬ badT t) : ∃ T, 2 ≤ T ∧ T < 7 ∧ t = nI T := by
  unfold badT at h
  have h1 : ¬ t < 2 := fun z => h (Or.inl z)
  have h2 : t ≤ nI 6 := Int32.not_lt.mp fun z => h (Or.inr z)
  obtain ⟨T, hT, e⟩ := nI_of3 (a := t) (n := 6) (by omega) (fun z => h1 (Int32.lt_trans z (by decide))) h2
  refine ⟨T, ?_, by omega, e⟩
  by_cases z : 2 ≤ T
  · exact z
  · rw [e] at h1; exact absurd (nI_lt (b := 2) (by omega) (by omega)) h1
theorem seven {t : Int32} : t < 7 ↔ ¬ 6 < t := by
  rw [Int32.not_lt]
  exact lt_succ32 (n := 6) (by omega)
theorem okF_tab {F : Fo} {a : Int64} {T N : Nat} (hk : okF F) (h2 : 2 ≤ T) (h7 : T < 7) (hl : (F.2 T).length + N ≤ 20) : okF (F.1, va_up F.2 T (F.2 T ++ numB a N)) := by
  obtain ⟨k1, k2, k3, k4, k5⟩ := hk
  refine ⟨k1, k2, k3, fun t ht => ?_, fun t ht => ?_⟩
  · show (if t = T then _ else _) = _
    rw [if_neg (by omega)]; exact k4 t ht
  · show (if t = T then _ else F.2 t).length ≤ 20 ∧ ∀ b ∈ (if t = T then _ else F.2 t), byt b
    split
    · refine ⟨by simp [numB_len]; exact hl, fun b hb => ?_⟩
      rcases List.mem_append.mp hb with z | z
      · exact (k5 T (by omega)).2 b z
      · exact byt_numB b z
    · exact k5 t ht
theorem sm_table {S : St} {A : Ab} {t : Int32} {a : Int64} {n : Int32} {P : Int32 → St → Prop} (hok : okA A) (hm : MA S A) (h1 : (badT t ∨ badN n) → P 0 (stM S 9 0 1)) (h2 : ∀ T N, 2 ≤ T → T < 7 → t = nI T → 1 ≤ N → N ≤ 8 → n = nI N → 20 < (A.1.2 T).length + N → P 0 (stM S 9 0 2))
    (h0 : ∀ T N, 2 ≤ T → T < 7 → t = nI T → 1 ≤ N → N ≤ 8 → n = nI N → (A.1.2 T).length + N ≤ 20 → ∀ S2, mFr S S2 → S2.2.1 9 0 = 0 → MA S2 ((A.1.1, va_up A.1.2 T (A.1.2 T ++ numB a N)), A.2) → P (nI ((A.1.2 T).length + N)) S2) : wp_X11_table S t a n P := by
  obtain ⟨⟨m1, m2, m3⟩, m4, m5⟩ := id hm
  intro X25 X48 X66 x25 x48 x66
  have er : ∀ s0, ¬ s0 ≤ 0 → P 0 (stM S 9 0 s0) → X48 S s0 := fun s0 q hp => x48 _ _ (by
    intro S13 e13
    rw [e13, stM_self]
    exact ⟨fun z => absurd z q, fun _ => hp⟩)
  have e25 : (badT t ∨ badN n) → X25 S := fun q => x25 S (er 1 (by decide) (h1 q))
  refine ⟨fun q => e25 (Or.inl (Or.inl q)), fun q1 => ⟨fun q => e25 (Or.inl (Or.inr q)), fun q2 => ⟨fun q => e25 (Or.inr (Or.inl q)), fun q3 => ⟨fun q4 => ?_, fun q => e25 (Or.inr (Or.inr q))⟩⟩⟩⟩
  obtain ⟨T, hT2, hT7, eT⟩ := goodT (t := t) (fun z => z.elim q1 q2)
  obtain ⟨N, hN1, hN8, eN⟩ := goodN (n := n) (fun z => z.elim q3 (fun z => z q4))
  have hvT : vp_in t (gw_ml 7) := pk_in T _ (show T < 7 from hT7) eT (by decide)
  have cT : t.toNatClampNeg = T := pk_cl _ eT
  refine ⟨hvT, ?_⟩
  rw [cT]
  have hlT := (hok.1.2.2.2.2 T hT7).1
  refine pk_le ((A.1.2 T).length + N) 20 (fun hl => x48 _ _ ?_) (fun hl => er 2 (by decide) (h2 T N hT2 hT7 eT hN1 hN8 eN hl)) (by rw [(m3 T hT7).1, eN, nI_add])
  intro S13 e13
  refine ⟨fun _ x15 e15 => ?_, fun z => absurd (by rw [e13, stM_self]; exact Int32.le_refl 0) z⟩
  rw [e15, eN]
  have b0 := (m3 T hT7).1
  refine dn_loop (X := X66) (fun m S' => fr (fun k p => (k = 17 ∧ p = T) ∨ (k = 18 ∧ 20 * T ≤ p ∧ p < 20 * T + 20)) S13 S' ∧ S'.2.1 17 T = nI ((A.1.2 T).length + (N - m)) ∧ ∀ k, k < (A.1.2 T).length + (N - m) → S'.2.1 18 (20 * T + k) = (A.1.2 T ++ numB a N).getD k 0) (N := N) (fun S' ⟨f, hl', hv'⟩ => x66 _ _ ⟨fun _ => ?_, fun z => absurd (by decide) z⟩) (fun m S' hmN ⟨f, hl', hv'⟩ hk => x66 _ _ ⟨fun z => absurd z (nI_pos (by omega)), fun _ => ?_⟩) N S13 (Nat.le_refl N) ⟨fr.refl _, by rw [e13, stM_k (by omega), b0, Nat.sub_self, Nat.add_zero], fun k hk => ?_⟩
  · refine ⟨hvT, ?_⟩
    rw [cT, hl', Nat.sub_zero]
    refine h0 T N hT2 hT7 eT hN1 hN8 eN hl S' (mFr.trans (by rw [e13]; exact mfThr 0) (f.m (fun k p z => by omega))) (by rw [f.2.2 9 0 (by omega), e13, stM_self]) ?_
    have k13 : ∀ k p, ¬ (k = 9 ∧ p = 0) → ¬ ((k = 17 ∧ p = T) ∨ (k = 18 ∧ 20 * T ≤ p ∧ p < 20 * T + 20)) → S'.2.1 k p = S.2.1 k p := fun k p n0 n1 => by rw [f.2.2 k p n1, e13, stM_get, if_neg n0]
    refine ⟨⟨by rw [k13 9 1 (by omega) (by omega)]; exact m1, fun g G eg => ?_, fun u hu => ?_⟩, ⟨by rw [k13 9 3 (by omega) (by omega)]; exact m4.1, fun k hk => by rw [k13 29 k (by omega) (by omega)]; exact m4.2 k hk⟩, by rw [k13 9 14 (by omega) (by omega)]; exact m5⟩
    · obtain ⟨g1, g2, g3, g4⟩ := m2 g G eg
      refine ⟨by rw [k13 10 g (by omega) (by omega)]; exact g1, by rw [k13 11 g (by omega) (by omega)]; exact g2, by rw [k13 12 g (by omega) (by omega)]; exact g3, fun p hp => ?_⟩
      rw [k13 13 _ (by omega) (by omega), k13 14 _ (by omega) (by omega), k13 15 _ (by omega) (by omega), k13 16 _ (by omega) (by omega)]
      exact g4 p hp
    · show S'.2.1 17 u = nI (if u = T then _ else A.1.2 u).length ∧ ∀ k, k < (if u = T then _ else A.1.2 u).length → S'.2.1 18 (20 * u + k) = (if u = T then _ else A.1.2 u).getD k 0
      by_cases hu2 : u = T
      · subst hu2
        rw [if_pos rfl]
        refine ⟨by rw [hl', Nat.sub_zero]; simp [numB_len], fun k hk => hv' k ?_⟩
        simp [numB_len] at hk
        omega
      · rw [if_neg hu2]
        have hu20 := (hok.1.2.2.2.2 u hu).1
        refine ⟨by rw [k13 17 u (by omega) (by omega)]; exact (m3 u hu).1, fun k hk => ?_⟩
        rw [k13 18 _ (by omega) (by omega)]
        exact (m3 u hu).2 k hk
  · have e20 : (20 * t) + (S'.2.1 17 T) = nI (20 * T + ((A.1.2 T).length + (N - (m + 1)))) := by rw [hl', eT]; simp only [lit32, pk_mul, nI_add]
    rw [cT]
    refine ⟨hvT, pk_in _ _ (show _ < 140 by omega) e20 (by decide), fun S17 e17 => ⟨hvT, hvT, fun S18 e18 x19 e19 => ?_⟩⟩
    rw [e19]
    rw [pk_cl _ e20] at e17
    have e18' : S18.2.1 = (stM S17 17 T (nI ((A.1.2 T).length + (N - m)))).2.1 := by
      rw [e18, e17, stM_k (k' := 17) (by omega), hl', nI_1, show (A.1.2 T).length + (N - (m + 1)) + 1 = (A.1.2 T).length + (N - m) by omega]
    have kk : ∀ k p, S18.2.1 k p = if k = 17 ∧ p = T then nI ((A.1.2 T).length + (N - m)) else if k = 18 ∧ p = 20 * T + ((A.1.2 T).length + (N - (m + 1))) then numByte a m else S'.2.1 k p := fun k p => by
      rw [e18', stM_get, e17, stM_get]; rfl
    refine hk S18 ⟨f.trans ⟨by rw [e18, e17]; rfl, by rw [e18, e17]; rfl, fun k p hn => by rw [kk, if_neg (by omega), if_neg (by omega)]⟩, by rw [kk, if_pos ⟨rfl, rfl⟩], fun k hk' => ?_⟩
    rw [kk, if_neg (by omega)]
    by_cases hke : k = (A.1.2 T).length + (N - (m + 1))
    · rw [if_pos ⟨rfl, by omega⟩, hke, List.getD_eq_getElem?_getD, List.getElem?_append_right (by omega), ← List.getD_eq_getElem?_getD, numB_getD (by omega)]
      congr 1
      omega
    · rw [if_neg (by omega)]
      exact hv' k (by omega)
  · rw [Nat.sub_self, Nat.add_zero] at hk
    rw [e13, stM_k (by omega), (m3 T hT7).2 k hk, List.getD_eq_getElem?_getD, List.getD_eq_getElem?_getD, List.getElem?_append_left hk]
theorem op_table {S : St} {t : Int32} {a : Int64} {n : Int32} {V : Int32 → St → Prop} {Z : Int32 → Int32 → St → Prop} (h : Sim S) (hV : ∀ k S1, wp_X11_table S1 t a n (fun b S2 => Z k b S2) → V k S1) (hZ : ∀ k b S2, S2.2.1 9 0 = k → (k = 0 → S2.2.2.2 = b.toInt64) → Sim S2 → Z k b S2) : wp_L_table S t a n V := by
  obtain ⟨A, hk, hc, hm⟩ := h
  obtain ⟨c1, c2, c3, c4, c5⟩ := id hc
  have hj := gw_fx_le S
  have inj : ∀ {N M : Nat}, N ≤ 8 → M ≤ 8 → nI N = nI M → N = M := fun h1 h2 e => (nI_eq (by omega) (by omega)).mp e
  have nT : ∀ {T : Nat}, 2 ≤ T → T < 7 → ¬ badT (nI T) := fun h1 h2 z => z.elim (fun z => by have := (nI_ltI (b := 2) (by omega) (by omega)).mp z; omega) (fun z => by have := (nI_ltI (a := 6) (by omega) (by omega)).mp z; omega)
  have nN : ∀ {N : Nat}, 1 ≤ N → N ≤ 8 → ¬ badN (nI N) := fun h1 h2 z => z.elim (fun z => by have := (nI_ltI (b := 1) (by omega) (by omega)).mp z; omega) (fun z => z (nI_le (b := 8) h2 (by omega)))
  have er : (badT t ∨ badN n) → V 1 S := fun q => hV _ _ (sm_table hk hm (fun _ => hZ _ _ _ stM_self (fun z => absurd z (by decide)) (mo_thr hk hc hm)) (fun T N a1 a2 a3 a4 a5 a6 => by rw [a3, a6] at q; exact absurd q (fun z => z.elim (nT a1 a2) (nN a4 a5))) (fun T N a1 a2 a3 a4 a5 a6 => by rw [a3, a6] at q; exact absurd q (fun z => z.elim (nT a1 a2) (nN a4 a5))))
  unfold wp_L_table wp_X10_table wp_X10_table_11 wp_X10_table_34
  refine ⟨fun q => Or.inl ⟨rfl, er (Or.inl (Or.inl q))⟩, fun q1 => ⟨fun q2 => ⟨fun q => Or.inl ⟨rfl, er (Or.inr (Or.inl q))⟩, fun q3 => ⟨fun q4 => ?_, fun q => Or.inl ⟨rfl, er (Or.inr (Or.inr q))⟩⟩⟩, fun q => Or.inl ⟨rfl, er (Or.inl (Or.inr (Classical.byContradiction fun z => q (seven.mpr z))))⟩⟩⟩
  obtain ⟨T, hT2, hT7, eT⟩ := goodT (t := t) (fun z => z.elim q1 (seven.mp q2))
  obtain ⟨N, hN1, hN8, eN⟩ := goodN (n := n) (fun z => z.elim q3 (fun z => z q4))
  have hrow := c3.2.2 T hT2 hT7
  rw [eT, rwId_nI hT7]
  have hl : rLen S (48 + 7 * gw_fx S + T) = nI (A.1.2 T).length := by unfold rLen; rw [hrow]
  have hlT := (hk.1.2.2.2.2 T hT7).1
  refine pk_le ((A.1.2 T).length + N) 20 (fun hl2 => ⟨by rw [eN]; exact nI_pos (by omega), fun S12 e12 => hV _ _ ?_⟩) (fun hl2 => Or.inr ⟨rfl, hV _ _ ?_⟩) (by rw [hl, eN, nI_add])
  · have e12' : S12 = stX S (48 + 7 * gw_fx S + T) (A.1.2 T ++ numB a N) := by
      rw [e12]; unfold rNum
      rw [eN, nI_clamp (by omega), rApp_fit (by rw [hrow, numB_len, capT hj hT2 hT7]; exact hl2), hrow]
    have hlen : rLen S12 (48 + 7 * gw_fx S + T) = nI ((A.1.2 T).length + N) := by unfold rLen; rw [e12', stX_at, List.length_append, numB_len]
    have hc12 : CA S12 ((A.1.1, va_up A.1.2 T (A.1.2 T ++ numB a N)), A.2) := by
      rw [e12']
      refine ⟨le_stX c1 (by rw [capT hj hT2 hT7]; simp [numB_len]; exact hl2), c2, ?_, by rw [stX_ne (by omega)]; exact c4, c5⟩
      have fx : gw_fx (stX S (48 + 7 * gw_fx S + T) (A.1.2 T ++ numB a N)) = gw_fx S := rfl
      rw [fx]
      refine ⟨c3.1, fun g G eg => ?_, fun u u1 u2 => ?_⟩
      · obtain ⟨g1, g2, g3, g4, g5⟩ := c3.2.1 g G eg
        have hg := g_lt hk.1 eg
        exact ⟨g1, by rw [stX_ne (by omega)]; exact g2, by rw [stX_ne (by omega)]; exact g3, by rw [stX_ne (by omega)]; exact g4, by rw [stX_ne (by omega)]; exact g5⟩
      · show _ = (if u = T then _ else A.1.2 u)
        by_cases hu : u = T
        · rw [hu, if_pos rfl, stX_at]
        · rw [if_neg hu, stX_ne (by omega)]; exact c3.2.2 u u1 u2
    refine sm_table (S := stO S12 (rLen S12 (48 + 7 * gw_fx S + T)).toInt64) hk (hm.cl (by rw [e12']; exact cFr.refl S)) (fun z => absurd z (by rw [eT, eN]; exact fun z => z.elim (nT hT2 hT7) (nN hN1 hN8))) (fun T' N' t1 t2 t3 n1 n2 n3 z => ?_) (fun T' N' t1 t2 t3 n1 n2 n3 z S2 f2 th2 hm2 => ?_)
    · have w1 := inj (by omega) (by omega) (eT.symm.trans t3)
      have w2 := inj hN8 n2 (eN.symm.trans n3)
      subst w1 w2
      omega
    · have w1 := inj (by omega) (by omega) (eT.symm.trans t3)
      have w2 := inj hN8 n2 (eN.symm.trans n3)
      subst w1 w2
      exact hZ _ _ _ th2 (fun _ => by rw [f2.2.1, hlen]; rfl) ⟨((A.1.1, va_up A.1.2 T (A.1.2 T ++ numB a N)), A.2), ⟨okF_tab hk.1 hT2 hT7 hl2, hk.2⟩, CA.mo (S := stO S12 (rLen S12 (48 + 7 * gw_fx S + T)).toInt64) hc12 f2, hm2⟩
  · refine sm_table hk hm (fun z => absurd z (by rw [eT, eN]; exact fun z => z.elim (nT hT2 hT7) (nN hN1 hN8))) (fun _ _ _ _ _ _ _ _ _ => hZ _ _ _ stM_self (fun z => absurd z (by decide)) (mo_thr hk hc hm)) (fun T' N' t1 t2 t3 n1 n2 n3 z => ?_)
    have w1 := inj (by omega) (by omega) (eT.symm.trans t3)
    have w2 := inj hN8 n2 (eN.symm.trans n3)
    subst w1 w2
    omega
