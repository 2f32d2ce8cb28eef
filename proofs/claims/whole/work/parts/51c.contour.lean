/-! contour and point: the latest glyph changes -/
theorem get_last {gs : List Gl} {G' H : Gl} {g : Nat} (e : (gs ++ [G'])[g]? = some H) : (g < gs.length ∧ gs[g]? = some H) ∨ (g = gs.length ∧ H = G') := by
  simp only [List.getElem?_append] at e
  split at e
  · rename_i h; exact Or.inl ⟨h, e⟩
  · rename_i h
    have : g = gs.length := by
      rcases Nat.eq_zero_or_pos (g - gs.length) with z | z
      · omega
      · rw [List.getElem?_eq_none (by simp; omega)] at e; exact absurd e (by simp)
    subst this
    simp at e
    exact Or.inr ⟨rfl, e.symm⟩
theorem get_old {F : Fo} {gs : List Gl} {G H : Gl} {g : Nat} (e : F.1 = gs ++ [G]) (h : gs[g]? = some H) : F.1[g]? = some H := by
  rw [e, List.getElem?_append_left]
  · exact h
  · exact (List.getElem?_eq_some_iff.mp h).1
theorem okF_last {F : Fo} {gs : List Gl} {G G' : Gl} (hk : okF F) (e : F.1 = gs ++ [G]) (hG : okG G') : okF (gs ++ [G'], F.2) := by
  obtain ⟨h1, h2, h3, h4, h5⟩ := hk
  have el : F.1.length = gs.length + 1 := by rw [e]; simp
  refine ⟨by simp; omega, fun g H eg => ?_, fun g H eg hg => ?_, h4, h5⟩
  · rcases get_last eg with ⟨_, z⟩ | ⟨_, z⟩
    · exact h2 g H (get_old e z)
    · rw [z]; exact hG
  · simp only [List.length_append, List.length_singleton] at hg
    rcases get_last eg with ⟨z1, z⟩ | ⟨z1, _⟩
    · exact h3 g H (get_old e z) (by omega)
    · omega
theorem CA_last {S S1 : St} {A : Ab} {gs : List Gl} {G G' : Gl} (hc : CA S A) (e : A.1.1 = gs ++ [G]) (hn : gs.length < 6) (hle : rowsLe S1) (hG : cG S1 (6 * gw_fx S + gs.length) G') (hk : ∀ k p, ¬ (k = 0 ∧ p = 6 * gw_fx S + gs.length) → k < 9 → S1.2.1 k p = S.2.1 k p) (hr : ∀ r, ¬ (4 * (6 * gw_fx S + gs.length) ≤ r ∧ r < 4 * (6 * gw_fx S + gs.length) + 4) → S1.1 r = S.1 r) : CA S1 ((gs ++ [G'], A.1.2), A.2) := by
  obtain ⟨c1, c2, c3, c4, c5⟩ := hc
  have el : A.1.1.length = gs.length + 1 := by rw [e]; simp
  have hj := gw_fx_le S
  have fx : gw_fx S1 = gw_fx S := fx_of (hk 3 1 (by omega) (by omega))
  have sx : gw_sx S1 = gw_sx S := sx_of (hk 3 2 (by omega) (by omega))
  refine ⟨hle, by rw [fx, sx]; exact c2, ?_, by rw [hr 62 (by omega)]; exact c4, by rw [hk 3 0 (by omega) (by omega)]; exact c5⟩
  rw [fx]
  refine ⟨by rw [hk 1 _ (by omega) (by omega), c3.1, el]; simp, fun g H eg => ?_, fun t t1 t2 => by rw [hr _ (by omega)]; exact c3.2.2 t t1 t2⟩
  rcases get_last eg with ⟨z1, z⟩ | ⟨z1, z⟩
  · obtain ⟨g1, g2, g3, g4, g5⟩ := c3.2.1 g H (get_old e z)
    exact ⟨by rw [hk 0 _ (by omega) (by omega)]; exact g1, by rw [hr _ (by omega)]; exact g2, by rw [hr _ (by omega)]; exact g3, by rw [hr _ (by omega)]; exact g4, by rw [hr _ (by omega)]; exact g5⟩
  · rw [z1, z]; exact hG
theorem MA_last {S S2 : St} {A : Ab} {gs : List Gl} {G G' : Gl} (hok : okA A) (hm : MA S A) (e : A.1.1 = gs ++ [G]) (hG : mG S2 gs.length G') (hk : ∀ k p, 9 ≤ k → k < 1000 → ¬ (k = 9 ∧ p = 0) → ¬ (10 ≤ k ∧ k ≤ 12 ∧ p = gs.length) → ¬ (13 ≤ k ∧ k ≤ 16 ∧ 16 * gs.length ≤ p ∧ p < 16 * gs.length + 16) → S2.2.1 k p = S.2.1 k p) : MA S2 ((gs ++ [G'], A.1.2), A.2) := by
  obtain ⟨⟨m1, m2, m3⟩, ⟨m4, m5⟩, m6⟩ := hm
  have el : A.1.1.length = gs.length + 1 := by rw [e]; simp
  refine ⟨⟨by rw [hk 9 1 (by omega) (by omega) (by omega) (by omega) (by omega), m1, el]; simp, fun g H eg => ?_, fun t ht => ?_⟩, ⟨by rw [hk 9 3 (by omega) (by omega) (by omega) (by omega) (by omega)]; exact m4, fun k h => by rw [hk 29 k (by omega) (by omega) (by omega) (by omega) (by omega)]; exact m5 k h⟩, by rw [hk 9 14 (by omega) (by omega) (by omega) (by omega) (by omega)]; exact m6⟩
  · rcases get_last eg with ⟨z1, z⟩ | ⟨z1, z⟩
    · obtain ⟨g1, g2, g3, g4⟩ := m2 g H (get_old e z)
      have h16 := (hok.1.2.1 g H (get_old e z)).1.2.1
      refine ⟨by rw [hk 10 g (by omega) (by omega) (by omega) (by omega) (by omega)]; exact g1, by rw [hk 11 g (by omega) (by omega) (by omega) (by omega) (by omega)]; exact g2, by rw [hk 12 g (by omega) (by omega) (by omega) (by omega) (by omega)]; exact g3, fun p hp => ?_⟩
      rw [hk 13 _ (by omega) (by omega) (by omega) (by omega) (by omega), hk 14 _ (by omega) (by omega) (by omega) (by omega) (by omega), hk 15 _ (by omega) (by omega) (by omega) (by omega) (by omega), hk 16 _ (by omega) (by omega) (by omega) (by omega) (by omega)]
      exact g4 p hp
    · rw [z1, z]; exact hG
  · rw [hk 17 t (by omega) (by omega) (by omega) (by omega) (by omega)]
    refine ⟨(m3 t ht).1, fun k hkk => ?_⟩
    rw [hk 18 _ (by omega) (by omega) (by omega) (by omega) (by omega)]
    exact (m3 t ht).2 k hkk
theorem le_stX {S : St} {r : Nat} {l : List Int32} (h : rowsLe S) (hl : l.length ≤ gw_cap r) : rowsLe (stX S r l) := fun q hq => by
  rw [stX_get]; split
  · rename_i z; rw [z]; exact hl
  · exact h q hq
theorem rApp_fit {S : St} {r : Nat} {l : List Int32} (h : (S.1 r).length + l.length ≤ gw_cap r) : rApp S r l = stX S r (S.1 r ++ l) := by
  unfold rApp; rw [List.take_of_length_le (by simp; omega)]
theorem cap0 {q : Nat} (h : q < 12) : gw_cap (4 * q) = 4 := by unfold gw_cap; rw [if_pos (by omega), if_pos (by omega)]
theorem cap1 {q i : Nat} (h : q < 12) (h1 : 1 ≤ i) (h2 : i ≤ 3) : gw_cap (4 * q + i) = 16 := by unfold gw_cap; rw [if_pos (by omega), if_neg (by omega)]
theorem capT {j t : Nat} (h : j ≤ 1) (h1 : 2 ≤ t) (h2 : t < 7) : gw_cap (48 + 7 * j + t) = 20 := by unfold gw_cap; rw [if_neg (by omega), if_pos (by omega), if_neg (by omega), if_neg (by omega)]
theorem cap62 : gw_cap 62 = 1500 := rfl
def noC (F : Fo) : Prop := F.1 = [] ∨ ∃ gs G, F.1 = gs ++ [G] ∧ (G.2.1.length = 4 ∨ G.2.1.sum = 16 ∨ openG G)
theorem cl_contour {S : St} {A : Ab} {P : Int32 → St → Prop} (hok : okA A) (hc : CA S A) (h1 : noC A.1 → P 1 S)
    (h0 : ∀ gs G, A.1.1 = gs ++ [G] → G.2.1.length < 4 → G.2.1.sum < 16 → ¬ openG G → ∀ S1, CA S1 ((gs ++ [(G.1, G.2.1 ++ [0], G.2.2)], A.1.2), A.2) → cFr S S1 → P 0 (stO S1 (nI G.2.1.length).toInt64)) : wp_L_contour S P := by
  have h6 := hok.1.1
  obtain ⟨c1, c2, c3, c4, c5⟩ := id hc
  have hj := gw_fx_le S
  unfold wp_L_contour wp_X10_contour
  refine And.symm (pk_eq A.1.1.length 0 (fun h => ⟨rfl, h1 (Or.inl (List.eq_nil_of_length_eq_zero h))⟩) (fun h => ?_) c3.1)
  obtain ⟨gs, G, e⟩ := F_last (l := A.1.1) (fun z => by rw [z] at h; simp at h)
  have el : A.1.1.length = gs.length + 1 := by rw [e]; simp
  have eq : lgId S (gw_fx S) = 6 * gw_fx S + gs.length := lgId_nI (by rw [c3.1, el]) (by omega)
  have hG := c3.2.1 _ G (F_get e)
  have kG := hok.1.2.1 _ G (F_get e)
  have k1 := kG.1.1
  have k2 := kG.1.2.1
  rw [eq]
  refine pk_lt G.2.1.length 4 (fun h4 => ?_) (fun h4 => ⟨rfl, h1 (Or.inr ⟨gs, G, e, Or.inl (by omega)⟩)⟩) (by show nI (S.1 _).length = _; rw [hG.2.1, List.length_map])
  refine pk_lt G.2.1.sum 16 (fun h16 => ?_) (fun h16 => ⟨rfl, h1 (Or.inr ⟨gs, G, e, Or.inr (Or.inl (by omega))⟩)⟩) (by show nI (S.1 _).length = _; rw [hG.2.2.1, kG.1.2.2.1])
  refine sp_refuse hok hc (fun ho => ?_) (fun ho => ⟨rfl, h1 (Or.inr ⟨gs, G, e, Or.inr (Or.inr ((openF_iff e).mp ho))⟩)⟩)
  intro r14 S13 e14 e13
  have c0 := cap0 (q := 6 * gw_fx S + gs.length) (by omega)
  have eS : S13 = stX S (4 * (6 * gw_fx S + gs.length)) ((G.2.1 ++ [0]).map nI) := by
    rw [e13]
    show rApp S _ [0] = _
    rw [rApp_fit (by rw [hG.2.1, c0]; simp; omega), hG.2.1]
    simp
    rfl
  have k3 : r14 = nI G.2.1.length := by
    rw [e14]
    show nI ((fs_X4_addContour S _).1 _).length - 1 = _
    rw [← e13, eS, stX_at]
    simp only [List.length_map, List.length_append, List.length_singleton]
    exact nI_pred _
  rw [k3]
  refine h0 gs G e h4 h16 (fun z => ho ((openF_iff e).mpr z)) S13 (CA_last hc e (by omega) (by rw [eS]; exact le_stX c1 (by rw [c0]; simp; omega)) ?_ (fun k p _ _ => by rw [eS]; rfl) (fun r hr => by rw [eS, stX_ne (by omega)])) (by rw [eS]; exact cFr.refl S)
  refine ⟨by rw [eS]; exact hG.1, by rw [eS, stX_at], by rw [eS, stX_ne (by omega)]; exact hG.2.2.1, by rw [eS, stX_ne (by omega)]; exact hG.2.2.2.1, by rw [eS, stX_ne (by omega)]; exact hG.2.2.2.2⟩
theorem okG_cont {G : Gl} (h : okG G) (h4 : G.2.1.length < 4) (ho : ¬ openG G) : okG (G.1, G.2.1 ++ [0], G.2.2) := by
  have hcl := closed_of h ho
  obtain ⟨⟨a1, a2, a3, a4, a5⟩, b, c, d, f, i⟩ := h
  refine ⟨⟨by simp; omega, by simpa using a2, by simpa using a3, by simpa using a4, by simpa using a5⟩, b, c, d, f, ?_⟩
  simp
  exact hcl
theorem mo_contour {S : St} {A : Ab} {P : Int32 → St → Prop} (hok : okA A) (hm : MA S A) (h1 : noC A.1 → P 0 (stM S 9 0 1))
    (h0 : ∀ gs G, A.1.1 = gs ++ [G] → G.2.1.length < 4 → G.2.1.sum < 16 → ¬ openG G → ∀ S2, mFr S S2 → S2.2.1 9 0 = 0 → MA S2 ((gs ++ [(G.1, G.2.1 ++ [0], G.2.2)], A.1.2), A.2) → P (nI G.2.1.length) S2) : wp_X11_contour S P := by
  have h6 := hok.1.1
  obtain ⟨⟨m1, m2, m3⟩, m4, m5⟩ := id hm
  have er : ∀ x, P 0 (stM S 9 0 1) → wp_X11_contour_40 S x P := fun x hp => by
    intro S14 e14
    rw [e14, stM_self]
    exact ⟨fun z => absurd z (by decide), fun _ => hp⟩
  intro x14 e14
  by_cases h : A.1.1 = []
  · have : x14 = -1 := by rw [e14, m1, h]; rfl
    refine ⟨fun _ => er x14 (h1 (Or.inl h)), fun q => absurd (by rw [this]; decide) q⟩
  obtain ⟨gs, G, e⟩ := F_last (l := A.1.1) h
  have el : A.1.1.length = gs.length + 1 := by rw [e]; simp
  have e14' : x14 = nI gs.length := by rw [e14, m1, el, nI_pred]
  have hG := m2 _ G (F_get e)
  have kG := hok.1.2.1 _ G (F_get e)
  have k1 := kG.1.1
  have k2 := kG.1.2.1
  have hcl : x14.toNatClampNeg = gs.length := pk_cl _ e14'
  have h11 : vp_in x14 (gw_ml 1) := pk_in gs.length _ (by show gs.length < 6; omega) e14' (by decide)
  have h12 : vp_in x14 (gw_ml 2) := pk_in gs.length _ (by show gs.length < 6; omega) e14' (by decide)
  refine ⟨fun q => absurd q (by rw [e14']; exact nI_pos (by omega)), fun _ => ?_⟩
  refine sm_open hm.1 hok.1 (fun ho => ⟨fun _ => er _ (h1 (Or.inr ⟨gs, G, e, Or.inr (Or.inr ((openF_iff e).mp ho))⟩)), fun z => absurd z (by decide)⟩) (fun ho => ⟨fun z => absurd rfl z, fun _ => ⟨h11, ?_⟩⟩)
  rw [hcl]
  refine pk_eq G.2.1.length 4 (fun h4 => er _ (h1 (Or.inr ⟨gs, G, e, Or.inl h4⟩))) (fun h4 => ⟨h12, And.symm (pk_eq G.2.1.sum 16 (fun h16 => er _ (h1 (Or.inr ⟨gs, G, e, Or.inr (Or.inl h16)⟩))) (fun h16 => ?_) hG.2.2.1)⟩) hG.2.1
  intro S11 e11
  refine ⟨fun _ => ⟨h11, h11, fun S13 e13 => ⟨h11, ?_⟩⟩, fun z => absurd (by rw [e11, stM_self]; exact Int32.le_refl 0) z⟩
  rw [hcl] at e13 ⊢
  have e13' : S13 = stM (stM S 9 0 0) 11 gs.length (nI (G.2.1.length + 1)) := by
    rw [e13, e11, stM_k (by omega), hG.2.1, nI_1]
  have kk : ∀ k p, S13.2.1 k p = if k = 11 ∧ p = gs.length then nI (G.2.1.length + 1) else if k = 9 ∧ p = 0 then 0 else S.2.1 k p := fun k p => by rw [e13']; simp only [stM_get]
  rw [show S13.2.1 11 gs.length - 1 = nI G.2.1.length by rw [kk, if_pos ⟨rfl, rfl⟩, nI_pred]]
  refine h0 gs G e (by omega) (by omega) (fun z => ho ((openF_iff e).mpr z)) S13 (by rw [e13']; exact mfM (mfThr 0) (by omega) (by omega)) (by rw [kk]; simp) (MA_last hok hm e ?_ (fun k p _ _ n1 n2 n3 => by rw [kk, if_neg (by omega), if_neg n1]))
  refine ⟨by rw [kk]; simp; exact hG.1, by rw [kk]; simp, by rw [kk]; simp; exact hG.2.2.1, fun p hp => ?_⟩
  have hs : (G.2.1 ++ [0]).sum = G.2.1.sum := by simp
  rw [hs] at hp
  simp only [kk]
  simp only [expC_app, List.replicate_zero, List.append_nil]
  have := hG.2.2.2 p hp
  simpa using this
theorem op_contour {S : St} {Z : Int32 → Int32 → St → Prop} (h : Sim S) (hZ : ∀ k b S2, S2.2.1 9 0 = k → (k = 0 → S2.2.2.2 = b.toInt64) → Sim S2 → Z k b S2) : wp_L_contour S (fun k S1 => wp_X11_contour S1 (fun b S2 => Z k b S2)) := by
  obtain ⟨A, hk, hc, hm⟩ := h
  refine cl_contour hk hc (fun q => ?_) (fun gs G e q1 q2 q3 S1 hc1 hf => ?_)
  · refine mo_contour hk hm (fun _ => hZ _ _ _ stM_self (fun z => absurd z (by decide)) ⟨A, hk, hc.mo (mfThr _), hm.thr _⟩) (fun gs G e q1 q2 q3 => ?_)
    rcases q with q | ⟨gs', G', e', q⟩
    · rw [q] at e; simp at e
    · have := e.symm.trans e'
      have h2 := List.append_inj' this rfl
      simp at h2
      rw [← h2.2] at q
      rcases q with q | q | q
      · omega
      · omega
      · exact absurd q q3
  · have hk2 : okA ((gs ++ [(G.1, G.2.1 ++ [0], G.2.2)], A.1.2), A.2) := ⟨okF_last hk.1 e (okG_cont (hk.1.2.1 _ G (F_get e)) q1 q3), hk.2⟩
    refine mo_contour (S := stO S1 (nI G.2.1.length).toInt64) hk (hm.cl (cfO hf)) (fun z => ?_) (fun gs' G' e' _ _ _ S2 f2 t2 hm2 => ?_)
    · exfalso
      rcases z with q | ⟨gs', G', e', q⟩
      · rw [q] at e; simp at e
      · have := e.symm.trans e'
        have h2 := List.append_inj' this rfl
        simp at h2
        rw [← h2.2] at q
        rcases q with q | q | q
        · omega
        · omega
        · exact absurd q q3
    · have := e.symm.trans e'
      have h2 := List.append_inj' this rfl
      simp at h2
      obtain ⟨h2, h3⟩ := h2
      subst h2 h3
      exact hZ _ _ _ t2 (fun _ => by rw [f2.2.1]; rfl) ⟨_, hk2, CA.mo (S := stO S1 (nI G.2.1.length).toInt64) hc1 f2, hm2⟩
