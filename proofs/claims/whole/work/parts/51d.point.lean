/-! point -/
def far (x : Int32) : Prop := x < -4000 ∨ ¬ x ≤ 4000
theorem near {x : Int32} (h : ¬ far x) : inR x := by
  unfold far at h
  have h1 : ¬ x < -4000 := fun z => h (Or.inl z)
  have h2 : x ≤ 4000 := Classical.byContradiction fun z => h (Or.inr z)
  rw [Int32.lt_iff_toInt_lt] at h1
  rw [Int32.le_iff_toInt_le] at h2
  have e1 : (-4000 : Int32).toInt = -4000 := by decide
  have e2 : (4000 : Int32).toInt = 4000 := by decide
  unfold inR
  omega
theorem sp_far {S : St} {x : Int32} {P : Int32 → St → Prop} (h1 : far x → P 1 S) (h0 : ¬ far x → P 0 S) : wp_X10_isTooFar S x P := by
  refine ⟨fun q => ⟨Or.inr rfl, h1 (Or.inl q)⟩, fun q => ⟨fun q2 => ⟨Or.inl rfl, h0 (fun z => z.elim q (fun z => z q2))⟩, fun q2 => ⟨Or.inr rfl, h1 (Or.inr q2)⟩⟩⟩
theorem sm_far {S : St} {x : Int32} {P : Int32 → St → Prop} (h1 : far x → P 1 S) (h0 : ¬ far x → P 0 S) : wp_X11_far S x P := by
  refine ⟨fun q => ⟨Or.inr rfl, h1 (Or.inl q)⟩, fun q => ⟨fun q2 => ⟨Or.inl rfl, h0 (fun z => z.elim q (fun z => z q2))⟩, fun q2 => ⟨Or.inr rfl, h1 (Or.inr q2)⟩⟩⟩
def noP (F : Fo) : Prop := F.1 = [] ∨ ∃ gs G, F.1 = gs ++ [G] ∧ (G.2.1 = [] ∨ G.2.1.sum = 16)
def addP (G : Gl) (a : List Nat) (s : Nat) (x y o : Int32) : Gl := (G.1, a ++ [s + 1], G.2.2.1 ++ [x], G.2.2.2.1 ++ [y], G.2.2.2.2 ++ [o])
theorem okG_point {G : Gl} {a : List Nat} {s : Nat} {x y o : Int32} (h : okG G) (e : G.2.1 = a ++ [s]) (h16 : G.2.1.sum < 16) (hx : inR x) (hy : inR y) (ho : o = 0 ∨ o = 1) : okG (addP G a s x y o) := by
  obtain ⟨⟨a1, a2, a3, a4, a5⟩, b, c, d, f, i⟩ := h
  have es : G.2.1.sum = a.sum + s := by rw [e]; simp
  have e2 : (a ++ [s + 1]).sum = G.2.1.sum + 1 := by rw [es]; simp; omega
  have el : G.2.1.length = a.length + 1 := by rw [e]; simp
  refine ⟨⟨by simp [addP]; omega, by show (a ++ [s + 1]).sum ≤ 16; omega, ?_, ?_, ?_⟩, fun z hz => ?_, fun z hz => ?_, fun z hz => ?_, f, ?_⟩
  · show (G.2.2.1 ++ [x]).length = (a ++ [s + 1]).sum; rw [e2]; simp; exact a3
  · show (G.2.2.2.1 ++ [y]).length = (a ++ [s + 1]).sum; rw [e2]; simp; exact a4
  · show (G.2.2.2.2 ++ [o]).length = (a ++ [s + 1]).sum; rw [e2]; simp; exact a5
  · simp [addP] at hz; rcases hz with hz | hz
    · exact b z hz
    · rw [hz]; exact hx
  · simp [addP] at hz; rcases hz with hz | hz
    · exact c z hz
    · rw [hz]; exact hy
  · simp [addP] at hz; rcases hz with hz | hz
    · exact d z hz
    · rw [hz]; exact ho
  · rw [e] at i
    simp [addP] at i ⊢
    exact i
theorem cl_point {S : St} {A : Ab} {x y o : Int32} {P : Int32 → St → Prop} (ho : o = 0 ∨ o = 1) (hok : okA A) (hc : CA S A) (h1 : (far x ∨ far y) → P 1 S) (h2 : ¬ far x → ¬ far y → noP A.1 → P 2 S)
    (h0 : ¬ far x → ¬ far y → ∀ gs G a s, A.1.1 = gs ++ [G] → G.2.1 = a ++ [s] → G.2.1.sum < 16 → ∀ S1, CA S1 ((gs ++ [addP G a s x y o], A.1.2), A.2) → cFr S S1 → P 0 (stO S1 (nI G.2.1.sum).toInt64)) : wp_L_point S x y o P := by
  have h6 := hok.1.1
  obtain ⟨c1, c2, c3, c4, c5⟩ := id hc
  have hj := gw_fx_le S
  unfold wp_L_point wp_X10_point wp_X10_point_14
  refine sp_far (fun q => ⟨fun _ => Or.inl ⟨rfl, h1 (Or.inl q)⟩, fun z => absurd z (by decide)⟩) (fun q => ⟨fun z => absurd rfl z, fun _ => ?_⟩)
  refine sp_far (fun q => ⟨fun z => absurd z (by decide), fun _ => Or.inl ⟨rfl, h1 (Or.inr q)⟩⟩) (fun q2 => ⟨fun _ => ?_, fun z => absurd rfl z⟩)
  refine And.symm (pk_eq A.1.1.length 0 (fun h => Or.inr ⟨rfl, h2 q q2 (Or.inl (List.eq_nil_of_length_eq_zero h))⟩) (fun h => ?_) c3.1)
  obtain ⟨gs, G, e⟩ := F_last (l := A.1.1) (fun z => by rw [z] at h; simp at h)
  have el : A.1.1.length = gs.length + 1 := by rw [e]; simp
  have eq : lgId S (gw_fx S) = 6 * gw_fx S + gs.length := lgId_nI (by rw [c3.1, el]) (by omega)
  have hG := c3.2.1 _ G (F_get e)
  have kG := hok.1.2.1 _ G (F_get e)
  have k1 := kG.1.1
  have k2 := kG.1.2.1
  rw [eq]
  have hl : fv_X4_contourCount S (6 * gw_fx S + gs.length) = nI G.2.1.length := by show nI (S.1 _).length = _; rw [hG.2.1, List.length_map]
  refine And.symm (pk_eq G.2.1.length 0 (fun h => Or.inr ⟨rfl, h2 q q2 (Or.inr ⟨gs, G, e, Or.inl (List.eq_nil_of_length_eq_zero h)⟩)⟩) (fun h => ?_) hl)
  obtain ⟨a, s, es⟩ := F_last (l := G.2.1) (fun z => by rw [z] at h; simp at h)
  have ela : G.2.1.length = a.length + 1 := by rw [es]; simp
  refine pk_lt G.2.1.sum 16 (fun h16 => ?_) (fun h16 => Or.inr ⟨rfl, h2 q q2 (Or.inr ⟨gs, G, e, Or.inr (by omega)⟩)⟩) (by show nI (S.1 _).length = _; rw [hG.2.2.1, kG.1.2.2.1])
  intro S22 e22 r24 S23 e24 e23
  generalize hqq : 6 * gw_fx S + gs.length = Q at *
  have hQ : Q < 12 := by omega
  have c0 := cap0 hQ
  have eS22 : S22 = stX S (4 * Q) ((a ++ [s + 1]).map nI) := by
    rw [e22]
    show rChange S (4 * Q) (rLen S (4 * Q) - 1) (rLatest S (4 * Q) + 1) = _
    rw [show rLen S (4 * Q) = nI (a.length + 1) by rw [← ela]; exact hl, nI_pred, rLatest_app (a := a.map nI) (x := nI s) (by rw [hG.2.1, es]; simp) (by simp; omega), nI_1]
    unfold rChange
    rw [if_neg (nI_pos (by omega)), nI_clamp (by omega), hG.2.1, es]
    simp
  have eS : S23 = stX (stX (stX (stX S (4 * Q) ((a ++ [s + 1]).map nI)) (4 * Q + 1) (G.2.2.1 ++ [x])) (4 * Q + 2) (G.2.2.2.1 ++ [y])) (4 * Q + 3) (G.2.2.2.2 ++ [o]) := by
    have ee : fs_X4_addPoint S22 Q x y o = rAdd (rAdd (rAdd S22 (4 * Q + 1) x) (4 * Q + 2) y) (4 * Q + 3) o := by
      unfold fs_X4_addPoint fs_X4_addPoint_29
      rcases ho with z | z
      · rw [if_pos z, z]
      · rw [if_neg (by rw [z]; decide), z]
    rw [e23, ee, eS22]
    have f1 := cap1 (i := 1) hQ (by omega) (by omega)
    have f2 := cap1 (i := 2) hQ (by omega) (by omega)
    have f3 := cap1 (i := 3) hQ (by omega) (by omega)
    have l1 := kG.1.2.2.1
    have l2 := kG.1.2.2.2.1
    have l3 := kG.1.2.2.2.2
    unfold rAdd
    rw [rApp_fit (r := 4 * Q + 1) (by rw [stX_ne (by omega), hG.2.2.1, f1]; simp; omega), stX_ne (by omega), hG.2.2.1]
    rw [rApp_fit (r := 4 * Q + 2) (by rw [stX_ne (by omega), stX_ne (by omega), hG.2.2.2.1, f2]; simp; omega), stX_ne (by omega), stX_ne (by omega), hG.2.2.2.1]
    rw [rApp_fit (r := 4 * Q + 3) (by rw [stX_ne (by omega), stX_ne (by omega), stX_ne (by omega), hG.2.2.2.2, f3]; simp; omega), stX_ne (by omega), stX_ne (by omega), stX_ne (by omega), hG.2.2.2.2]
  have kr : ∀ r, S23.1 r = if r = 4 * Q + 3 then G.2.2.2.2 ++ [o] else if r = 4 * Q + 2 then G.2.2.2.1 ++ [y] else if r = 4 * Q + 1 then G.2.2.1 ++ [x] else if r = 4 * Q then (a ++ [s + 1]).map nI else S.1 r := fun r => by rw [eS]; simp only [stX_get]
  have k3 : r24 = nI G.2.1.sum := by
    rw [e24]
    have ee : fv_X4_addPoint S22 Q x y o = rLen (fs_X4_addPoint S22 Q x y o) (4 * Q + 1) - 1 := by
      unfold fv_X4_addPoint fs_X4_addPoint fv_X4_addPoint_29 fs_X4_addPoint_29
      split <;> rfl
    rw [ee, ← e23]
    show nI (S23.1 (4 * Q + 1)).length - 1 = _
    rw [kr, if_neg (by omega), if_neg (by omega), if_pos rfl, List.length_append, List.length_singleton, kG.1.2.2.1, nI_pred]
  rw [k3]
  refine h0 q q2 gs G a s e es h16 S23 (CA_last hc e (by omega) ?_ ?_ (fun k p _ _ => by rw [eS]; rfl) (fun r hr => by rw [kr, if_neg (by omega), if_neg (by omega), if_neg (by omega), if_neg (by omega)])) (by rw [eS]; exact cFr.refl S)
  · intro r hr
    have f1 := cap1 (i := 1) hQ (by omega) (by omega)
    have f2 := cap1 (i := 2) hQ (by omega) (by omega)
    have f3 := cap1 (i := 3) hQ (by omega) (by omega)
    have l1 := kG.1.2.2.1
    have l2 := kG.1.2.2.2.1
    have l3 := kG.1.2.2.2.2
    rw [kr]
    split
    · rename_i z; rw [z, f3]; simp; omega
    split
    · rename_i z; rw [z, f2]; simp; omega
    split
    · rename_i z; rw [z, f1]; simp; omega
    split
    · rename_i z; rw [z, c0]; simp; omega
    · exact c1 r hr
  · rw [hqq]
    exact ⟨by rw [eS]; exact hG.1, by rw [kr, if_neg (by omega), if_neg (by omega), if_neg (by omega), if_pos rfl]; rfl, by rw [kr, if_neg (by omega), if_neg (by omega), if_pos rfl]; rfl, by rw [kr, if_neg (by omega), if_pos rfl]; rfl, by rw [kr, if_pos rfl]; rfl⟩
theorem getD_app1 {α : Type} {l : List α} {x d : α} {p : Nat} : (l ++ [x]).getD p d = if p < l.length then l.getD p d else if p = l.length then x else d := by
  simp only [List.getD_eq_getElem?_getD, List.getElem?_append]
  split
  · rfl
  · split
    · rename_i h1 h2; rw [h2]; simp
    · rename_i h1 h2; rw [List.getElem?_eq_none (by simp; omega)]; rfl
theorem mo_point {S : St} {A : Ab} {x y o : Int32} {P : Int32 → St → Prop} (ho : o = 0 ∨ o = 1) (hok : okA A) (hm : MA S A) (h1 : (far x ∨ far y) → P 0 (stM S 9 0 1)) (h2 : ¬ far x → ¬ far y → noP A.1 → P 0 (stM S 9 0 2))
    (h0 : ¬ far x → ¬ far y → ∀ gs G a s, A.1.1 = gs ++ [G] → G.2.1 = a ++ [s] → G.2.1.sum < 16 → ∀ S2, mFr S S2 → S2.2.1 9 0 = 0 → MA S2 ((gs ++ [addP G a s x y o], A.1.2), A.2) → P (nI G.2.1.sum) S2) : wp_X11_point S x y o P := by
  have h6 := hok.1.1
  obtain ⟨⟨m1, m2, m3⟩, m4, m5⟩ := id hm
  have er : ∀ x4 s0, ¬ s0 ≤ 0 → P 0 (stM S 9 0 s0) → wp_X11_point_59 x y o S x4 s0 P := fun x4 s0 q hp => by
    intro S14 e14
    rw [e14, stM_self]
    exact ⟨fun z => absurd z q, fun _ => hp⟩
  intro x27 e27
  unfold wp_X11_point_23 wp_X11_point_54
  refine sm_far (fun q => ⟨fun _ => er _ _ (by decide) (h1 (Or.inl q)), fun z => absurd z (by decide)⟩) (fun q => ⟨fun z => absurd rfl z, fun _ => ?_⟩)
  refine sm_far (fun q => ⟨fun z => absurd z (by decide), fun _ => er _ _ (by decide) (h1 (Or.inr q))⟩) (fun q2 => ⟨fun _ => ?_, fun z => absurd rfl z⟩)
  by_cases h : A.1.1 = []
  · have : x27 = -1 := by rw [e27, m1, h]; rfl
    exact ⟨fun _ => er _ _ (by decide) (h2 q q2 (Or.inl h)), fun q => absurd (by rw [this]; decide) q⟩
  obtain ⟨gs, G, e⟩ := F_last (l := A.1.1) h
  have el : A.1.1.length = gs.length + 1 := by rw [e]; simp
  have e27' : x27 = nI gs.length := by rw [e27, m1, el, nI_pred]
  have hG := m2 _ G (F_get e)
  have kG := hok.1.2.1 _ G (F_get e)
  have k1 := kG.1.1
  have k2 := kG.1.2.1
  have hcl : x27.toNatClampNeg = gs.length := pk_cl _ e27'
  have h11 : vp_in x27 (gw_ml 1) := pk_in gs.length _ (by show gs.length < 6; omega) e27' (by decide)
  have h12 : vp_in x27 (gw_ml 2) := pk_in gs.length _ (by show gs.length < 6; omega) e27' (by decide)
  refine ⟨fun q => absurd q (by rw [e27']; exact nI_pos (by omega)), fun _ => ⟨h11, ?_⟩⟩
  rw [hcl]
  refine pk_eq G.2.1.length 0 (fun h => er _ _ (by decide) (h2 q q2 (Or.inr ⟨gs, G, e, Or.inl (List.eq_nil_of_length_eq_zero h)⟩))) (fun h => ⟨h12, And.symm (pk_eq G.2.1.sum 16 (fun h16 => er _ _ (by decide) (h2 q q2 (Or.inr ⟨gs, G, e, Or.inr h16⟩))) (fun h16 => ?_) hG.2.2.1)⟩) hG.2.1
  obtain ⟨a, s, es⟩ := F_last (l := G.2.1) (fun z => by rw [z] at h; simp at h)
  have ela : G.2.1.length = a.length + 1 := by rw [es]; simp
  intro S19 e19
  have t19 : ∀ k p, k ≠ 9 → S19.2.1 k p = S.2.1 k p := fun k p hk => by rw [e19, stM_k hk]
  refine ⟨fun _ => ⟨h12, fun x21 e21 => ?_⟩, fun z => absurd (by rw [e19, stM_self]; exact Int32.le_refl 0) z⟩
  rw [hcl, t19 12 _ (by omega), hG.2.2.1, e27'] at e21
  have e21' : x21 = nI (16 * gs.length + G.2.1.sum) := by rw [e21]; simp only [lit32, pk_mul, nI_add]
  have hcl2 : x21.toNatClampNeg = 16 * gs.length + G.2.1.sum := pk_cl _ e21'
  have hin : ∀ n, 96 ≤ n → n < 2 ^ 31 → vp_in x21 n := fun n hn hn2 => pk_in _ _ (by omega) e21' hn2
  refine ⟨hin _ (by decide) (by decide), fun S22 e22 => ⟨hin _ (by decide) (by decide), fun S23 e23 => ⟨hin _ (by decide) (by decide), ho, fun S24 e24 => ⟨h11, hin _ (by decide) (by decide), fun S25 e25 => ⟨h12, h12, fun S26 e26 => ⟨h12, ?_⟩⟩⟩⟩⟩⟩
  rw [hcl] at e25 e26 ⊢
  rw [hcl2] at e22 e23 e24 e25
  have v25 : S24.2.1 11 gs.length - 1 = nI a.length := by
    rw [e24, stM_k (by omega), e23, stM_k (by omega), e22, stM_k (by omega), t19 _ _ (by omega), hG.2.1, ela, nI_pred]
  have v26 : S25.2.1 12 gs.length + 1 = nI (G.2.1.sum + 1) := by
    rw [e25, stM_k (by omega), e24, stM_k (by omega), e23, stM_k (by omega), e22, stM_k (by omega), t19 _ _ (by omega), hG.2.2.1, nI_1]
  have eS : S26 = stM (stM (stM (stM (stM (stM S 9 0 0) 13 (16 * gs.length + G.2.1.sum) x) 14 (16 * gs.length + G.2.1.sum) y) 15 (16 * gs.length + G.2.1.sum) o) 16 (16 * gs.length + G.2.1.sum) (nI a.length)) 12 gs.length (nI (G.2.1.sum + 1)) := by
    rw [e26, v26, e25, v25, e24, e23, e22, e19]
  have kk : ∀ k p, S26.2.1 k p = if k = 12 ∧ p = gs.length then nI (G.2.1.sum + 1) else if k = 16 ∧ p = 16 * gs.length + G.2.1.sum then nI a.length else if k = 15 ∧ p = 16 * gs.length + G.2.1.sum then o else if k = 14 ∧ p = 16 * gs.length + G.2.1.sum then y else if k = 13 ∧ p = 16 * gs.length + G.2.1.sum then x else if k = 9 ∧ p = 0 then 0 else S.2.1 k p := fun k p => by rw [eS]; simp only [stM_get]
  rw [show S26.2.1 12 gs.length - 1 = nI G.2.1.sum by rw [kk, if_pos ⟨rfl, rfl⟩, nI_pred]]
  refine h0 q q2 gs G a s e es (by omega) S26 (by rw [eS]; exact mfM (mfM (mfM (mfM (mfM (mfThr 0) (by omega) (by omega)) (by omega) (by omega)) (by omega) (by omega)) (by omega) (by omega)) (by omega) (by omega)) (by rw [kk]; simp) (MA_last hok hm e ?_ (fun k p _ _ n1 n2 n3 => by rw [kk, if_neg (by omega), if_neg (by omega), if_neg (by omega), if_neg (by omega), if_neg (by omega), if_neg n1]))
  have hs : (a ++ [s + 1]).sum = G.2.1.sum + 1 := by rw [es]; simp; omega
  refine ⟨by rw [kk]; simp; exact hG.1, by rw [kk]; simp; rw [hG.2.1, ela]; simp [addP], ?_, fun p hp => ?_⟩
  · rw [kk, if_pos ⟨rfl, rfl⟩]; show _ = nI (a ++ [s + 1]).sum; rw [hs]
  · have hp2 : p < G.2.1.sum + 1 := by rw [← hs]; exact hp
    have hex : expC 0 (addP G a s x y o).2.1 = expC 0 G.2.1 ++ [a.length] := by
      show expC 0 (a ++ [s + 1]) = _
      rw [es, expC_app, expC_app, List.replicate_succ', ← List.append_assoc]; simp
    rw [hex]
    have hxl := expC_len G.2.1 0
    have l1 := kG.1.2.2.1
    have l2 := kG.1.2.2.2.1
    have l3 := kG.1.2.2.2.2
    simp only [addP, getD_app1, hxl, l1, l2, l3, kk]
    by_cases hpe : p = G.2.1.sum
    · subst hpe
      simp
    · have hp3 : p < G.2.1.sum := by omega
      have := hG.2.2.2 p hp3
      simp [hpe, hp3]
      simpa using this
theorem op_point {S : St} {x y o : Int32} {V : Int32 → St → Prop} {Z : Int32 → Int32 → St → Prop} (ho : o = 0 ∨ o = 1) (h : Sim S) (hV : ∀ k S1, wp_X11_point S1 x y o (fun b S2 => Z k b S2) → V k S1) (hZ : ∀ k b S2, S2.2.1 9 0 = k → (k = 0 → S2.2.2.2 = b.toInt64) → Sim S2 → Z k b S2) : wp_L_point S x y o V := by
  obtain ⟨A, hk, hc, hm⟩ := h
  have hno : ∀ {gs : List Gl} {G : Gl} {a : List Nat} {s : Nat}, noP A.1 → A.1.1 = gs ++ [G] → G.2.1 = a ++ [s] → G.2.1.sum < 16 → False := by
    intro gs G a s q e es h16
    rcases q with q | ⟨gs', G', e', q⟩
    · rw [q] at e; simp at e
    · have := e.symm.trans e'
      have h2 := List.append_inj' this rfl
      simp at h2
      rw [← h2.2] at q
      rcases q with q | q
      · rw [q] at es; simp at es
      · omega
  refine cl_point ho hk hc (fun q => hV _ _ ?_) (fun q q2 q3 => hV _ _ ?_) (fun q q2 gs G a s e es h16 S1 hc1 hf => hV _ _ ?_)
  · refine mo_point ho hk hm (fun _ => hZ _ _ _ stM_self (fun z => absurd z (by decide)) ⟨A, hk, hc.mo (mfThr _), hm.thr _⟩) (fun z z2 => absurd q (fun w => w.elim z z2)) (fun z z2 => absurd q (fun w => w.elim z z2))
  · refine mo_point ho hk hm (fun z => absurd z (fun w => w.elim q q2)) (fun _ _ _ => hZ _ _ _ stM_self (fun z => absurd z (by decide)) ⟨A, hk, hc.mo (mfThr _), hm.thr _⟩) (fun _ _ gs G a s e es h16 => absurd (hno q3 e es h16) id)
  · have hk2 : okA ((gs ++ [addP G a s x y o], A.1.2), A.2) := ⟨okF_last hk.1 e (okG_point (hk.1.2.1 _ G (F_get e)) es h16 (near q) (near q2) ho), hk.2⟩
    refine mo_point (S := stO S1 (nI G.2.1.sum).toInt64) ho hk (hm.cl (cfO hf)) (fun z => absurd z (fun w => w.elim q q2)) (fun _ _ z => absurd (hno z e es h16) id) (fun _ _ gs' G' a' s' e' es' _ S2 f2 t2 hm2 => ?_)
    have h2 := List.append_inj' (e.symm.trans e') rfl
    simp at h2
    obtain ⟨h2, h3⟩ := h2
    subst h2 h3
    have h4 := List.append_inj' (es.symm.trans es') rfl
    simp at h4
    obtain ⟨h4, h5⟩ := h4
    subst h4 h5
    exact hZ _ _ _ t2 (fun _ => by rw [f2.2.1]; rfl) ⟨_, hk2, CA.mo (S := stO S1 (nI G.2.1.sum).toInt64) hc1 f2, hm2⟩
