/-! the class reads the outlines -/
def cGs (S : St) (j : Nat) (gs : List Gl) : Prop := S.2.1 1 j = nI gs.length ∧ ∀ (g : Nat) (G : Gl), gs[g]? = some G → cG S (6 * j + g) G
def gF (j : Nat) (S S2 : St) : Prop := (∀ r, ¬ (24 * j ≤ r ∧ r < 24 * j + 24) → S2.1 r = S.1 r) ∧ (∀ k p, k < 1000 → k ≠ 2 → ¬ (k = 0 ∧ 6 * j ≤ p ∧ p < 6 * j + 6) → ¬ (k = 1 ∧ p = j) → S2.2.1 k p = S.2.1 k p) ∧ (rowsLe S → rowsLe S2)
theorem gF.refl (j : Nat) (S : St) : gF j S S := ⟨fun _ _ => rfl, fun _ _ _ _ _ _ => rfl, id⟩
theorem gF.trans {j : Nat} {S S1 S2 : St} (h : gF j S S1) (h2 : gF j S1 S2) : gF j S S2 := ⟨fun r a => (h2.1 r a).trans (h.1 r a), fun k p a b c d => (h2.2.1 k p a b c d).trans (h.2.1 k p a b c d), fun z => h2.2.2 (h.2.2 z)⟩
theorem qF.gF {j g : Nat} {S S2 : St} (h : qF (6 * j + g) S S2) (hg : g < 6) : gF j S S2 := ⟨fun r a => h.1 r (by omega), fun k p a b c _ => h.2.1 k p a b (by omega), h.2.2⟩
theorem cf.gF {j c : Nat} {S S2 : St} (h : cf c S S2) : gF j S S2 := ⟨fun r _ => by rw [h.1], fun k p a _ _ _ => h.2.2 k p (by omega), le_of1 h.1⟩
theorem gF_k {j : Nat} {S S2 : St} (h1 : S2.1 = S.1) (h2 : ∀ k p, k < 1000 → S2.2.1 k p = S.2.1 k p) : gF j S S2 := ⟨fun r _ => by rw [h1], fun k p a _ _ _ => h2 k p a, le_of1 h1⟩
theorem cG.of {S S2 : St} {q : Nat} {G : Gl} (h : cG S q G) (h1 : ∀ r, 4 * q ≤ r → r < 4 * q + 4 → S2.1 r = S.1 r) (h2 : S2.2.1 0 q = S.2.1 0 q) : cG S2 q G := ⟨by rw [h2]; exact h.1, by rw [h1 _ (by omega) (by omega)]; exact h.2.1, by rw [h1 _ (by omega) (by omega)]; exact h.2.2.1, by rw [h1 _ (by omega) (by omega)]; exact h.2.2.2.1, by rw [h1 _ (by omega) (by omega)]; exact h.2.2.2.2⟩
theorem cGs.of {S S2 : St} {j : Nat} {gs : List Gl} (h : cGs S j gs) (h1 : S2.1 = S.1) (h2 : ∀ k p, k < 1000 → S2.2.1 k p = S.2.1 k p) : cGs S2 j gs := ⟨by rw [h2 1 j (by omega)]; exact h.1, fun g G e => (h.2 g G e).of (fun r _ _ => by rw [h1]) (h2 0 _ (by omega))⟩
theorem cGs.cf {S S2 : St} {j c : Nat} {gs : List Gl} (h : cGs S j gs) (f : cf c S S2) : cGs S2 j gs := h.of f.1 (fun k p hk => f.2.2 k p (by omega))
theorem cGs_upd {S S2 : St} {j : Nat} {A C : List Gl} {G G' : Gl} (h : cGs S j (A ++ G :: C)) (f : qF (6 * j + A.length) S S2) (hg : cG S2 (6 * j + A.length) G') : cGs S2 j (A ++ G' :: C) := by
  refine ⟨by rw [f.2.1 1 j (by omega) (by omega) (by omega), h.1]; simp, fun g X e => ?_⟩
  by_cases hgA : g = A.length
  · subst hgA
    simp at e
    rw [← e]; exact hg
  · have e' : (A ++ G :: C)[g]? = some X := by
      rw [← e]
      by_cases hl : g < A.length
      · rw [List.getElem?_append_left hl, List.getElem?_append_left hl]
      · rw [List.getElem?_append_right (by omega), List.getElem?_append_right (by omega)]
        obtain ⟨m, hm⟩ : ∃ m, g - A.length = m + 1 := ⟨g - A.length - 1, by omega⟩
        rw [hm]; rfl
    exact (h.2 g X e').of (fun r a b => f.1 r (by omega)) (f.2.1 0 _ (by omega) (by omega) (by omega))
theorem ag_ok {S : St} {j : Nat} {gs : List Gl} (h : cGs S j gs) (hl : gs.length < 6) (hj : j ≤ 1) : fv_X3_addGlyph S j 0 = nI gs.length ∧ cGs (fs_X3_addGlyph S j 0) j (gs ++ [(0, [], [], [], [])]) ∧ gF j S (fs_X3_addGlyph S j 0) ∧ ∀ k p, 1000 ≤ k → (fs_X3_addGlyph S j 0).2.1 k p = S.2.1 k p := by
  have e1 : S.2.1 1 j + 1 = nI (gs.length + 1) := by rw [h.1, nI_1]
  have el1 : lgId (stM S 1 j (nI (gs.length + 1))) j = 6 * j + gs.length := lgId_nI (by rw [stM_self]) (by omega)
  unfold fv_X3_addGlyph fs_X3_addGlyph fv_X3_addGlyph_30 fs_X3_addGlyph_30
  have h6 : ¬ (6 : Int32) ≤ S.2.1 1 j := by rw [h.1]; exact nI_ge (b := 6) hl (by omega)
  rw [if_neg h6, if_neg h6, e1, el1]
  unfold fs_X4_begin rMake
  have key : ∀ k p, (stX (stX (stX (stX (stM (stM S 1 j (nI (gs.length + 1))) 0 (6 * j + gs.length) 0) (4 * (6 * j + gs.length)) []) (4 * (6 * j + gs.length) + 1) []) (4 * (6 * j + gs.length) + 2) []) (4 * (6 * j + gs.length) + 3) []).2.1 k p = if k = 0 ∧ p = 6 * j + gs.length then 0 else if k = 1 ∧ p = j then nI (gs.length + 1) else S.2.1 k p := by
    intro k p
    show (stM (stM S 1 j (nI (gs.length + 1))) 0 (6 * j + gs.length) 0).2.1 k p = _
    rw [stM_get, stM_get]
  have rows : ∀ r, (stX (stX (stX (stX (stM (stM S 1 j (nI (gs.length + 1))) 0 (6 * j + gs.length) 0) (4 * (6 * j + gs.length)) []) (4 * (6 * j + gs.length) + 1) []) (4 * (6 * j + gs.length) + 2) []) (4 * (6 * j + gs.length) + 3) []).1 r = if 4 * (6 * j + gs.length) ≤ r ∧ r < 4 * (6 * j + gs.length) + 4 then [] else S.1 r := by
    intro r
    show (stX (stX (stX (stX (stM (stM S 1 j (nI (gs.length + 1))) 0 (6 * j + gs.length) 0) (4 * (6 * j + gs.length)) []) (4 * (6 * j + gs.length) + 1) []) (4 * (6 * j + gs.length) + 2) []) (4 * (6 * j + gs.length) + 3) []).1 r = _
    rw [stX_get, stX_get, stX_get, stX_get]
    by_cases z : 4 * (6 * j + gs.length) ≤ r ∧ r < 4 * (6 * j + gs.length) + 4
    · rw [if_pos z]
      split
      · rfl
      · split
        · rfl
        · split
          · rfl
          · rw [if_pos (by omega)]
    · rw [if_neg z, if_neg (by omega), if_neg (by omega), if_neg (by omega), if_neg (by omega)]; rfl
  generalize stX (stX (stX (stX (stM (stM S 1 j (nI (gs.length + 1))) 0 (6 * j + gs.length) 0) (4 * (6 * j + gs.length)) []) (4 * (6 * j + gs.length) + 1) []) (4 * (6 * j + gs.length) + 2) []) (4 * (6 * j + gs.length) + 3) [] = S2 at *
  refine ⟨?_, ⟨?_, fun g G e => ?_⟩, ⟨fun r a => ?_, fun k p a b c d => ?_, fun z r hr => ?_⟩, fun k p hk => ?_⟩
  · rw [key, if_neg (by omega), if_pos (by omega), nI_pred]
  · rw [key, if_neg (by omega), if_pos (by omega)]; simp
  · by_cases hg : g < gs.length
    · rw [List.getElem?_append_left hg] at e
      exact (h.2 g G e).of (fun r a b => by rw [rows, if_neg (by omega)]) (by rw [key, if_neg (by omega), if_neg (by omega)])
    · have : g = gs.length := by
        have := (List.getElem?_eq_some_iff.mp e).1
        simp at this; omega
      subst this
      simp at e
      rw [← e]
      refine ⟨by rw [key, if_pos (by omega)], by rw [rows, if_pos (by omega)]; rfl, by rw [rows, if_pos (by omega)], by rw [rows, if_pos (by omega)], by rw [rows, if_pos (by omega)]⟩
  · rw [rows, if_neg (by omega)]
  · rw [key, if_neg (by omega), if_neg (by omega)]
  · rw [rows]; split
    · simp
    · exact z r hr
  · rw [key, if_neg (by omega), if_neg (by omega)]
theorem ac_ok {S : St} {q : Nat} {adv : Int32} {sz : List Nat} {a : Ac} (h : cG S q (adv, sz, a)) (hq : q < 12) (hl : sz.length < 4) : cG (fs_X4_addContour S q) q (adv, sz ++ [0], a) ∧ qF q S (fs_X4_addContour S q) ∧ (fs_X4_addContour S q).2 = S.2 := by
  obtain ⟨c0, _⟩ := cap_g hq
  have e : fs_X4_addContour S q = stX S (4 * q) ((sz ++ [0]).map nI) := by
    unfold fs_X4_addContour rAdd
    rw [rApp_fit (by rw [h.2.1, c0, List.length_map]; exact hl), h.2.1]
    congr 1
    simp
    rfl
  rw [e]
  refine ⟨⟨h.1, by rw [stX_at], by rw [stX_ne (by omega)]; exact h.2.2.1, by rw [stX_ne (by omega)]; exact h.2.2.2.1, by rw [stX_ne (by omega)]; exact h.2.2.2.2⟩, qF_X (by omega) (by rw [c0]; simp; omega), rfl⟩
/-- how many contours -/
def cts (L : List Int32) (e : Nat) : Nat → Nat → List Nat → Option (List Nat × Nat)
  | 0, p, a => some (a, p)
  | n + 1, p, a => if p < e then (if vb L p ≤ 4 then cts L e n (p + 1) (a ++ [vb L p]) else none) else none
def olH (L : List Int32) (e : Nat) : Option (List Nat × Nat) := if 0 < e then (if 1 ≤ vb L 0 ∧ vb L 0 ≤ 6 then cts L e (vb L 0) 1 [] else none) else none
def f0 (k : Nat) : Gl := (0, List.replicate k 0, [], [], [])
def fz (a : List Nat) : Gl := (0, a, [], [], [])
theorem cts_b {L : List Int32} {e : Nat} : ∀ n p a a' p', p ≤ e → cts L e n p a = some (a', p') → p' ≤ e ∧ a'.length = a.length + n ∧ ((∀ x ∈ a, x ≤ 4) → ∀ x ∈ a', x ≤ 4) := by
  intro n
  induction n with
  | zero =>
    intro p a a' p' hp h
    simp only [cts, Option.some.injEq, Prod.mk.injEq] at h
    rw [← h.1, ← h.2]; exact ⟨hp, rfl, id⟩
  | succ n ih =>
    intro p a a' p' hp h
    simp only [cts] at h
    split at h
    · split at h
      · rename_i q1 q2
        obtain ⟨i1, i2, i3⟩ := ih _ _ _ _ (by omega) h
        simp at i2
        refine ⟨i1, by omega, fun w => i3 (fun x hx => ?_)⟩
        simp only [List.mem_append, List.mem_singleton] at hx
        rcases hx with hx | hx
        · exact w x hx
        · omega
      · simp at h
    · simp at h
theorem olH_b {L : List Int32} {e : Nat} {cs : List Nat} {p : Nat} (h : olH L e = some (cs, p)) : p ≤ e ∧ 1 ≤ cs.length ∧ cs.length ≤ 6 ∧ ∀ x ∈ cs, x ≤ 4 := by
  unfold olH at h
  split at h
  · split at h
    · rename_i q1 q2
      obtain ⟨i1, i2, i3⟩ := cts_b _ _ _ _ _ (by omega) h
      simp at i2
      exact ⟨i1, by omega, by omega, i3 (by simp)⟩
    · simp at h
  · simp at h
theorem cu.k {S S2 : St} {c e p : Nat} (h : cu S c e p) (h2 : ∀ k p, 1000 ≤ k → S2.2.1 k p = S.2.1 k p) : cu S2 c e p := ⟨by rw [h2 _ _ (by omega)]; exact h.1, by rw [h2 _ _ (by omega)]; exact h.2.1, by rw [h2 _ _ (by omega)]; exact h.2.2⟩
theorem sp_readContours {S : St} {c e j : Nat} {L : List Int32} {P : Int32 → St → Prop} (h : cGs S j []) (hj : j ≤ 1) (hc : cu S c e 0) (hr : S.1 65 = L) (hb : ∀ b ∈ L, byt b) (he : e < 2 ^ 30)
    (h1 : ∀ cs p S2, olH L e = some (cs, p) → gF j S S2 → cu S2 c e p → cGs S2 j (cs.map f0) → P 1 S2) (h0 : ∀ S2, olH L e = none → gF j S S2 → P 0 S2) : wp_X5_readContours S c 65 j P := by
  intro X16 X20 X44 X60 x16 x20 x44 x60 r34 S33 e34 e33
  have f33 := cf_next S c 65
  rw [← e33] at f33
  rcases nx_cases hc hr hb he (by omega) with ⟨q, q1, q2⟩ | ⟨q, q1⟩
  · rw [← e33] at q2
    rw [e34, q1]
    have v0 := vb_lt hb 0
    have no : olH L e = none → X16 S33 := fun hn => x16 _ (h0 _ hn f33.gF)
    refine pk_lt (vb L 0) 1 (fun z => no (by unfold olH; rw [if_pos q, if_neg (by omega)])) (fun z => pk_le (vb L 0) 6 (fun z2 => ?_) (fun z2 => no (by unfold olH; rw [if_pos q, if_neg (by omega)])) rfl) rfl
    have eo : olH L e = cts L e (vb L 0) 1 [] := by unfold olH; rw [if_pos q, if_pos ⟨z, z2⟩]
    have key : ∀ m as p S', as.length + m = vb L 0 → olH L e = cts L e m p as → p ≤ e → gF j S S' → S'.1 65 = L → cu S' c e p → cGs S' j (as.map f0) → X20 S' (nI (vb L 0)) (nI as.length) := by
      intro m
      induction m with
      | zero =>
        intro as p S' hl ee hp f r65 u g
        simp only [cts] at ee
        rw [show as.length = vb L 0 by omega]
        exact x20 _ _ _ ⟨fun _ => h1 as p S' ee f u g, fun w => absurd (Int32.le_refl _) w⟩
      | succ m ih =>
        intro as p S' hl ee hp f r65 u g
        simp only [cts] at ee
        refine x20 _ _ _ ⟨fun w => absurd w (nI_ge (by omega) (by omega)), fun _ r21 S20 e21 e20 => ?_⟩
        have f20 := cf_next S' c 65
        rw [← e20] at f20
        have fS := f.trans f20.gF (j := j)
        have no : olH L e = none → X44 S20 := fun hn => x44 _ (h0 _ hn fS)
        unfold wp_X2_isBroken
        rcases nx_cases u r65 hb he hp with ⟨y, y1, y2⟩ | ⟨y, y1⟩
        · rw [← e20] at y2
          rw [if_pos y] at ee
          rw [e21, y1]
          have v1 := vb_lt hb p
          refine ⟨Or.inl y2.2.2, fun w => absurd y2.2.2 w, fun _ => pk_le (vb L p) 4 (fun w r27 S26 e27 e26 => ?_) (fun w => no (by rw [ee, if_neg (by omega)])) rfl⟩
          rw [if_pos w] at ee
          have g20 := g.cf f20
          obtain ⟨k1, k2, k3, k4⟩ := ag_ok g20 (by simp; omega) hj
          rw [← e27] at k1
          rw [← e26] at k2 k3 k4
          have el : (as.map f0).length = as.length := List.length_map f0
          rw [k1, el, glId_nI (by omega)]
          have loop : ∀ d i S'', i + d = vb L p → gF j S S'' → S''.1 65 = L → cu S'' c e (p + 1) → cGs S'' j (as.map f0 ++ [f0 i]) → X60 S'' (nI (vb L 0)) (nI as.length) (nI (vb L p)) (6 * j + as.length) (nI i) := by
            intro d
            induction d with
            | zero =>
              intro i S'' hi f'' r'' u'' g''
              have : i = vb L p := by omega
              subst this
              refine x60 _ _ _ _ _ _ ⟨fun _ x29 e29 => ?_, fun w => absurd (Int32.le_refl _) w⟩
              rw [e29, nI_1]
              have := ih (as ++ [vb L p]) (p + 1) S'' (by simp; omega) ee (by omega) f'' r'' u'' (by simpa using g'')
              simpa using this
            | succ d ihd =>
              intro i S'' hi f'' r'' u'' g''
              refine x60 _ _ _ _ _ _ ⟨fun w => absurd w (nI_ge (by omega) (by omega)), fun _ r31 S30 e31 e30 x32 e32 => ?_⟩
              have gg : cG S'' (6 * j + as.length) (f0 i) := g''.2 as.length (f0 i) (by simp)
              obtain ⟨p1, p2, p3⟩ := ac_ok gg (by omega) (by simp; omega)
              rw [← e30] at p1 p2 p3
              rw [e32, nI_1]
              refine ihd (i + 1) S30 (by omega) (f''.trans (p2.gF (by omega))) (by rw [p2.1 65 (by omega)]; exact r'') (u''.k (fun k p _ => by rw [p3])) ?_
              have := cGs_upd (A := as.map f0) (C := []) (G := f0 i) (G' := f0 (i + 1)) (by simpa using g'') (by rw [el]; exact p2) (by rw [el]; unfold f0; rw [List.replicate_succ']; exact p1)
              simpa using this
          exact loop (vb L p) 0 S26 (by omega) (fS.trans k3) (by rw [k3.1 65 (by omega), f20.1]; exact r65) (y2.k k4) (by simpa [f0] using k2)
        · rw [← e20] at y1
          have b20 : S20.2.1 (1000 + c) 2 = 1 := y1
          rw [b20]
          exact ⟨Or.inr rfl, fun _ => no (by rw [ee, if_neg (by omega)]), fun w => absurd w (by decide)⟩
    exact key (vb L 0) [] 1 S33 (by simp) eo (by omega) f33.gF (by rw [f33.1]; exact hr) q2 (by simpa using h.cf f33)
  · have hz := (nx_end (r := 65) hc (show e ≤ 0 by omega) (by omega)).1
    rw [e34, hz]
    exact ⟨fun _ => x16 _ (h0 _ (by unfold olH; rw [if_neg (by omega)]) f33.gF), fun z => absurd (by decide) z⟩
/-! all glyphs -/
def szL (L : List Int32) (e : Nat) : List Nat → Nat → List (List Nat) → Option (List (List Nat) × Nat)
  | [], p, acc => some (acc, p)
  | c :: cs, p, acc => match szs L e c p [] with | none => none | some (a, p') => szL L e cs p' (acc ++ [a])
def gls (L : List Int32) (e : Nat) : List (List Nat) → Nat → Nat → List Gl → Option (List Gl × Nat)
  | [], _, pd, acc => some (acc, pd)
  | sz :: r, ps, pd, acc => match pts L e sz.sum ps pd 0 0 ([], [], []) with | none => none | some (a, pd') => gls L e r (ps + sz.sum) pd' (acc ++ [(0, sz, a)])
def tot (s : List (List Nat)) : Nat := (s.map List.sum).sum
def ol (L : List Int32) (e : Nat) : Option (List Gl) := match olH L e with | none => none | some (cs, p) => match szL L e cs p [] with | none => none | some (s, p') => if p' + tot s ≤ e then (match gls L e s p' (p' + tot s) [] with | none => none | some (gs, pd) => if pd = e then some gs else none) else none
def okS (s : List Nat) : Prop := s.length ≤ 4 ∧ s.sum ≤ 16 ∧ ∀ x ∈ s, 1 ≤ x
theorem szL_b {L : List Int32} {e : Nat} (hb : ∀ b ∈ L, byt b) : ∀ cs p acc s p', p ≤ e → szL L e cs p acc = some (s, p') → (∀ x ∈ cs, x ≤ 4) → p' ≤ e ∧ s.length = acc.length + cs.length ∧ ((∀ a ∈ acc, okS a) → ∀ a ∈ s, okS a) := by
  intro cs
  induction cs with
  | nil =>
    intro p acc s p' hp h _
    simp only [szL, Option.some.injEq, Prod.mk.injEq] at h
    rw [← h.1, ← h.2]; exact ⟨hp, rfl, id⟩
  | cons c cs ih =>
    intro p acc s p' hp h h4
    simp only [szL] at h
    cases hs : szs L e c p [] with
    | none => rw [hs] at h; simp at h
    | some z =>
      obtain ⟨a, p1⟩ := z
      rw [hs] at h
      simp only at h
      obtain ⟨b1, b2, b3, b4, b5⟩ := szs_b hb _ _ _ _ _ hp hs (by simp) (by simp)
      obtain ⟨i1, i2, i3⟩ := ih _ _ _ _ b1 h (fun x hx => h4 x (by simp [hx]))
      simp at i2 b3
      refine ⟨i1, by simp; omega, fun w => i3 (fun x hx => ?_)⟩
      simp only [List.mem_append, List.mem_singleton] at hx
      rcases hx with hx | hx
      · exact w x hx
      · rw [hx]; exact ⟨by have := h4 c (by simp); omega, b4, b5⟩
theorem gls_b {L : List Int32} {e : Nat} : ∀ s ps pd acc gs pd', pd ≤ e → gls L e s ps pd acc = some (gs, pd') → (∀ a ∈ s, okS a) → gs.length = acc.length + s.length ∧ ((∀ G ∈ acc, okG G ∧ closed G) → ∀ G ∈ gs, okG G ∧ closed G) := by
  intro s
  induction s with
  | nil =>
    intro ps pd acc gs pd' hp h _
    simp only [gls, Option.some.injEq, Prod.mk.injEq] at h
    rw [← h.1]; exact ⟨rfl, id⟩
  | cons a s ih =>
    intro ps pd acc gs pd' hp h hs
    simp only [gls] at h
    cases hr : pts L e a.sum ps pd 0 0 ([], [], []) with
    | none => rw [hr] at h; simp at h
    | some z =>
      obtain ⟨x, pd1⟩ := z
      rw [hr] at h
      simp only at h
      obtain ⟨b1, b2, b3, b4, b5, b6, b7⟩ := pts_b _ _ _ _ _ _ _ _ hp hr
      obtain ⟨i1, i2⟩ := ih _ _ _ _ _ b1 h (fun y hy => hs y (by simp [hy]))
      simp at i1
      refine ⟨by simp; omega, fun w => i2 (fun G hG => ?_)⟩
      simp only [List.mem_append, List.mem_singleton] at hG
      rcases hG with hG | hG
      · exact w G hG
      · rw [hG]
        obtain ⟨s1, s2, s3⟩ := hs a (by simp)
        simp only [List.length_nil, Nat.zero_add] at b2 b3 b4
        exact ⟨⟨⟨s1, s2, b2, b3, b4⟩, b5 (by simp), b6 (by simp), b7 (by simp), ⟨0, by omega, rfl⟩, fun y hy => s3 y (List.dropLast_subset a hy)⟩, s3⟩
theorem cu_ini {S : St} {T : List (Nat × Nat × Nat)} {q r b e : Nat} : cu (cuIni (stT S T) q r (nI b) (nI e)) q e b := by
  unfold cuIni cIni
  refine ⟨by rw [stM_self], by rw [stM_p (by omega), stM_self], ?_⟩
  rw [stM_p (by omega), stM_p (by omega)]
  show (zeroM (stT S T) q).2.1 (1000 + q) 2 = 0
  unfold zeroM
  rw [stM_self]
theorem cui_1 {S : St} {T : List (Nat × Nat × Nat)} {q r : Nat} {b e : Int32} : (cuIni (stT S T) q r b e).1 = S.1 := rfl
theorem cui_k {S : St} {T : List (Nat × Nat × Nat)} {q r k p : Nat} {b e : Int32} (h : k ≠ 1000 + q) : (cuIni (stT S T) q r b e).2.1 k p = S.2.1 k p := by
  unfold cuIni cIni
  rw [stM_k h, stM_k h]
  show (zeroM (stT S T) q).2.1 k p = _
  unfold zeroM
  rw [stM_k h, stM_k h, stM_k h]; rfl
theorem cui_T {S : St} {T : List (Nat × Nat × Nat)} {q r : Nat} {b e : Int32} : ∃ t ∈ (cuIni (stT S (T ++ [(q, 5, 0)])) q r b e).2.2.1, t.1 = q := by
  refine ⟨(q, 2, r), ?_, rfl⟩
  show (q, 2, r) ∈ tlSet (T ++ [(q, 5, 0)]) (q, 2, r)
  unfold tlSet
  simp
theorem gF_T {j : Nat} {S : St} {T : List (Nat × Nat × Nat)} : gF j S (stT S T) := gF_k rfl (fun _ _ _ => rfl)
theorem gF_cui {j : Nat} {S : St} {T : List (Nat × Nat × Nat)} {q r : Nat} {b e : Int32} : gF j S (cuIni (stT S T) q r b e) := gF_k rfl (fun k p h => cui_k (by omega))
theorem cGs.cui {S : St} {j : Nat} {gs : List Gl} {T : List (Nat × Nat × Nat)} {q r : Nat} {b e : Int32} (h : cGs S j gs) : cGs (cuIni (stT S T) q r b e) j gs := h.of rfl (fun k p hk => cui_k (by omega))
theorem tot_cons (a : List Nat) (s : List (List Nat)) : tot (a :: s) = a.sum + tot s := by simp [tot]
theorem tot_app (s : List (List Nat)) (a : List Nat) : tot (s ++ [a]) = tot s + a.sum := by simp [tot]
theorem sp_readOutlines {S : St} {T0' : List (Nat × Nat × Nat)} {j e : Nat} {L : List Int32} {P : Int32 → St → Prop} (h : cGs S j []) (hj : j ≤ 1) (h67 : rGet S 67 0 = nI e) (hr : S.1 65 = L) (hb : ∀ b ∈ L, byt b) (he : e < 2 ^ 20)
    (h1 : ∀ gs S2, ol L e = some gs → gF j S S2 → cGs S2 j gs → P 1 S2) (h0 : ∀ S2, ol L e = none → gF j S S2 → P 0 S2) : wp_X5_readOutlines T0' S j P := by
  intro X39 X138 x39 x138 x49 e49 n9 hn9 S50 e50 S51 e51
  rw [h67] at e49
  rw [e49] at e51 ⊢
  have u51 : cu S51 n9 e 0 := by rw [e51, e50]; exact cu_ini (b := 0)
  have f51 : gF j S S51 := by rw [e51, e50]; exact gF_cui
  have g51 : cGs S51 j [] := by rw [e51, e50]; exact h.cui
  have r51 : S51.1 65 = L := by rw [e51, e50]; exact hr
  refine sp_readContours g51 hj u51 r51 hb (by omega) (fun cs p S52 ho f52 u52 g52 => ⟨fun _ => ?_, fun z => absurd z (by decide)⟩) (fun S52 ho f52 => ⟨fun z => absurd rfl z, fun _ => h0 _ (by unfold ol; rw [ho]) ((f51.trans f52).trans gF_T)⟩)
  have ob := olH_b ho
  have r52 : S52.1 65 = L := by rw [f52.1 65 (by omega)]; exact r51
  have eol : ol L e = match szL L e cs p [] with | none => none | some (s, p') => if p' + tot s ≤ e then (match gls L e s p' (p' + tot s) [] with | none => none | some (gs, pd) => if pd = e then some gs else none) else none := by unfold ol; rw [ho]
  -- the sizes
  have key : ∀ cr acc p' S', szL L e cs p [] = szL L e cr p' acc → acc.length + cr.length = cs.length → (∀ x ∈ cr, x ≤ 4) → (∀ a ∈ acc, okS a) → p' ≤ e → gF j S S' → S'.1 65 = L → cu S' n9 e p' → cGs S' j (acc.map fz ++ cr.map f0) → X39 S' n9 (nI e) (nI (tot acc)) (nI acc.length) := by
    intro cr
    induction cr with
    | nil =>
      intro acc p' S' ee hl _ hok hp f r65 u g
      simp only [szL] at ee
      rw [ee] at eol
      simp only at eol
      simp only [List.map_nil, List.append_nil] at g
      simp only [List.length_nil, Nat.add_zero] at hl
      have gc : fv_X3_glyphCount S' j = nI acc.length := by show S'.2.1 1 j = _; rw [g.1, List.length_map]
      have tl : tot acc ≤ 16 * 6 := by
        have : ∀ s : List (List Nat), (∀ a ∈ s, okS a) → tot s ≤ 16 * s.length := by
          intro s
          induction s with
          | nil => intro _; simp [tot]
          | cons a s ih =>
            intro hs
            have h1 := (hs a (by simp)).2.1
            have h2 := ih (fun x hx => hs x (by simp [hx]))
            rw [tot_cons, List.length_cons]; omega
        have := this acc hok
        omega
      refine x39 _ _ _ _ _ ⟨fun _ x29 e29 => ?_, fun z => absurd (by rw [gc]; exact Int32.le_refl _) z⟩
      have e29' : x29 = nI (p' + tot acc) := by
        rw [e29]
        show S'.2.1 (1000 + n9) 1 + _ = _
        rw [u.2.1, nI_add]
      rw [e29']
      refine pk_le (p' + tot acc) e (fun hle => ?_) (fun hgt => h0 _ (by rw [eol, if_neg (by omega)]) (f.trans gF_T)) rfl
      intro n100 hn100 S31 e31 S32 e32 n119 hn119 S33 e33 S34 e34
      rw [if_pos hle] at eol
      have pl : fv_X2_place S31 n9 65 = nI p' := by rw [e31]; exact u.2.1
      rw [pl] at e32
      have us : cu S32 n100 (p' + tot acc) p' := by rw [e32, e31]; exact cu_ini
      have ne : n100 ≠ n119 := by
        have := cui_T (S := S') (T := S'.2.2.1) (q := n100) (r := 65) (b := nI p') (e := nI (p' + tot acc))
        rw [← e31, ← e32] at this
        obtain ⟨t, ht, et⟩ := this
        rw [← et]; exact hn119 t ht
      have us34 : cu S34 n100 (p' + tot acc) p' := by
        rw [e34, e33]
        exact ⟨by rw [cui_k (by omega)]; exact us.1, by rw [cui_k (by omega)]; exact us.2.1, by rw [cui_k (by omega)]; exact us.2.2⟩
      have ud34 : cu S34 n119 e (p' + tot acc) := by rw [e34, e33]; exact cu_ini
      have f34 : gF j S S34 := (f.trans (by rw [e32, e31]; exact gF_cui : gF j S' S32)).trans (by rw [e34, e33]; exact gF_cui)
      have g34 : cGs S34 j (acc.map fz) := by rw [e34, e33, e32, e31]; exact (g.cui).cui
      have r34 : S34.1 65 = L := by rw [e34, e33, e32, e31]; exact r65
      -- the points
      have key2 : ∀ sr gs ps pd S', gls L e acc p' (p' + tot acc) [] = gls L e sr ps pd gs → gs.length + sr.length = acc.length → (∀ a ∈ sr, okS a) → ps + tot sr = p' + tot acc → pd ≤ e → gF j S S' → S'.1 65 = L → cu S' n100 (p' + tot acc) ps → cu S' n119 e pd → cGs S' j (gs ++ sr.map fz) → X138 S' n9 n100 n119 (nI gs.length) := by
        intro sr
        induction sr with
        | nil =>
          intro gs ps pd S' ee hl _ _ hpd f r65 us ud g
          simp only [gls] at ee
          rw [ee] at eol
          simp only at eol
          simp only [List.map_nil, List.append_nil] at g
          have gc : fv_X3_glyphCount S' j = nI gs.length := g.1
          refine x138 _ _ _ _ _ ⟨fun _ => ?_, fun z => absurd (by rw [gc]; exact Int32.le_refl _) z⟩
          unfold wp_X2_isAtEnd wp_X2_isAtEnd_22 wp_X2_isAtEnd_23
          refine ⟨fun z => absurd ud.2.2 z, fun _ => And.symm (pk_eq pd e (fun q => ⟨Or.inr rfl, Or.inr rfl, h1 gs _ (by rw [eol, if_pos q]) (f.trans gF_T) (g.of rfl (fun _ _ _ => rfl))⟩) (fun q => ⟨Or.inl rfl, Or.inl rfl, h0 _ (by rw [eol, if_neg q]) (f.trans gF_T)⟩) ud.2.1 ud.1)⟩
        | cons a sr ih2 =>
          intro gs ps pd S' ee hl hok2 htot hpd f r65 us ud g
          simp only [gls] at ee
          rw [tot_cons] at htot
          simp only [List.length_cons] at hl
          obtain ⟨k1, k2, k3⟩ := hok2 a (by simp)
          have gc : fv_X3_glyphCount S' j = nI (gs.length + (sr.length + 1)) := by
            show S'.2.1 1 j = _
            rw [g.1]; simp
          refine x138 _ _ _ _ _ ⟨fun z => absurd z (by rw [gc]; exact nI_ge (by omega) (by omega)), fun _ => ?_⟩
          rw [glId_nI (by omega)]
          have gg : cG S' (6 * j + gs.length) (fz a) := g.2 gs.length (fz a) (by simp)
          have no : ∀ S2, qF (6 * j + gs.length) S' S2 → pts L e a.sum ps pd 0 0 ([], [], []) = none → ol L e = none := fun S2 _ hn => by
            rw [hn] at ee; rw [ee] at eol; exact eol
          refine sp_readPoints gg (by omega) k2 k1 us ud ne r65 hb (by omega) (by omega) (by omega) hpd (fun x pd' S45 hp2 f45 us45 ud45 g45 => ⟨fun _ x48 e48 => ?_, fun z => absurd z (by decide)⟩) (fun S45 hp2 f45 => ⟨fun z => absurd rfl z, fun _ => h0 _ (no S45 f45 hp2) ((f.trans (f45.gF (by omega))).trans gF_T)⟩)
          rw [hp2] at ee
          simp only at ee
          have pb := pts_b _ _ _ _ _ _ _ _ hpd hp2
          rw [e48, nI_1]
          have := ih2 (gs ++ [(0, a, x)]) (ps + a.sum) pd' S45 ee (by simp; omega) (fun y hy => hok2 y (by simp [hy])) (by omega) pb.1 (f.trans (f45.gF (by omega))) (by rw [f45.1 65 (by omega)]; exact r65) us45 ud45 (by
            have := cGs_upd (A := gs) (C := sr.map fz) (G := fz a) (G' := (0, a, x)) (by simpa using g) f45 g45
            simpa using this)
          simpa using this
      exact key2 acc [] p' (p' + tot acc) S34 rfl (by simp) hok rfl hle f34 r34 us34 ud34 (by simpa using g34)
    | cons c cr ih =>
      intro acc p' S' ee hl h4 hok hp f r65 u g
      simp only [szL] at ee
      simp only [List.length_cons] at hl
      have gc : fv_X3_glyphCount S' j = nI (acc.length + (cr.length + 1)) := by
        show S'.2.1 1 j = _
        rw [g.1]; simp
      refine x39 _ _ _ _ _ ⟨fun z => absurd z (by rw [gc]; exact nI_ge (by omega) (by omega)), fun _ => ?_⟩
      rw [glId_nI (by omega)]
      have el : (acc.map fz).length = acc.length := List.length_map fz
      have gg : cG S' (6 * j + acc.length) (f0 c) := g.2 acc.length (f0 c) (by rw [List.getElem?_append_right (by omega)]; simp)
      refine sp_readSizes gg (by omega) (h4 c (by simp)) u r65 hb (by omega) hp (fun a p1 S35 hs f35 u35 g35 => ⟨fun _ => ?_, fun z => absurd z (by decide)⟩) (fun S35 hs f35 => ⟨fun z => absurd rfl z, fun _ => h0 _ (by rw [hs] at ee; rw [ee] at eol; exact eol) ((f.trans (f35.gF (by omega))).trans gF_T)⟩)
      rw [hs] at ee
      simp only at ee
      obtain ⟨b1, b2, b3, b4, b5⟩ := szs_b hb _ _ _ _ _ hp hs (by simp) (by simp)
      rw [glId_nI (by omega)]
      refine sp_sizes (sz := a) g35.2.1 (by simp at b3; have := h4 c (by simp); omega) (fun x40 e40 x41 e41 => ?_)
      rw [e40, e41, nI_add, nI_1]
      have := ih (acc ++ [a]) p1 S35 ee (by simp; omega) (fun x hx => h4 x (by simp [hx])) (fun x hx => by
        simp only [List.mem_append, List.mem_singleton] at hx
        rcases hx with hx | hx
        · exact hok x hx
        · rw [hx]; simp at b3; exact ⟨by have := h4 c (by simp); omega, b4, b5⟩) b1 (f.trans (f35.gF (by omega))) (by rw [f35.1 65 (by omega)]; exact r65) u35 (by
          have := cGs_upd (A := acc.map fz) (C := cr.map f0) (G := f0 c) (G' := fz a) (by simpa using g) (by rw [el]; exact f35) (by rw [el]; exact g35)
          simpa using this)
      rw [tot_app] at this
      simpa using this
  exact key cs [] p S52 rfl (by simp) ob.2.2.2 (by simp) ob.1 (f51.trans f52) r52 u52 (by simpa using g52)
