/-! the class reads points, sizes and contours -/
abbrev nr (x : Int32) : Prop := ¬ x < -4000 ∧ x ≤ 4000
theorem nr_far {x : Int32} : nr x ↔ ¬ far x := ⟨fun h z => z.elim h.1 (fun y => y h.2), fun h => ⟨fun z => h (Or.inl z), Classical.byContradiction fun z => h (Or.inr z)⟩⟩
abbrev Ac : Type := List Int32 × List Int32 × List Int32
def onB (L : List Int32) (ps : Nat) : Int32 := if 128 ≤ vb L ps then 0 else 1
def pts (L : List Int32) (e : Nat) : Nat → Nat → Nat → Int32 → Int32 → Ac → Option (Ac × Nat)
  | 0, _, pd, _, _, a => some (a, pd)
  | n + 1, ps, pd, x, y, a => match rs L e (vb L ps % 128) pd with | none => none | some (dx, dy, pd') => if nr (x + dx) ∧ nr (y + dy) then pts L e n (ps + 1) pd' (x + dx) (y + dy) (a.1 ++ [x + dx], a.2.1 ++ [y + dy], a.2.2 ++ [onB L ps]) else none
theorem pts_b {L : List Int32} {e : Nat} : ∀ n ps pd x y a a' pd', pd ≤ e → pts L e n ps pd x y a = some (a', pd') → pd' ≤ e ∧ a'.1.length = a.1.length + n ∧ a'.2.1.length = a.2.1.length + n ∧ a'.2.2.length = a.2.2.length + n ∧ ((∀ v ∈ a.1, inR v) → ∀ v ∈ a'.1, inR v) ∧ ((∀ v ∈ a.2.1, inR v) → ∀ v ∈ a'.2.1, inR v) ∧ ((∀ v ∈ a.2.2, v = 0 ∨ v = 1) → ∀ v ∈ a'.2.2, v = 0 ∨ v = 1) := by
  intro n
  induction n with
  | zero =>
    intro ps pd x y a a' pd' hp h
    simp only [pts, Option.some.injEq, Prod.mk.injEq] at h
    rw [← h.1, ← h.2]
    exact ⟨hp, rfl, rfl, rfl, id, id, id⟩
  | succ n ih =>
    intro ps pd x y a a' pd' hp h
    simp only [pts] at h
    cases hr : rs L e (vb L ps % 128) pd with
    | none => rw [hr] at h; simp at h
    | some z =>
      obtain ⟨dx, dy, pd1⟩ := z
      rw [hr] at h
      simp only at h
      have hb := rs_b hr
      split at h
      · rename_i hn
        obtain ⟨i1, i2, i3, i4, i5, i6, i7⟩ := ih _ _ _ _ _ _ _ (by omega) h
        simp only [List.length_append, List.length_singleton] at i2 i3 i4
        refine ⟨i1, by omega, by omega, by omega, fun q => i5 (fun v hv => ?_), fun q => i6 (fun v hv => ?_), fun q => i7 (fun v hv => ?_)⟩
        · simp only [List.mem_append, List.mem_singleton] at hv
          rcases hv with hv | hv
          · exact q v hv
          · rw [hv]; exact near (nr_far.mp hn.1)
        · simp only [List.mem_append, List.mem_singleton] at hv
          rcases hv with hv | hv
          · exact q v hv
          · rw [hv]; exact near (nr_far.mp hn.2)
        · simp only [List.mem_append, List.mem_singleton] at hv
          rcases hv with hv | hv
          · exact q v hv
          · rw [hv]; unfold onB; split
            · exact Or.inl rfl
            · exact Or.inr rfl
      · simp at h
/-- a glyph's rows alone -/
def qF (q : Nat) (S S2 : St) : Prop := (∀ r, ¬ (4 * q ≤ r ∧ r < 4 * q + 4) → S2.1 r = S.1 r) ∧ (∀ k p, k < 1000 → k ≠ 2 → ¬ (k = 0 ∧ p = q) → S2.2.1 k p = S.2.1 k p) ∧ (rowsLe S → rowsLe S2)
theorem qF.refl (q : Nat) (S : St) : qF q S S := ⟨fun _ _ => rfl, fun _ _ _ _ _ => rfl, id⟩
theorem qF.trans {q : Nat} {S S1 S2 : St} (h : qF q S S1) (h2 : qF q S1 S2) : qF q S S2 := ⟨fun r a => (h2.1 r a).trans (h.1 r a), fun k p a b c => (h2.2.1 k p a b c).trans (h.2.1 k p a b c), fun z => h2.2.2 (h.2.2 z)⟩
theorem le_of1 {S S2 : St} (h : S2.1 = S.1) (hl : rowsLe S) : rowsLe S2 := fun r hr => by rw [h]; exact hl r hr
theorem cf.qF {c q : Nat} {S S2 : St} (h : cf c S S2) : qF q S S2 := ⟨fun r _ => by rw [h.1], fun k p a _ _ => h.2.2 k p (by omega), le_of1 h.1⟩
theorem sF.qF {c q : Nat} {S S2 : St} (h : sF c S S2) : qF q S S2 := ⟨fun r _ => by rw [h.1], fun k p a b _ => h.2.2 k p (by omega) b, le_of1 h.1⟩
theorem qF_X {q r : Nat} {S : St} {l : List Int32} (h : 4 * q ≤ r ∧ r < 4 * q + 4) (hl : l.length ≤ gw_cap r) : qF q S (stX S r l) := ⟨fun r' a => stX_ne (by omega), fun _ _ _ _ _ => rfl, fun z => le_stX z hl⟩
theorem cap_g {q : Nat} (h : q < 12) : gw_cap (4 * q) = 4 ∧ gw_cap (4 * q + 1) = 16 ∧ gw_cap (4 * q + 2) = 16 ∧ gw_cap (4 * q + 3) = 16 := by
  unfold gw_cap
  refine ⟨?_, ?_, ?_, ?_⟩
  · rw [if_pos (by omega), if_pos (by omega)]
  · rw [if_pos (by omega), if_neg (by omega)]
  · rw [if_pos (by omega), if_neg (by omega)]
  · rw [if_pos (by omega), if_neg (by omega)]
theorem cG_1 {S S2 : St} {q : Nat} {G : Gl} (h : cG S q G) (h1 : S2.1 = S.1) (h2 : S2.2.1 0 q = S.2.1 0 q) : cG S2 q G := by unfold cG; rw [h1, h2]; exact h
theorem sp_sizes {S : St} {q : Nat} {sz : List Nat} {P : Int32 → St → Prop} (hr : S.1 (4 * q) = sz.map nI) (hl : sz.length < 2 ^ 31) (h : P (nI sz.sum) S) : wp_X4_sizesTogether S q P := by
  intro X4 x4
  have hlen : rLen S (4 * q) = nI sz.length := by unfold rLen; rw [hr, List.length_map]
  have key : ∀ d i, i + d = sz.length → X4 S (nI (sz.take i).sum) (nI i) := by
    intro d
    induction d with
    | zero =>
      intro i hi
      rw [show i = sz.length by omega, List.take_of_length_le (Nat.le_refl _)]
      exact x4 _ _ _ ⟨fun _ => h, fun z => absurd (by rw [hlen]; exact Int32.le_refl _) z⟩
    | succ d ih =>
      intro i hi
      refine x4 _ _ _ ⟨fun z => absurd z (by rw [hlen]; exact nI_ge (by omega) (by omega)), fun _ x5 e5 x6 e6 => ?_⟩
      have eg : rGet S (4 * q) (nI i) = nI (sz[i]'(by omega)) := by
        rw [rGet_nI (by omega), hr, List.getD_eq_getElem?_getD, List.getElem?_map, List.getElem?_eq_getElem (by omega)]; rfl
      rw [e5, e6, nI_1, eg, nI_add]
      have := ih (i + 1) (by omega)
      rw [List.take_add_one, List.getElem?_eq_getElem (by omega), List.sum_append] at this
      simpa using this
  exact key sz.length 0 (by omega)
theorem ap_ok {S : St} {q o : Nat} {x y : Int32} {a : Int32} {sz : List Nat} {xs ys os : List Int32} (h : cG S q (a, sz, xs, ys, os)) (hq : q < 12) (hx : xs.length < 16) (hy : ys.length < 16) (ho : os.length < 16) (ho1 : o ≤ 1) : cG (fs_X4_addPoint S q x y (nI o)) q (a, sz, xs ++ [x], ys ++ [y], os ++ [nI o]) ∧ qF q S (fs_X4_addPoint S q x y (nI o)) ∧ (fs_X4_addPoint S q x y (nI o)).2 = S.2 := by
  obtain ⟨h1, h2, h3, h4, h5⟩ := h
  obtain ⟨c0, c1, c2, c3⟩ := cap_g hq
  have e : fs_X4_addPoint S q x y (nI o) = rAdd (rAdd (rAdd S (4 * q + 1) x) (4 * q + 2) y) (4 * q + 3) (nI o) := by
    unfold fs_X4_addPoint fs_X4_addPoint_29
    by_cases z : o = 0
    · rw [if_pos (by rw [z]; rfl), z]; rfl
    · rw [if_neg (nI_ne0 (by omega) (by omega)), show o = 1 by omega]; rfl
  rw [e]
  unfold rAdd
  have g1 : rApp S (4 * q + 1) [x] = stX S (4 * q + 1) (xs ++ [x]) := by rw [rApp_fit (by rw [h3, c1]; exact hx), h3]
  rw [g1]
  have g2 : rApp (stX S (4 * q + 1) (xs ++ [x])) (4 * q + 2) [y] = stX (stX S (4 * q + 1) (xs ++ [x])) (4 * q + 2) (ys ++ [y]) := by rw [rApp_fit (by rw [stX_ne (by omega), h4, c2]; exact hy), stX_ne (by omega), h4]
  rw [g2]
  have g3 : rApp (stX (stX S (4 * q + 1) (xs ++ [x])) (4 * q + 2) (ys ++ [y])) (4 * q + 3) [nI o] = stX (stX (stX S (4 * q + 1) (xs ++ [x])) (4 * q + 2) (ys ++ [y])) (4 * q + 3) (os ++ [nI o]) := by rw [rApp_fit (by rw [stX_ne (by omega), stX_ne (by omega), h5, c3]; exact ho), stX_ne (by omega), stX_ne (by omega), h5]
  rw [g3]
  refine ⟨⟨h1, by rw [stX_ne (by omega), stX_ne (by omega), stX_ne (by omega)]; exact h2, by rw [stX_ne (by omega), stX_ne (by omega), stX_at], by rw [stX_ne (by omega), stX_at], by rw [stX_at]⟩, ?_, rfl⟩
  have l1 : (xs ++ [x]).length ≤ gw_cap (4 * q + 1) := by rw [c1]; simp; omega
  have l2 : (ys ++ [y]).length ≤ gw_cap (4 * q + 2) := by rw [c2]; simp; omega
  have l3 : (os ++ [nI o]).length ≤ gw_cap (4 * q + 3) := by rw [c3]; simp; omega
  exact ((qF_X (by omega) l1).trans (qF_X (by omega) l2)).trans (qF_X (by omega) l3)
theorem sp_readPoints {S : St} {q c d eS e ps pd0 : Nat} {L : List Int32} {adv : Int32} {sz : List Nat} {P : Int32 → St → Prop} (hG : cG S q (adv, sz, [], [], [])) (hq : q < 12) (hs : sz.sum ≤ 16) (hs4 : sz.length ≤ 4) (hc : cu S c eS ps) (hd : cu S d e pd0) (hcd : c ≠ d) (hr : S.1 65 = L) (hb : ∀ b ∈ L, byt b) (heS : eS < 2 ^ 30) (he : e < 2 ^ 30) (hps : ps + sz.sum ≤ eS) (hpd : pd0 ≤ e)
    (h1 : ∀ a pd' S2, pts L e sz.sum ps pd0 0 0 ([], [], []) = some (a, pd') → qF q S S2 → cu S2 c eS (ps + sz.sum) → cu S2 d e pd' → cG S2 q (adv, sz, a) → P 1 S2) (h0 : ∀ S2, pts L e sz.sum ps pd0 0 0 ([], [], []) = none → qF q S S2 → P 0 S2) : wp_X5_readPoints S q c 65 d 65 P := by
  intro X15 X80 X100 x15 x80 x100
  have key : ∀ n i pd x y a S', i + n = sz.sum → pts L e sz.sum ps pd0 0 0 ([], [], []) = pts L e n (ps + i) pd x y a → qF q S S' → S'.1 65 = L → cu S' c eS (ps + i) → cu S' d e pd → pd ≤ e → cG S' q (adv, sz, a) → a.1.length = i → a.2.1.length = i → a.2.2.length = i → X15 S' x y (nI sz.sum) (nI i) := by
    intro n
    induction n with
    | zero =>
      intro i pd x y a S' hi ee f r65 uc ud hpd g l1 l2 l3
      simp only [pts] at ee
      rw [show i = sz.sum by omega] at uc ⊢
      exact x15 _ _ _ _ _ ⟨fun _ => h1 a pd S' ee f uc ud g, fun z => absurd (Int32.le_refl _) z⟩
    | succ n ih =>
      intro i pd x y a S' hi ee f r65 uc ud hpd g l1 l2 l3
      obtain ⟨xs, ys, os⟩ := a
      have l1 : xs.length = i := l1
      have l2 : ys.length = i := l2
      have l3 : os.length = i := l3
      simp only [pts] at ee
      obtain ⟨a1, a2⟩ := nx_ok uc r65 hb (show ps + i < eS by omega) (by omega)
      have v0 := vb_lt hb (ps + i)
      refine x15 _ _ _ _ _ ⟨fun z => absurd z (nI_ge (by omega) (by omega)), fun _ r24 S23 e24 e23 S25 e25 x26 e26 x27 e27 => ?_⟩
      have f23 := cf_next S' c 65
      rw [← e23] at f23 a2
      have ud23 : cu S23 d e pd := ⟨by rw [f23.2.2 _ _ (by omega)]; exact ud.1, by rw [f23.2.2 _ _ (by omega)]; exact ud.2.1, by rw [f23.2.2 _ _ (by omega)]; exact ud.2.2⟩
      have r23 : S23.1 65 = L := by rw [f23.1]; exact r65
      rw [e24, a1, md128v v0] at e25
      obtain ⟨t1, t2, t3⟩ := rstep ud23 r23 hb he hpd (show vb L (ps + i) % 128 < 128 by omega)
      rw [← e25] at t1 t2 t3
      have fq : qF q S S25 := (f.trans f23.qF).trans t1.qF
      have no : ∀ S'', S'' = S25 → pts L e sz.sum ps pd0 0 0 ([], [], []) = none → X80 S'' := fun S'' es hn => x80 _ (h0 _ hn (by rw [es]; exact fq))
      unfold wp_X2_isBroken
      cases hrs : rs L e (vb L (ps + i) % 128) pd with
      | none =>
        rw [hrs] at ee
        have b25 : S25.2.1 (1000 + d) 2 = 1 := t3 hrs
        rw [b25]
        exact ⟨Or.inr rfl, fun _ => no _ rfl ee, fun z => absurd z (by decide)⟩
      | some z =>
        obtain ⟨dx, dy, pd'⟩ := z
        rw [hrs] at ee
        simp only at ee
        obtain ⟨k1, k2, k3⟩ := t2 _ _ _ hrs
        have rb := rs_b hrs
        rw [k1] at e26
        rw [k2] at e27
        rw [e26, e27]
        refine ⟨Or.inl k3.2.2, fun z => absurd k3.2.2 z, fun _ => ?_⟩
        refine sp_far (fun hf => ⟨fun _ => no _ rfl ?_, fun z => absurd z (by decide)⟩) (fun hf => ⟨fun z => absurd rfl z, fun _ => sp_far (fun hf2 => ⟨fun z => absurd z (by decide), fun _ => no _ rfl ?_⟩) (fun hf2 => ⟨fun _ => ?_, fun z => absurd rfl z⟩)⟩)
        · rw [if_neg (fun w => (nr_far.mp w.1) hf)] at ee; exact ee
        · rw [if_neg (fun w => (nr_far.mp w.2) hf2)] at ee; exact ee
        · rw [if_pos ⟨nr_far.mpr hf, nr_far.mpr hf2⟩] at ee
          have uc25 : cu S25 c eS (ps + i + 1) := ⟨by rw [t1.2.2 _ _ (by omega) (by omega)]; exact a2.1, by rw [t1.2.2 _ _ (by omega) (by omega)]; exact a2.2.1, by rw [t1.2.2 _ _ (by omega) (by omega)]; exact a2.2.2⟩
          have g25 : cG S25 q (adv, sz, xs, ys, os) := cG_1 (cG_1 g f23.1 (f23.2.2 _ _ (by omega))) t1.1 (t1.2.2 _ _ (by omega) (by omega))
          have k100 : ∀ o : Nat, o ≤ 1 → nI o = onB L (ps + i) → X100 S25 (x + dx) (y + dy) (nI sz.sum) (nI i) (nI o) (y + dy) (x + dx) := by
            intro o ho eo
            refine x100 _ _ _ _ _ _ _ _ (fun r39 S38 e39 e38 x40 e40 => ?_)
            obtain ⟨p1, p2, p3⟩ := ap_ok (x := x + dx) (y := y + dy) g25 hq (by omega) (by omega) (by omega) ho
            rw [← e38] at p1 p2 p3
            rw [e40, nI_1]
            refine ih (i + 1) pd' (x + dx) (y + dy) _ S38 (by omega) ee (fq.trans p2) (by rw [p2.1 65 (by omega), t1.1]; exact r23) ?_ ?_ (by omega) (by rw [eo] at p1; exact p1) (by simp; omega) (by simp; omega) (by simp; omega)
            · unfold cu; rw [p3]; exact uc25
            · unfold cu; rw [p3]; exact k3
          rw [e24, a1]
          refine pk_le 128 (vb L (ps + i)) (fun w => k100 0 (by omega) ?_) (fun w => k100 1 (by omega) ?_) rfl
          · unfold onB; rw [if_pos w]; rfl
          · unfold onB; rw [if_neg (by omega)]; rfl
  refine sp_sizes hG.2.1 (by show sz.length < _; omega) ?_
  exact key sz.sum 0 pd0 0 0 ([], [], []) S (by omega) rfl (qF.refl q S) hr hc hd hpd hG rfl rfl rfl
/-! sizes -/
def szs (L : List Int32) (e : Nat) : Nat → Nat → List Nat → Option (List Nat × Nat)
  | 0, p, a => some (a, p)
  | c + 1, p, a => match ns L e p with | none => none | some (n, p') => if 1 ≤ n ∧ a.sum + n ≤ 16 then szs L e c p' (a ++ [n]) else none
theorem szs_b {L : List Int32} {e : Nat} (hb : ∀ b ∈ L, byt b) : ∀ c p a a' p', p ≤ e → szs L e c p a = some (a', p') → a.sum ≤ 16 → (∀ s ∈ a, 1 ≤ s) → p' ≤ e ∧ p ≤ p' ∧ a'.length = a.length + c ∧ a'.sum ≤ 16 ∧ ∀ s ∈ a', 1 ≤ s := by
  intro c
  induction c with
  | zero =>
    intro p a a' p' hp h hs h1
    simp only [szs, Option.some.injEq, Prod.mk.injEq] at h
    rw [← h.1, ← h.2]
    exact ⟨hp, Nat.le_refl _, rfl, hs, h1⟩
  | succ c ih =>
    intro p a a' p' hp h hs h1
    simp only [szs] at h
    cases hn : ns L e p with
    | none => rw [hn] at h; simp at h
    | some z =>
      obtain ⟨n, p1⟩ := z
      rw [hn] at h
      simp only at h
      have nb := ns_b hb hn
      split at h
      · rename_i w
        obtain ⟨i1, i2, i3, i4, i5⟩ := ih _ _ _ _ (by omega) h (by simp; omega) (fun s hs' => by
          simp only [List.mem_append, List.mem_singleton] at hs'
          rcases hs' with hs' | hs'
          · exact h1 s hs'
          · omega)
        simp at i3
        exact ⟨i1, by omega, by omega, i4, i5⟩
      · simp at h
theorem sum_rep0 (a : List Nat) (k : Nat) : (a ++ List.replicate k 0).sum = a.sum := by
  induction k with
  | zero => simp
  | succ k ih => rw [List.replicate_succ', ← List.append_assoc, List.sum_append, ih]; simp
theorem set_rep (a : List Nat) (k n : Nat) : ((a ++ List.replicate (k + 1) 0).map nI).set a.length (nI n) = ((a ++ [n]) ++ List.replicate k 0).map nI := by
  rw [List.replicate_succ, List.map_append, List.map_append, List.set_append]
  simp
theorem sp_readSizes {S : St} {q c e n p : Nat} {L : List Int32} {adv : Int32} {P : Int32 → St → Prop} (hG : cG S q (adv, List.replicate n 0, [], [], [])) (hq : q < 12) (hn : n ≤ 4) (hc : cu S c e p) (hr : S.1 65 = L) (hb : ∀ b ∈ L, byt b) (he : e < 2 ^ 30) (hp : p ≤ e)
    (h1 : ∀ a p' S2, szs L e n p [] = some (a, p') → qF q S S2 → cu S2 c e p' → cG S2 q (adv, a, [], [], []) → P 1 S2) (h0 : ∀ S2, szs L e n p [] = none → qF q S S2 → P 0 S2) : wp_X5_readSizes S c 65 q P := by
  intro X2 X38 x2 x38
  obtain ⟨c0, _⟩ := cap_g hq
  have key : ∀ m a p' S', a.length + m = n → a.sum ≤ 16 → szs L e n p [] = szs L e m p' a → p' ≤ e → qF q S S' → S'.1 65 = L → cu S' c e p' → cG S' q (adv, a ++ List.replicate m 0, [], [], []) → X2 S' (nI a.length) := by
    intro m
    induction m with
    | zero =>
      intro a p' S' hl hs ee hp' f r65 u g
      simp only [szs] at ee
      have cc : fv_X4_contourCount S' q = nI a.length := by
        show nI (S'.1 (4 * q)).length = _
        rw [g.2.1, List.length_map]; simp
      refine x2 _ _ ⟨fun _ => h1 a p' S' ee f u (by simpa using g), fun z => absurd (by rw [cc]; exact Int32.le_refl _) z⟩
    | succ m ih =>
      intro a p' S' hl hs ee hp' f r65 u g
      simp only [szs] at ee
      have cc : fv_X4_contourCount S' q = nI (a.length + (m + 1)) := by
        show nI (S'.1 (4 * q)).length = _
        rw [g.2.1, List.length_map]; simp
      refine x2 _ _ ⟨fun z => absurd z (by rw [cc]; exact nI_ge (by omega) (by omega)), fun _ r15 S14 e15 e14 => ?_⟩
      have f14 := cf_short S' c 65
      rw [← e14] at f14
      have fq := f.trans f14.qF
      have no : ∀ S'', S'' = S14 → szs L e n p [] = none → X38 S'' := fun S'' es hn => x38 _ (h0 _ hn (by rw [es]; exact fq))
      unfold wp_X2_isBroken
      cases hns : ns L e p' with
      | none =>
        rw [hns] at ee
        have b14 := sh_none u r65 hb he hp' hns
        rw [← e14] at b14
        have b14' : S14.2.1 (1000 + c) 2 = 1 := b14
        rw [b14']
        exact ⟨Or.inr rfl, fun _ => no _ rfl ee, fun z => absurd z (by decide)⟩
      | some z =>
        obtain ⟨v, p1⟩ := z
        rw [hns] at ee
        simp only at ee
        have nb := ns_b hb hns
        obtain ⟨k1, k2⟩ := sh_some u r65 hb he hns
        rw [← e14] at k2
        rw [e15, k1]
        refine ⟨Or.inl k2.2.2, fun z => absurd k2.2.2 z, fun _ => ?_⟩
        refine pk_lt v 1 (fun w => no _ rfl (by rw [ee, if_neg (by omega)])) (fun w => ?_) rfl
        have g14 : cG S14 q (adv, a ++ List.replicate (m + 1) 0, [], [], []) := cG_1 g f14.1 (f14.2.2 _ _ (by omega))
        refine sp_sizes (sz := a ++ List.replicate (m + 1) 0) g14.2.1 (by simp; omega) ?_
        rw [sum_rep0]
        rw [show (16 : Int32) - nI a.sum = nI (16 - a.sum) from mi (n := 16) hs]
        refine pk_le v (16 - a.sum) (fun y S23 e23 x24 e24 => ?_) (fun y => no _ rfl (by rw [ee, if_neg (by omega)])) rfl
        rw [if_pos (by omega)] at ee
        have e23' : S23 = stX S14 (4 * q) (((a ++ [v]) ++ List.replicate m 0).map nI) := by
          rw [e23]
          show rChange S14 (4 * q) (nI a.length) (nI v) = _
          rw [rCh_nI (by omega), g14.2.1]
          show stX S14 (4 * q) (((a ++ List.replicate (m + 1) 0).map nI).set a.length (nI v)) = _
          rw [set_rep]
        have f23 : qF q S14 S23 := by rw [e23']; exact qF_X (by omega) (by rw [c0]; simp; omega)
        rw [e24, nI_1]
        have := ih (a ++ [v]) p1 S23 (by simp; omega) (by simp; omega) ee (by omega) (fq.trans f23) (by rw [f23.1 65 (by omega), f14.1]; exact r65) (by rw [e23']; exact k2) ⟨by rw [e23']; exact g14.1, by rw [e23', stX_at], by rw [e23', stX_ne (by omega)]; exact g14.2.2.1, by rw [e23', stX_ne (by omega)]; exact g14.2.2.2.1, by rw [e23', stX_ne (by omega)]; exact g14.2.2.2.2⟩
        simpa using this
  exact key n [] p S (by simp) (by simp) rfl hp (qF.refl q S) hr hc (by simpa using hG)
