/-! tables that are there; what the reference lays of a table -/
def hasT (F : Fo) (t : Nat) : Bool := if t < 2 then decide (0 < F.1.length) else decide (0 < (F.2 t).length)
def cntT (F : Fo) (n : Nat) : Nat := ((List.range n).filter (hasT F)).length
def tabL (F : Fo) (t : Nat) : List Int32 := if t = 0 then T0 F.1 else if t = 1 then T1 F.1 F.1.length else F.2 t
theorem cntT_succ (F : Fo) (n : Nat) : cntT F (n + 1) = cntT F n + (if hasT F n then 1 else 0) := by
  unfold cntT
  rw [List.range_succ, List.filter_append, List.length_append]
  by_cases h : hasT F n <;> simp [h]
theorem cntT_le (F : Fo) (n : Nat) : cntT F n ≤ n := by
  unfold cntT
  have := List.length_filter_le (hasT F) (List.range n)
  simpa using this
theorem cF_X {S : St} {j r : Nat} {F : Fo} {l : List Int32} (h : cF S j F) (hk : okF F) (hj : j ≤ 1) (hr : r = 48 + 7 * j ∨ r = 48 + 7 * j + 1 ∨ 62 ≤ r) : cF (stX S r l) j F := by
  refine ⟨h.1, fun g G e => cG_X (h.2.1 g G e) (by have := g_lt hk e; omega) (by omega), fun t t1 t2 => ?_⟩
  rw [stX_ne (by omega)]
  exact h.2.2 t t1 t2
theorem sp_hasTable {S : St} {j t : Nat} {F : Fo} {P : Int32 → St → Prop} (hc : cF S j F) (hk : okF F) (ht : t < 7) (h1 : hasT F t = true → P 1 S) (h0 : hasT F t = false → P 0 S) : wp_X3_hasTable S j (nI t) P := by
  have h6 := hk.1
  unfold wp_X3_hasTable wp_X3_hasTable_36
  refine pk_le 2 t (fun h2 => ?_) (fun h2 => ?_) rfl
  · have hl := (hk.2.2.2.2 t ht).1
    refine pk_le (F.2 t).length 0 (fun h => ⟨Or.inl rfl, h0 ?_⟩) (fun h => ⟨Or.inr rfl, h1 ?_⟩) (by rw [rwId_nI ht]; unfold rLen; rw [hc.2.2 t h2 ht])
    · unfold hasT; rw [if_neg (by omega)]; simp; exact List.eq_nil_of_length_eq_zero (by omega)
    · unfold hasT; rw [if_neg (by omega)]; simp [h]
  · refine pk_le F.1.length 0 (fun h => ⟨Or.inl rfl, h0 ?_⟩) (fun h => ⟨Or.inr rfl, h1 ?_⟩) hc.1
    · unfold hasT; rw [if_pos (by omega)]; simp; exact List.eq_nil_of_length_eq_zero (by omega)
    · unfold hasT; rw [if_pos (by omega)]; simp [h]
theorem sp_tableCount {S : St} {j : Nat} {F : Fo} {P : Int32 → St → Prop} (hc : cF S j F) (hk : okF F) (h : P (nI (cntT F 7)) S) : wp_X3_tableCount S j P := by
  intro X4 X24 x4 x24
  have key : ∀ d, d ≤ 7 → X4 S (nI (cntT F (7 - d))) (nI (7 - d)) := by
    intro d
    induction d with
    | zero => intro _; exact x4 _ _ _ ⟨fun _ => h, fun z => absurd (by decide) z⟩
    | succ d ih =>
      intro hd
      have hs := cntT_succ F (7 - (d + 1))
      rw [show 7 - (d + 1) + 1 = 7 - d by omega] at hs
      have hl := cntT_le F (7 - (d + 1))
      refine x4 _ _ _ ⟨fun z => absurd z (nI_ge (b := 7) (by omega) (by omega)), fun _ => ?_⟩
      refine sp_hasTable hc hk (by omega) (fun hb => ⟨fun z => absurd z (by decide), fun _ => x24 _ _ _ _ (fun x11 e11 x12 e12 => ?_)⟩) (fun hb => ⟨fun _ => x24 _ _ _ _ (fun x11 e11 x12 e12 => ?_), fun z => absurd rfl z⟩)
      · rw [e11, e12, nI_1, nI_1, show 7 - (d + 1) + 1 = 7 - d by omega]
        rw [hb] at hs
        rw [if_pos rfl] at hs
        rw [← hs]; exact ih (by omega)
      · rw [e11, e12, nI_1, show 7 - (d + 1) + 1 = 7 - d by omega]
        rw [hb] at hs
        rw [if_neg (by decide), Nat.add_zero] at hs
        rw [show nI (cntT F (7 - (d + 1))) + 0 = nI (cntT F (7 - (d + 1)) + 0) from nI_add _ 0, Nat.add_zero, ← hs]; exact ih (by omega)
  have := key 7 (Nat.le_refl 7)
  exact this
theorem sm_has {S : St} {t : Nat} {F : Fo} {P : Int32 → St → Prop} (hm : mF S F) (hk : okF F) (ht : t < 7) (h1 : hasT F t = true → P 1 S) (h0 : hasT F t = false → P 0 S) : wp_X11_has S (nI t) P := by
  have h6 := hk.1
  unfold wp_X11_has wp_X11_has_34
  refine pk_le 2 t (fun h2 => ⟨pk_in t _ (show t < 7 from ht) rfl (by decide), ?_⟩) (fun h2 => ?_) rfl
  · have hl := (hk.2.2.2.2 t ht).1
    rw [nI_clamp (by omega)]
    refine pk_le (F.2 t).length 0 (fun h => ⟨Or.inl rfl, h0 ?_⟩) (fun h => ⟨Or.inr rfl, h1 ?_⟩) (hm.2.2 t ht).1
    · unfold hasT; rw [if_neg (by omega)]; simp; exact List.eq_nil_of_length_eq_zero (by omega)
    · unfold hasT; rw [if_neg (by omega)]; simp [h]
  · refine pk_le F.1.length 0 (fun h => ⟨Or.inl rfl, h0 ?_⟩) (fun h => ⟨Or.inr rfl, h1 ?_⟩) hm.1
    · unfold hasT; rw [if_pos (by omega)]; simp; exact List.eq_nil_of_length_eq_zero (by omega)
    · unfold hasT; rw [if_pos (by omega)]; simp [h]
theorem sm_tables {S : St} {F : Fo} {P : Int32 → St → Prop} (hm : mF S F) (hk : okF F) (h : P (nI (cntT F 7)) S) : wp_X11_tables S P := by
  intro X4 X25 x4 x25
  have key : ∀ d, d ≤ 7 → X4 S (nI (cntT F (7 - d))) (nI (7 - d)) := by
    intro d
    induction d with
    | zero => intro _; exact x4 _ _ _ ⟨fun _ => h, fun z => absurd (by decide) z⟩
    | succ d ih =>
      intro hd
      have hs := cntT_succ F (7 - (d + 1))
      rw [show 7 - (d + 1) + 1 = 7 - d by omega] at hs
      refine x4 _ _ _ ⟨fun z => absurd z (nI_ge (b := 7) (by omega) (by omega)), fun _ => ?_⟩
      refine sm_has hm hk (by omega) (fun hb => ⟨fun z => absurd z (by decide), fun _ => x25 _ _ _ (fun x12 e12 => ?_)⟩) (fun hb => ⟨fun _ => x25 _ _ _ (fun x12 e12 => ?_), fun z => absurd rfl z⟩)
      · rw [e12, nI_1, nI_1, show 7 - (d + 1) + 1 = 7 - d by omega]
        rw [hb] at hs
        rw [if_pos rfl] at hs
        rw [← hs]; exact ih (by omega)
      · rw [e12, nI_1, show 7 - (d + 1) + 1 = 7 - d by omega]
        rw [hb] at hs
        rw [if_neg (by decide), Nat.add_zero] at hs
        rw [← hs]; exact ih (by omega)
  exact key 7 (Nat.le_refl 7)
theorem mF.keep {K : Nat → Nat → Prop} {S S1 : St} {F : Fo} (h : mF S F) (hf : fr K S S1) (hK : ∀ k p, 10 ≤ k → k ≤ 18 → ¬ K k p) (hK2 : ¬ K 9 1) : mF S1 F := by
  refine ⟨by rw [hf.2.2 _ _ hK2]; exact h.1, fun g G e => (h.2.1 g G e).keep hf (fun k p a b => hK k p a (by omega)), fun t ht => ?_⟩
  rw [hf.2.2 _ _ (hK 17 t (by omega) (by omega))]
  refine ⟨(h.2.2 t ht).1, fun k hk => ?_⟩
  rw [hf.2.2 _ _ (hK 18 _ (by omega) (by omega))]
  exact (h.2.2 t ht).2 k hk
theorem mF.keepL {S S1 : St} {F : Fo} {kk pp : Nat} (h : mF S F) (hf : fr (kL kk pp) S S1) (h1 : 19 ≤ kk) (h2 : pp ≠ 1) : mF S1 F := h.keep hf (fun k p a b z => by unfold kL at z; omega) (fun z => by unfold kL at z; omega)
theorem sm_sizeBefore {S : St} {F : Fo} {g : Nat} {P : Int32 → St → Prop} (hm : mF S F) (hk : okF F) (hcl : ∀ (g : Nat) (G : Gl), F.1[g]? = some G → closed G) (hg : g < F.1.length) (hP : ∀ S2, fr (kL 31 5) S S2 → (∀ k, k < 100 → S2.2.1 31 k = S.2.1 31 k) → P (nI (T0 (F.1.take g)).length) S2) : wp_X11_sizeBefore S (nI g) P := by
  intro X8 x8 S10 e10
  have h6 := hk.1
  have f10 : fr (kL 31 5) S S10 := by
    rw [e10]; exact ⟨rfl, rfl, fun k p hn => by rw [stM_get, if_neg (fun z => hn (Or.inr z))]⟩
  have m10 : mL S10 31 5 ((List.range 100).map (S.2.1 31)) := by
    rw [e10]
    refine ⟨by rw [stM_self]; rfl, fun k hkk => ?_⟩
    simp only [List.length_map, List.length_range] at hkk
    rw [stM_k (by omega), List.getD_eq_getElem?_getD, List.getElem?_map, List.getElem?_range hkk]
    rfl
  have := up_loop2 (X := X8) (fun i S' => fr (kL 31 5) S S' ∧ mL S' 31 5 ((List.range 100).map (S.2.1 31) ++ T0 (F.1.take i))) (N := g) (fun S' ⟨f, h⟩ => x8 _ _ ⟨fun _ => ?_, fun z => absurd (Int32.le_refl _) z⟩) (fun i S' hi ⟨f, h⟩ hx => x8 _ _ ⟨fun z => absurd z (nI_ge hi (by omega)), fun _ => ?_⟩) 0 S10 (by omega) ⟨f10, by simpa [T0] using m10⟩
  · rw [nI_0] at this; exact this
  · have hl := T0_len hk.2.1 g
    have e1 : S'.2.1 9 5 - 100 = nI (T0 (F.1.take g)).length := by
      rw [h.1, List.length_append, List.length_map, List.length_range, show (100 : Int32) = nI 100 from rfl, pk_sub (by omega)]
      congr 1; omega
    rw [e1]
    refine hP S' f (fun k hkk => ?_)
    rw [h.2 k (by simp; omega), List.getD_eq_getElem?_getD, List.getElem?_append_left (by simp; omega), List.getElem?_map, List.getElem?_range hkk]
    rfl
  · have hgl : i < F.1.length := by omega
    have eG := List.getElem?_eq_getElem hgl
    have hl := T0_len hk.2.1 i
    refine sm_layGlyph ((hm.keepL f (by omega) (by omega)).2.1 i _ eG) (hk.2.1 i _ eG) (hcl i _ eG) (by omega) h (by simp; omega) (fun S2 f2 h2 x9 e9 => ?_)
    rw [e9, nI_1]
    refine hx S2 ⟨f.trans f2, ?_⟩
    rw [T0_take eG, ← List.append_assoc]
    exact h2
theorem sm_layTable {S : St} {F : Fo} {t : Nat} {P : St → Prop} (hm : mF S F) (hk : okF F) (hcl : ∀ (g : Nat) (G : Gl), F.1[g]? = some G → closed G) (ht : t < 7) (hP : ∀ S2, fr (kL 31 5) S S2 → mL S2 31 5 (tabL F t) → P S2) : wp_X11_layTable S (nI t) P := by
  intro X7 X40 X63 X71 x7 x40 x63 x71 S48 e48
  have h6 := hk.1
  have h20 := (hk.2.2.2.2 t ht).1
  have f48 : fr (kL 31 5) S S48 := by
    rw [e48]; exact ⟨rfl, rfl, fun k p hn => by rw [stM_get, if_neg (fun z => hn (Or.inr z))]⟩
  have m48 : mL S48 31 5 [] := by
    rw [e48]; exact ⟨by rw [stM_self]; rfl, fun k hkk => by simp at hkk⟩
  have mk : ∀ {S'}, fr (kL 31 5) S S' → mF S' F := fun f => hm.keepL f (by omega) (by omega)
  have e71 : t = 1 → ∀ S', fr (kL 31 5) S S' → S'.2.1 9 5 = nI 0 → X71 S' 0 := by
    intro t1 S' f0 f5
    have := up_loop2 (X := X71) (fun i S' => fr (kL 31 5) S S' ∧ S'.2.1 9 5 = nI (4 * i) ∧ ∀ k, k < 4 * i → S'.2.1 31 k = (T1 F.1 i).getD k 0) (N := F.1.length) (fun S' ⟨f, h5, h⟩ => x71 _ _ ⟨fun _ => ?_, fun z => absurd (by rw [(mk f).1]; exact Int32.le_refl _) z⟩) (fun i S' hi ⟨f, h5, h⟩ hx => x71 _ _ ⟨fun z => absurd z (by rw [(mk f).1]; exact nI_ge hi (by omega)), fun _ => ?_⟩) 0 S' (by omega) ⟨f0, f5, fun k hkk => by omega⟩
    · rw [nI_0] at this; exact this
    · refine hP S' f ?_
      unfold tabL
      rw [if_neg (by omega), if_pos t1]
      refine ⟨by rw [h5, T1_len], fun k hkk => h k (by rw [T1_len] at hkk; exact hkk)⟩
    · have eG := List.getElem?_eq_getElem hi
      generalize hGG : F.1[i] = G at eG
      obtain ⟨a, ha, eadv⟩ := (hk.2.1 i G eG).2.2.2.2.1
      have hl := T0_len hk.2.1 i
      refine sm_sizeBefore (mk f) hk hcl hi (fun S36 f36 k36 S38 e38 => ⟨pk_in i _ (show i < 6 by omega) rfl (by decide), ?_⟩)
      rw [nI_clamp (by omega)]
      have f38 : fr (kL 31 5) S S38 := (f.trans f36).trans (by rw [e38]; exact ⟨rfl, rfl, fun k p hn => by rw [stM_get, if_neg (fun z => hn (Or.inr z))]⟩)
      have m38 : mL S38 31 5 (T1 F.1 i) := by
        refine ⟨by rw [e38, stM_self, T1_len]; exact pk_mul 4 i, fun k hkk => ?_⟩
        rw [T1_len] at hkk
        rw [e38, stM_k (by omega), k36 k (by omega)]
        exact h k hkk
      have lT := T1_len F.1 i
      have av : ∀ {S'}, fr (kL 31 5) S S' → S'.2.1 10 i = G.1 := fun f' => ((mk f').2.1 i G eG).1
      rw [av f38]
      refine sm_lay m38 (by omega) (fun S39 f39 h39 => ⟨pk_in i _ (show i < 6 by omega) rfl (by decide), ?_⟩)
      rw [av (f38.trans f39)]
      refine sm_lay h39 (by simp; omega) (fun S41 f41 h41 => ?_)
      refine sm_lay h41 (by simp; omega) (fun S43 f43 h43 => ?_)
      refine sm_lay h43 (by simp; omega) (fun S45 f45 h45 x47 e47 => ?_)
      rw [e47, nI_1]
      have e4 : ((((T1 F.1 i ++ [(G.1 >>> (8 &&& 31)) &&& 255]) ++ [G.1 &&& 255]) ++ [(nI (T0 (F.1.take i)).length >>> (8 &&& 31)) &&& 255]) ++ [nI (T0 (F.1.take i)).length &&& 255]) = T1 F.1 (i + 1) := by
        unfold T1
        rw [flat_succ]
        unfold adB
        rw [two_bytes, two_bytes, List.getD_eq_getElem?_getD, eG]
        simp
      rw [e4] at h45
      have lT2 := T1_len F.1 (i + 1)
      refine hx S45 ⟨((((f38.trans f39).trans f41).trans f43).trans f45), by rw [h45.1, lT2], fun k hkk => h45.2 k (by omega)⟩
  have e63 : ∀ S', fr (kL 31 5) S S' → (t ≠ 1 → mL S' 31 5 (tabL F t)) → (t = 1 → S'.2.1 9 5 = nI 0) → X63 S' := fun S' f h hz => x63 _ ⟨fun z => e71 ((nI_eq (b := 1) (by omega) (by omega)).mp z) S' f (hz ((nI_eq (b := 1) (by omega) (by omega)).mp z)), fun z => hP S' f (h (fun y => z (by rw [y]; rfl)))⟩
  have e40 : ∀ S', fr (kL 31 5) S S' → mL S' 31 5 (F.2 t) → X40 S' 0 := by
    intro S' f h
    by_cases t0 : t = 0
    · have hr : F.2 t = [] := hk.2.2.2.1 t (by omega)
      rw [hr] at h
      have := up_loop2 (X := X40) (fun i S' => fr (kL 31 5) S S' ∧ mL S' 31 5 (T0 (F.1.take i))) (N := F.1.length) (fun S' ⟨f, h⟩ => x40 _ _ ⟨fun _ => ?_, fun z => absurd (by rw [(mk f).1]; exact Int32.le_refl _) z⟩) (fun i S' hi ⟨f, h⟩ hx => x40 _ _ ⟨fun z => absurd z (by rw [(mk f).1]; exact nI_ge hi (by omega)), fun _ => ⟨fun z => absurd (by rw [t0]; rfl) z, fun _ => ?_⟩⟩) 0 S' (by omega) ⟨f, by simpa [T0] using h⟩
      · rw [nI_0] at this; exact this
      · refine e63 S' f (fun _ => ?_) (fun z => by omega)
        rw [List.take_of_length_le (Nat.le_refl _)] at h
        unfold tabL; rw [if_pos t0]; exact h
      · have eG := List.getElem?_eq_getElem hi
        have hl := T0_len hk.2.1 i
        refine sm_layGlyph ((mk f).2.1 i _ eG) (hk.2.1 i _ eG) (hcl i _ eG) (by omega) h (by omega) (fun S2 f2 h2 x33 e33 => ?_)
        rw [e33, nI_1]
        exact hx S2 ⟨f.trans f2, by rw [T0_take eG]; exact h2⟩
    · have : X63 S' := e63 S' f (fun t1 => by unfold tabL; rw [if_neg t0, if_neg t1]; exact h) (fun t1 => by rw [h.1, hk.2.2.2.1 t (by omega)]; rfl)
      exact x40 _ _ ⟨fun _ => this, fun _ => ⟨fun _ => this, fun z => absurd ((nI_eq (b := 0) (by omega) (by omega)).mp z) t0⟩⟩
  have := up_loop2 (X := X7) (fun i S' => fr (kL 31 5) S S' ∧ mL S' 31 5 ((F.2 t).take i)) (N := (F.2 t).length) (fun S' ⟨f, h⟩ => x7 _ _ ⟨pk_in t _ (show t < 7 from ht) rfl (by decide), ?_⟩) (fun i S' hi ⟨f, h⟩ hx => x7 _ _ ⟨pk_in t _ (show t < 7 from ht) rfl (by decide), ?_⟩) 0 S48 (by omega) ⟨f48, by simpa using m48⟩
  · rw [nI_0] at this; exact this
  · rw [nI_clamp (by omega), ((mk f).2.2 t ht).1]
    rw [List.take_of_length_le (Nat.le_refl _)] at h
    exact ⟨fun _ => e40 S' f h, fun z => absurd (Int32.le_refl _) z⟩
  · rw [nI_clamp (by omega), ((mk f).2.2 t ht).1]
    have e20 : 20 * nI t + nI i = nI (20 * t + i) := by simp only [lit32, pk_mul, nI_add]
    refine ⟨fun z => absurd z (nI_ge hi (by omega)), fun _ => ?_⟩
    rw [e20, nI_clamp (by omega), ((mk f).2.2 t ht).2 i hi]
    refine ⟨pk_in _ _ (show _ < 140 by omega) rfl (by decide), ?_⟩
    refine sm_lay h (by simp; omega) (fun S2 f2 h2 x28 e28 => ?_)
    rw [e28, nI_1]
    refine hx S2 ⟨f.trans f2, ?_⟩
    have hb : (F.2 t).getD i 0 &&& 255 = (F.2 t)[i] := by
      rw [List.getD_eq_getElem?_getD, List.getElem?_eq_getElem hi]
      exact and255 ((hk.2.2.2.2 t ht).2 _ (List.getElem_mem hi))
    rw [hb] at h2
    rw [List.take_add_one, List.getElem?_eq_getElem hi]
    exact h2
