/-! the reference takes advances, rows, all tables -/
def kV (k p : Nat) : Prop := k = 19 ∨ kC k p
theorem frVC {S S1 : St} (h : fr kC S S1) : fr kV S S1 := h.mono (fun k p z => Or.inr z)
theorem frVB {S S1 : St} (h : fr kB S S1) : fr kV S S1 := frVC (frCB h)
theorem sm_takeAdvances {S : St} {b e : Nat} {L : List Int32} {gs : List Gl} {P : St → Prop} (h : mu S L 1 e b) (hb : ∀ b ∈ L, byt b) (hbe : b ≤ e) (hk : S.2.1 9 2 = nI gs.length) (hl : gs.length ≤ 6)
    (h1 : ∀ g2 S2, adA L b e gs = some g2 → fr kV S S2 → S2.2.1 9 11 = 0 → (∀ (g : Nat) (G : Gl), g2[g]? = some G → S2.2.1 19 g = G.1) → P S2) (h0 : ∀ S2, adA L b e gs = none → fr kV S S2 → bd S2 → P S2) : wp_X11_takeAdvances S P := by
  intro X2 X45 X54 X71 x2 x45 x54 x71
  have b54 : ∀ S', adA L b e gs = none → fr kV S S' → bd S' → X54 S' := by
    intro S' hn f b
    have k71 : ∀ s, X71 S' s := fun s => x71 _ _ (sm_check b.b (fun z => by rw [b] at z; exact absurd z (by decide)) (fun _ S2 f2 b2 => h0 _ hn (f.trans (frVB f2)) b2))
    exact x54 _ ⟨fun _ => k71 _, fun _ => k71 _⟩
  have b2 : ∀ S' v, adA L b e gs = none → fr kV S S' → bd S' → X2 S' v := fun S' v hn f b => x2 _ _ ⟨fun _ => b54 _ hn f b, fun _ => ⟨fun _ => b54 _ hn f b, fun z => by rw [b] at z; exact absurd z (by decide)⟩⟩
  have key : ∀ r acc p S', ads L e gs b [] = ads L e r p acc → acc.length + r.length = gs.length → p ≤ e → fr kV S S' → mu S' L 1 e p → (∀ (g : Nat) (G : Gl), acc[g]? = some G → S'.2.1 19 g = G.1) → X2 S' (nI acc.length) := by
    intro r
    induction r with
    | nil =>
      intro acc p S' ee hl2 hp f u hG
      simp only [ads] at ee
      simp only [List.length_nil, Nat.add_zero] at hl2
      have ea : adA L b e gs = if p = e then some acc else none := by unfold adA; rw [ee]
      have k : S'.2.1 9 2 = nI gs.length := by rw [f.2.2 9 2 (by unfold kV kC; omega)]; exact hk
      refine x2 _ _ ⟨fun _ => ?_, fun z => absurd (by rw [k]; exact nI_le (by omega) (by omega)) z⟩
      exact x54 _ (And.symm (pk_eq p e (fun w => x71 _ _ (sm_check (Or.inl u.b) (fun _ _ => h1 acc S' (by rw [ea, if_pos w]) f u.b hG) (fun y => y.elim (fun y => by rw [u.b] at y; exact absurd y (by decide)) (fun y => absurd y (by decide))))) (fun w => x71 _ _ (sm_check (Or.inl u.b) (fun _ y => absurd rfl y) (fun _ S2 f2 b2 => h0 _ (by rw [ea, if_neg w]) (f.trans (frVB f2)) b2))) u.1 u.2.1 (by have := u.2.2.2.2.2.1; omega) (by have := u.2.2.2.2.2.1; omega)))
    | cons G r ih =>
      intro acc p S' ee hl2 hp f u hG
      simp only [ads] at ee
      simp only [List.length_cons] at hl2
      have k : S'.2.1 9 2 = nI gs.length := by rw [f.2.2 9 2 (by unfold kV kC; omega)]; exact hk
      have i9 : vp_in (nI acc.length) (gw_ml 9) := pk_in acc.length _ (show acc.length < 6 by omega) rfl (by decide)
      have ca : (nI acc.length).toNatClampNeg = acc.length := nI_clamp (by omega)
      refine x2 _ _ ⟨fun z => absurd z (by rw [k]; exact nI_ge (by omega) (by omega)), fun _ => ⟨fun w => absurd u.b w, fun _ => ?_⟩⟩
      refine sm_ns u hb hp (fun v p1 S15 hn f15 u15 => ⟨i9, fun S17 e17 => ⟨i9, ?_⟩⟩) (fun v S15 hn f15 b15 => ⟨i9, fun S17 e17 => ⟨i9, ?_⟩⟩)
      · rw [hn] at ee
        simp only at ee
        have nb := ns_b hb hn
        rw [ca] at e17
        have f17 : fr kV S' S17 := by rw [e17]; exact fr_m (frVC f15) (Or.inl rfl)
        have u17 : mu S17 L 1 e p1 := by rw [e17]; exact mu_m u15 (by omega)
        have g17 : S17.2.1 19 acc.length = nI v := by rw [e17, stM_self]
        rw [ca, g17]
        refine pk_lt 2000 v (fun w => x45 _ _ _ (sm_check (Or.inl u17.b) (fun _ y => absurd rfl y) (fun _ S2 f2 b2' x21 e21 => b2 _ _ ?_ ((f.trans f17).trans (frVB f2)) b2'))) (fun w => x45 _ _ _ (sm_check (Or.inl u17.b) (fun _ _ x21 e21 => ?_) (fun y => y.elim (fun y => by rw [u17.b] at y; exact absurd y (by decide)) (fun y => absurd y (by decide))))) rfl
        · unfold adA; rw [ee, if_neg (by omega)]
        · rw [if_pos (by omega)] at ee
          rw [e21, nI_1]
          have := ih (acc ++ [(nI v, G.2)]) p1 S17 ee (by simp; omega) (by omega) (f.trans f17) u17 (fun g X eg => by
            by_cases hgg : g < acc.length
            · rw [List.getElem?_append_left hgg] at eg
              rw [e17, stM_p (by omega), f15.2.2 19 g (by unfold kC; omega)]; exact hG g X eg
            · have hge : g = acc.length := by
                have := (List.getElem?_eq_some_iff.mp eg).1
                simp at this; omega
              subst hge
              simp at eg
              subst eg
              exact g17)
          simpa using this
      · rw [hn] at ee
        have ea : adA L b e gs = none := by unfold adA; rw [ee]
        have f17 : fr kV S' S17 := by rw [e17]; exact fr_m (frVC f15) (Or.inl rfl)
        have b17 : bd S17 := by rw [e17]; exact bd_m b15 (by omega)
        have k45 : ∀ s, X45 S17 (nI acc.length) s := fun s => x45 _ _ _ (sm_check b17.b (fun z => by rw [b17] at z; exact absurd z (by decide)) (fun _ S2 f2 b2' x21 e21 => b2 _ _ ea ((f.trans f17).trans (frVB f2)) b2'))
        exact ⟨fun _ => k45 _, fun _ => k45 _⟩
  exact key gs [] b S rfl (by simp) hbe (fr.refl S) h (fun g G eg => by simp at eg)
def kR (t k p : Nat) : Prop := (k = 27 ∧ p = t) ∨ (k = 28 ∧ 20 * t ≤ p ∧ p < 20 * t + 20) ∨ kC k p
theorem frRC {t : Nat} {S S1 : St} (h : fr kC S S1) : fr (kR t) S S1 := h.mono (fun k p z => Or.inr (Or.inr z))
theorem i20 (t k : Nat) : 20 * nI t + nI k = nI (20 * t + k) := by simp only [lit32, pk_mul, nI_add]
theorem sm_takeRow {S : St} {t a n : Nat} {L : List Int32} {P : St → Prop} (ht : t < 7) (h : mu S L 1 (a + n) a) (hb : ∀ b ∈ L, byt b) (hn : n ≤ 20) (hz : S.2.1 27 t = nI 0)
    (h1 : ∀ S2, fr (kR t) S S2 → S2.2.1 9 11 = 0 → S2.2.1 27 t = nI n → (∀ k, k < n → S2.2.1 28 (20 * t + k) = L.getD (a + k) 0) → P S2) : wp_X11_takeRow S (nI t) P := by
  intro X0 x0
  have he := h.2.2.2.2.2.1
  have i17 : vp_in (nI t) (gw_ml 17) := pk_in t _ (show t < 7 from ht) rfl (by decide)
  have ct : (nI t).toNatClampNeg = t := nI_clamp (by omega)
  have key : ∀ m i S', i + m = n → fr (kR t) S S' → mu S' L 1 (a + n) (a + i) → S'.2.1 27 t = nI i → (∀ k, k < i → S'.2.1 28 (20 * t + k) = L.getD (a + k) 0) → st_X11_takeRow_0 (nI t) P X0 S' := by
    intro m
    induction m with
    | zero =>
      intro i S' hi f u k27 k28
      have : i = n := by omega
      subst this
      exact ⟨fun _ => h1 S' f u.b k27 k28, fun z => absurd (by rw [u.1, u.2.1]; exact Int32.le_refl _) z⟩
    | succ m ih =>
      intro i S' hi f u k27 k28
      refine ⟨fun z => absurd z (by rw [u.1, u.2.1]; exact nI_ge (by omega) (by omega)), fun _ => ⟨i17, ?_⟩⟩
      rw [ct, k27, i20, nI_clamp (by omega)]
      refine sm_next u hb (by omega) (fun S7 hlt f7 u7 => ⟨pk_in _ _ (show _ < 140 by omega) rfl (by decide), fun S9 e9 => ⟨i17, i17, fun S10 e10 => ?_⟩⟩) (fun S7 hge => absurd hge (by omega))
      have f10 : fr (kR t) S' S10 := by
        rw [e10, e9]
        exact fr_m (fr_m (frRC f7) (Or.inr (Or.inl ⟨rfl, by omega, by omega⟩))) (Or.inl ⟨rfl, rfl⟩)
      refine x0 _ (ih (i + 1) S10 (by omega) (f.trans f10) ?_ ?_ (fun k hk => ?_))
      · rw [e10, e9]; exact mu_m (mu_m u7 (by omega)) (by omega)
      · rw [e10, stM_self, e9, stM_k (by omega), f7.2.2 27 t (by unfold kC; omega), k27, nI_1]
      · rw [e10, stM_k (by omega), e9]
        by_cases hki : k = i
        · subst hki; rw [stM_self]; exact (vb_nI hb _).symm
        · rw [stM_p (by omega), f7.2.2 28 _ (by unfold kC; omega)]; exact k28 k (by omega)
  exact key n 0 S (by omega) (fr.refl S) h hz (fun k hk => by omega)
/-- the font that was taken -/
def nF (S : St) (F : Fo) : Prop := S.2.1 9 2 = nI F.1.length ∧ (∀ (g : Nat) (G : Gl), F.1[g]? = some G → S.2.1 19 g = G.1 ∧ nG S g G) ∧ ∀ t, t < 7 → S.2.1 27 t = nI (F.2 t).length ∧ ∀ k, k < (F.2 t).length → S.2.1 28 (20 * t + k) = (F.2 t).getD k 0
def kT (k p : Nat) : Prop := (19 ≤ k ∧ k ≤ 28) ∨ (k = 9 ∧ (p = 2 ∨ (8 ≤ p ∧ p ≤ 11)))
theorem frTN {S S1 : St} (h : fr kN S S1) : fr kT S S1 := h.mono (fun k p z => by unfold kN at z; unfold kT; omega)
theorem frTV {S S1 : St} (h : fr kV S S1) : fr kT S S1 := h.mono (fun k p z => by unfold kV kC at z; unfold kT; omega)
theorem frTR {t : Nat} {S S1 : St} (h : fr (kR t) S S1) : fr kT S S1 := h.mono (fun k p z => by unfold kR kC at z; unfold kT; omega)
theorem slH_none {hs : Hs} {t : Nat} (h : inH hs t = 0) : slH hs t = 0 := by
  unfold inH at h
  unfold slH
  cases hh : hs t with
  | none => rfl
  | some x => rw [hh] at h; simp at h
theorem plI_lt {hs : Hs} (hb : ∀ t, plH hs t < 2 ^ 31) {t : Nat} : (plI hs t < 0 ↔ inH hs t = 0) ∧ (inH hs t = 1 → plI hs t = nI (plH hs t)) := by
  have := hb t
  unfold plI inH plH at *
  cases h : hs t with
  | none => simp only; exact ⟨⟨fun _ => trivial, fun _ => by decide⟩, fun z => by omega⟩
  | some x =>
    rw [h] at this
    simp only at this ⊢
    exact ⟨⟨fun z => absurd z (nI_pos this), fun z => by omega⟩, fun _ => trivial⟩
theorem nG.keep {K : Nat → Nat → Prop} {S S2 : St} {g : Nat} {G : Gl} (h : nG S g G) (f : fr K S S2) (hK : ∀ k p, K k p → ¬ (20 ≤ k ∧ k ≤ 25)) : nG S2 g G := by
  obtain ⟨h1, ⟨h2, h3⟩, h4⟩ := h
  have e : ∀ k p, 20 ≤ k → k ≤ 25 → S2.2.1 k p = S.2.1 k p := fun k p a b => f.2.2 k p (fun z => hK k p z ⟨a, b⟩)
  refine ⟨by rw [e 20 g (by omega) (by omega)]; exact h1, ⟨by rw [e 21 g (by omega) (by omega)]; exact h2, fun q hq => by rw [e 25 _ (by omega) (by omega)]; exact h3 q hq⟩, fun p hp => ?_⟩
  rw [e 22 _ (by omega) (by omega), e 23 _ (by omega) (by omega), e 24 _ (by omega) (by omega)]
  exact h4 p hp
theorem sm_takeTables {S : St} {hs : Hs} {L : List Int32} {P : St → Prop} (hz : S.2.1 9 11 = 0) (hm : mH S hs) (hL : ∀ k, k < L.length → S.2.1 30 k = L.getD k 0) (hb : ∀ b ∈ L, byt b) (hlL : L.length ≤ 1000) (ho : offH hs 7 = L.length) (hk : okH hs) (h01 : inH hs 0 = inH hs 1)
    (h1 : ∀ gs S2, rdG L hs = some gs → fr kT S S2 → S2.2.1 9 11 = 0 → nF S2 (rdT L hs gs) → P S2) (h0 : ∀ S2, rdG L hs = none → fr kT S S2 → bd S2 → P S2) : wp_X11_takeTables S P := by
  intro X14 X93 x14 x93 S35 e35 S36 e36
  have i17 : ∀ t, t < 7 → vp_in (nI t) (gw_ml 17) := fun t ht => pk_in t _ (show t < 7 from ht) rfl (by decide)
  have i22 : ∀ t, t < 7 → vp_in (nI t) (gw_ml 22) := fun t ht => pk_in t _ (show t < 7 from ht) rfl (by decide)
  have i23 : ∀ t, t < 7 → vp_in (nI t) (gw_ml 23) := fun t ht => pk_in t _ (show t < 7 from ht) rfl (by decide)
  have pl := fun t => plI_lt (hs := hs) (fun t => by have := hk.2 t; omega) (t := t)
  have mk : ∀ {S'}, fr kT S S' → mH S' hs := fun f => hm.keep f (fun k q z => by unfold kT at z; omega)
  have mkL : ∀ {S'}, fr kT S S' → ∀ k, k < L.length → S'.2.1 30 k = L.getD k 0 := fun f k hk => by rw [f.2.2 30 k (by unfold kT; omega)]; exact hL k hk
  -- bad
  have bad : rdG L hs = none → ∀ m t v S', t + m = 7 → fr kT S S' → bd S' → X14 S' v (nI t) := by
    intro hn m
    induction m with
    | zero =>
      intro t v S' ht f b
      have : t = 7 := by omega
      subst this
      exact x14 _ _ _ ⟨fun _ => h0 _ hn f b, fun z => absurd (by decide) z⟩
    | succ m ih =>
      intro t v S' ht f b
      refine x14 _ _ _ ⟨fun z => absurd z (nI_ge (b := 7) (by omega) (by omega)), fun _ => ⟨i17 t (by omega), fun S20 e20 => ⟨i22 t (by omega), ?_⟩⟩⟩
      have f20 : fr kT S' S20 := by rw [e20]; exact fr_m (fr.refl _) (by unfold kT; omega)
      have b20 : bd S20 := by rw [e20]; exact bd_m b (by omega)
      have k93 : X93 S20 v (nI t) := x93 _ _ _ (fun x e => by rw [e, nI_1]; exact ih (t + 1) v S20 (by omega) (f.trans f20) b20)
      exact ⟨fun _ => k93, fun _ => ⟨fun _ => k93, fun z => by rw [b20] at z; exact absurd z (by decide)⟩⟩
  -- one table that is there
  have at_ : ∀ t S', t < 7 → inH hs t = 1 → fr kT S S' → S'.2.1 9 11 = 0 → S'.2.1 9 10 = nI 1 → (∀ S24, fr kT S' S24 → (∀ k q, ¬ (k = 27 ∧ q = t) → k ≠ 9 → S24.2.1 k q = S'.2.1 k q) → S24.2.1 9 2 = S'.2.1 9 2 → S24.2.1 27 t = nI 0 → mu S24 L 1 (offH hs (t + 1)) (offH hs t) → ((¬ nI t = 0 → ((¬ nI t = 1 → wp_X11_takeRow S24 (nI t) (fun S28 => X93 S28 (nI (offH hs (t + 1))) (nI t))) ∧ (nI t = 1 → wp_X11_takeAdvances S24 (fun S30 => X93 S30 (nI (offH hs (t + 1))) (nI t))))) ∧ (nI t = 0 → wp_X11_takeGlyphs S24 (fun S32 => X93 S32 (nI (offH hs (t + 1))) (nI t))))) → X14 S' (nI (offH hs t)) (nI t) := by
    intro t S' ht hin f z10 k10 hgo
    have o1 := offH_le (hs := hs) (t := t + 1) (by omega)
    have oe : offH hs (t + 1) = offH hs t + slH hs t := rfl
    refine x14 _ _ _ ⟨fun z => absurd z (nI_ge (b := 7) ht (by omega)), fun _ => ⟨i17 t ht, fun S20 e20 => ⟨i22 t ht, ?_⟩⟩⟩
    rw [nI_clamp (by omega)] at e20
    rw [nI_clamp (by omega)]
    have m20 : S20.2.1 32 t = plI hs t := by rw [e20, stM_k (by omega)]; exact ((mk f) t ht).1
    have z20 : S20.2.1 9 11 = 0 := by rw [e20, stM_k (by omega)]; exact z10
    refine ⟨fun z => absurd ((pl t).1.mp (by rw [← m20]; exact z)) (by omega), fun _ => ⟨fun z => absurd z20 z, fun _ S23 e23 => ⟨i23 t ht, fun S24 e24 x25 e25 => ?_⟩⟩⟩
    have s23 : S23.2.1 33 t = nI (slH hs t) := by rw [e23, stM_k (by omega), e20, stM_k (by omega)]; exact ((mk f) t ht).2
    rw [s23, nI_add, ← oe] at e24
    have e25' : x25 = nI (offH hs (t + 1)) := by rw [e25, e24, stM_self]
    rw [e25']
    have f24 : fr kT S' S24 := by
      rw [e24, e23, e20]
      exact fr_m (fr_m (fr_m (fr.refl _) (by unfold kT; omega)) (by unfold kT; omega)) (by unfold kT; omega)
    refine hgo S24 f24 (fun k q a b => ?_) ?_ ?_ ?_
    · rw [e24, stM_k b, e23, stM_k b, e20, stM_get, if_neg a]
    · rw [e24, stM_p (by omega), e23, stM_p (by omega), e20, stM_k (by omega)]
    · rw [e24, stM_k (by omega), e23, stM_k (by omega), e20, stM_self]; rfl
    · refine ⟨by rw [e24, stM_p (by omega), e23, stM_self], by rw [e24, stM_self], by rw [e24, stM_p (by omega), e23, stM_p (by omega), e20, stM_k (by omega)]; exact k10, by rw [e24, stM_p (by omega), e23, stM_p (by omega)]; exact z20, fun k hkk => ?_, by omega, by omega⟩
      exact mkL (f.trans f24) k (by omega)
  -- one that isn't
  have not_ : ∀ t S', t < 7 → inH hs t = 0 → fr kT S S' → (∀ S20, S20 = stM S' 27 t 0 → X14 S20 (nI (offH hs (t + 1))) (nI (t + 1))) → X14 S' (nI (offH hs t)) (nI t) := by
    intro t S' ht hin f hgo
    refine x14 _ _ _ ⟨fun z => absurd z (nI_ge (b := 7) ht (by omega)), fun _ => ⟨i17 t ht, fun S20 e20 => ⟨i22 t ht, ?_⟩⟩⟩
    rw [nI_clamp (by omega)] at e20
    rw [nI_clamp (by omega)]
    have m20 : S20.2.1 32 t = plI hs t := by rw [e20, stM_k (by omega)]; exact ((mk f) t ht).1
    refine ⟨fun _ => x93 _ _ _ (fun x e => ?_), fun z => absurd (by rw [m20]; exact (pl t).1.mpr hin) z⟩
    rw [e, nI_1]
    have := hgo S20 e20
    have oe : offH hs (t + 1) = offH hs t := by show offH hs t + slH hs t = _; rw [slH_none hin]; rfl
    rw [oe] at this
    exact this
  -- bare tables
  have bare : ∀ gs, rdG L hs = some gs → ∀ m t S', t + m = 7 → 2 ≤ t → fr kT S S' → S'.2.1 9 11 = 0 → S'.2.1 9 10 = nI 1 → S'.2.1 9 2 = nI gs.length → (∀ (g : Nat) (G : Gl), gs[g]? = some G → S'.2.1 19 g = G.1 ∧ nG S' g G) → (∀ u, u < t → S'.2.1 27 u = nI ((rdT L hs gs).2 u).length ∧ ∀ k, k < ((rdT L hs gs).2 u).length → S'.2.1 28 (20 * u + k) = ((rdT L hs gs).2 u).getD k 0) → X14 S' (nI (offH hs t)) (nI t) := by
    intro gs hgs m
    induction m with
    | zero =>
      intro t S' ht h2 f z10 k10 k2 hG hU
      have : t = 7 := by omega
      subst this
      exact x14 _ _ _ ⟨fun _ => h1 gs S' hgs f z10 ⟨k2, hG, fun u hu => hU u hu⟩, fun z => absurd (by decide) z⟩
    | succ m ih =>
      intro t S' ht h2 f z10 k10 k2 hG hU
      have ht7 : t < 7 := by omega
      have eT : (rdT L hs gs).2 t = barL L hs t := by show (if 2 ≤ t ∧ t < 7 then barL L hs t else []) = _; rw [if_pos ⟨h2, ht7⟩]
      have lenU : ∀ u, u < 7 → ((rdT L hs gs).2 u).length ≤ 20 := fun u hu => ((rdT_ok hb hk hgs).1.2.2.2.2 u hu).1
      rcases Nat.eq_zero_or_pos (inH hs t) with q | q
      · refine not_ t S' ht7 q f (fun S20 e20 => ?_)
        have f20 : fr kT S' S20 := by rw [e20]; exact fr_m (fr.refl _) (by unfold kT; omega)
        refine ih (t + 1) S20 (by omega) (by omega) (f.trans f20) (by rw [e20, stM_k (by omega)]; exact z10) (by rw [e20, stM_k (by omega)]; exact k10) (by rw [e20, stM_k (by omega)]; exact k2) (fun g G eg => ?_) (fun u hu => ?_)
        · have := hG g G eg
          refine ⟨by rw [e20, stM_k (by omega)]; exact this.1, this.2.keep (K := fun k p => k = 27 ∧ p = t) (by rw [e20]; exact fr_m (fr.refl _) ⟨rfl, rfl⟩) (fun k p z => by omega)⟩
        · by_cases hut : u = t
          · subst hut
            have l0 : ((rdT L hs gs).2 u).length = 0 := by rw [eT, barL_len, slH_none q]
            refine ⟨by rw [e20, stM_self, l0]; rfl, fun k hk' => by omega⟩
          · have := hU u (by omega)
            rw [e20, stM_p (by omega)]
            refine ⟨this.1, fun k hk' => by rw [stM_k (by omega)]; exact this.2 k hk'⟩
      · have hin : inH hs t = 1 := by have := inH_le hs t; omega
        refine at_ t S' ht7 hin f z10 k10 (fun S24 f24 o24 k24 z24 u24 => ⟨fun _ => ⟨fun _ => ?_, fun z => absurd ((nI_lit (b := 1) (by omega) (by omega)).mp z) (by omega)⟩, fun z => absurd ((nI_lit (b := 0) (by omega) (by omega)).mp z) (by omega)⟩)
        have oe : offH hs (t + 1) = offH hs t + slH hs t := rfl
        have u24' := u24
        rw [oe] at u24'
        refine sm_takeRow ht7 u24' hb (hk.1 t h2) z24 (fun S28 f28 z28 k27 k28 => x93 _ _ _ (fun x e => ?_))
        rw [e, nI_1]
        refine ih (t + 1) S28 (by omega) (by omega) ((f.trans f24).trans (frTR f28)) z28 ?_ ?_ (fun g G eg => ?_) (fun u hu => ?_)
        · rw [f28.2.2 9 10 (by unfold kR kC; omega)]; exact u24.2.2.1
        · rw [f28.2.2 9 2 (by unfold kR kC; omega), k24]; exact k2
        · have := hG g G eg
          refine ⟨by rw [f28.2.2 19 g (by unfold kR kC; omega), o24 19 g (by omega) (by omega)]; exact this.1, ?_⟩
          have n24 : nG S24 g G := this.2.keep (K := fun k p => ¬ (20 ≤ k ∧ k ≤ 25)) ⟨f24.1, f24.2.1, fun k p w => o24 k p (by omega) (by omega)⟩ (fun k p z => z)
          exact n24.keep f28 (fun k p z => by unfold kR kC at z; omega)
        · by_cases hut : u = t
          · subst hut
            rw [eT, barL_len]
            refine ⟨k27, fun k hk' => ?_⟩
            rw [k28 k hk']
            unfold barL
            rw [List.getD_eq_getElem?_getD (l := (List.range (slH hs u)).map _), List.getElem?_map, List.getElem?_range hk']; rfl
          · have := hU u (by omega)
            have l20 := lenU u (by omega)
            rw [f28.2.2 27 u (by unfold kR kC; omega), o24 27 u (by omega) (by omega)]
            refine ⟨this.1, fun k hk' => ?_⟩
            rw [f28.2.2 28 _ (by unfold kR kC; omega), o24 28 _ (by omega) (by omega)]
            exact this.2 k hk'
  -- the beginning
  have f36 : fr kT S S36 := by rw [e36, e35]; exact fr_m (fr_m (fr.refl S) (by unfold kT; omega)) (by unfold kT; omega)
  have z36 : S36.2.1 9 11 = 0 := by rw [e36, stM_p (by omega), e35, stM_p (by omega)]; exact hz
  have k36 : S36.2.1 9 10 = nI 1 := by rw [e36, stM_self]; rfl
  have g36 : S36.2.1 9 2 = nI 0 := by rw [e36, stM_p (by omega), e35, stM_self]; rfl
  have tz : ∀ gs u, u < 2 → (rdT L hs gs).2 u = [] := fun gs u hu => by show (if 2 ≤ u ∧ u < 7 then barL L hs u else []) = []; rw [if_neg (by omega)]
  rcases Nat.eq_zero_or_pos (inH hs 0) with q | q
  · refine not_ 0 S36 (by omega) q f36 (fun S20 e20 => not_ 1 S20 (by omega) (by omega) ?_ (fun S21 e21 => ?_))
    · exact f36.trans (by rw [e20]; exact fr_m (fr.refl _) (by unfold kT; omega))
    · have hgs : rdG L hs = some [] := by unfold rdG; rw [if_pos q]
      refine bare [] hgs 5 2 S21 (by omega) (by omega) (f36.trans (by rw [e21, e20]; exact fr_m (fr_m (fr.refl _) (by unfold kT; omega)) (by unfold kT; omega))) (by rw [e21, stM_k (by omega), e20, stM_k (by omega)]; exact z36) (by rw [e21, stM_k (by omega), e20, stM_k (by omega)]; exact k36) (by rw [e21, stM_k (by omega), e20, stM_k (by omega)]; exact g36) (fun g G eg => by simp at eg) (fun u hu => ?_)
      rw [tz [] u hu]
      refine ⟨?_, fun k hk' => by simp at hk'⟩
      rcases Nat.eq_zero_or_pos u with w | w
      · rw [w, e21, stM_p (by omega), e20, stM_self]; rfl
      · rw [show u = 1 by omega, e21, stM_self]; rfl
  · have hin0 : inH hs 0 = 1 := by have := inH_le hs 0; omega
    refine at_ 0 S36 (by omega) hin0 f36 z36 k36 (fun S24 f24 o24 k24 z24 u24 => ⟨fun z => absurd rfl z, fun _ => ?_⟩)
    have oe1 : offH hs 1 = slH hs 0 := by show 0 + slH hs 0 = _; omega
    have oe2 : offH hs 2 = slH hs 0 + slH hs 1 := by show offH hs 1 + slH hs 1 = _; omega
    have u24' : mu S24 L 1 (slH hs 0) 0 := by rw [← oe1]; exact u24
    refine sm_takeGlyphs u24' hb (fun gs S32 hol f32 z32 k32 hN => x93 _ _ _ (fun x e => ?_)) (fun S32 hol f32 b32 => x93 _ _ _ (fun x e => ?_))
    · rw [e, nI_1]
      have ob := ol_b hb hol
      have f32' := (f36.trans f24).trans (frTN f32)
      refine at_ 1 S32 (by omega) (by omega) f32' z32 (by rw [f32.2.2 9 10 (by unfold kN; omega)]; exact u24.2.2.1) (fun S34 f34 o34 k34 z34 u34 => ⟨fun _ => ⟨fun z => absurd rfl z, fun _ => ?_⟩, fun z => absurd z (by decide)⟩)
      have u34' : mu S34 L 1 (slH hs 0 + slH hs 1) (slH hs 0) := by rw [← oe2, ← oe1]; exact u34
      refine sm_takeAdvances u34' hb (by omega) (by rw [k34]; exact k32) ob.2.1 (fun g2 S30 ha f30 z30 hA => x93 _ _ _ (fun x e => ?_)) (fun S30 ha f30 b30 => x93 _ _ _ (fun x e => ?_))
      · rw [e, nI_1]
        have hgs : rdG L hs = some g2 := by unfold rdG; rw [if_neg (by omega), hol]; exact ha
        have ab := adA_b hb (by omega) ha
        refine bare g2 hgs 5 2 S30 (by omega) (by omega) ((f32'.trans f34).trans (frTV f30)) z30 (by rw [f30.2.2 9 10 (by unfold kV kC; omega)]; exact u34.2.2.1) (by rw [f30.2.2 9 2 (by unfold kV kC; omega), k34, k32, ab.1]) (fun g G eg => ⟨hA g G eg, ?_⟩) (fun u hu => ?_)
        · -- all but the advance is as it was
          have sh : ∀ r p acc g3 p', ads L (slH hs 0 + slH hs 1) r p acc = some (g3, p') → ∀ (g : Nat) (G : Gl), g3[g]? = some G → (∃ X, (acc ++ r)[g]? = some X ∧ X.2 = G.2) := by
            intro r
            induction r with
            | nil =>
              intro p acc g3 p' h g G eg
              simp only [ads, Option.some.injEq, Prod.mk.injEq] at h
              rw [← h.1] at eg
              exact ⟨G, by simpa using eg, rfl⟩
            | cons Y r ihr =>
              intro p acc g3 p' h g G eg
              simp only [ads] at h
              cases hn : ns L (slH hs 0 + slH hs 1) p with
              | none => rw [hn] at h; simp at h
              | some z =>
                obtain ⟨v, p1⟩ := z
                rw [hn] at h
                simp only at h
                split at h
                · obtain ⟨X, e1, e2⟩ := ihr _ _ _ _ h g G eg
                  by_cases hgg : g < acc.length
                  · refine ⟨X, ?_, e2⟩
                    rw [List.append_assoc, List.getElem?_append_left hgg] at e1
                    rw [List.getElem?_append_left hgg]; exact e1
                  · by_cases hge : g = acc.length
                    · subst hge
                      simp at e1
                      refine ⟨Y, by simp, ?_⟩
                      rw [← e2, ← e1]
                    · refine ⟨X, ?_, e2⟩
                      rw [List.append_assoc, List.getElem?_append_right (by omega)] at e1
                      rw [List.getElem?_append_right (by omega)]
                      obtain ⟨i, hi⟩ : ∃ i, g - acc.length = i + 1 := ⟨g - acc.length - 1, by omega⟩
                      rw [hi] at e1 ⊢
                      simpa using e1
                · simp at h
          unfold adA at ha
          cases h3 : ads L (slH hs 0 + slH hs 1) gs (slH hs 0) [] with
          | none => rw [h3] at ha; simp at ha
          | some w =>
            obtain ⟨g3, p3⟩ := w
            rw [h3] at ha
            simp only at ha
            split at ha
            · simp at ha
              rw [ha] at h3
              obtain ⟨X, e1, e2⟩ := sh _ _ _ _ _ h3 g G eg
              simp at e1
              have nX := hN g X e1
              have n34 : nG S34 g X := nX.keep (K := fun k p => ¬ (20 ≤ k ∧ k ≤ 25)) ⟨f34.1, f34.2.1, fun k p w => o34 k p (by omega) (by omega)⟩ (fun k p z => z)
              have n30 : nG S30 g X := n34.keep f30 (fun k p z => by unfold kV kC at z; omega)
              unfold nG at n30 ⊢
              rw [e2] at n30
              exact n30
            · simp at ha
        · rw [tz g2 u hu]
          refine ⟨?_, fun k hk' => by simp at hk'⟩
          rcases Nat.eq_zero_or_pos u with w | w
          · rw [w, f30.2.2 27 0 (by unfold kV kC; omega), o34 27 0 (by omega) (by omega), f32.2.2 27 0 (by unfold kN; omega)]; exact z24
          · rw [show u = 1 by omega, f30.2.2 27 1 (by unfold kV kC; omega)]; exact z34
      · rw [e, nI_1]
        exact bad (by unfold rdG; rw [if_neg (by omega), hol]; exact ha) 5 2 _ S30 (by omega) ((f32'.trans f34).trans (frTV f30)) b30
    · rw [e, nI_1]
      exact bad (by unfold rdG; rw [if_neg (by omega), hol]) 6 1 _ S32 (by omega) ((f36.trans f24).trans (frTN f32)) b32
