/-! advances, bare tables, the whole reading of the class -/
def ads (L : List Int32) (e : Nat) : List Gl → Nat → List Gl → Option (List Gl × Nat)
  | [], p, acc => some (acc, p)
  | G :: r, p, acc => match ns L e p with | none => none | some (v, p') => if v ≤ 2000 then ads L e r p' (acc ++ [(nI v, G.2)]) else none
def adA (L : List Int32) (b e : Nat) (gs : List Gl) : Option (List Gl) := match ads L e gs b [] with | none => none | some (g2, p) => if p = e then some g2 else none
theorem ads_b {L : List Int32} {e : Nat} (hb : ∀ b ∈ L, byt b) : ∀ gs p acc g2 p', p ≤ e → ads L e gs p acc = some (g2, p') → p' ≤ e ∧ g2.length = acc.length + gs.length ∧ ((∀ G ∈ acc, okG G ∧ closed G) → (∀ G ∈ gs, okG G ∧ closed G) → ∀ G ∈ g2, okG G ∧ closed G) := by
  intro gs
  induction gs with
  | nil =>
    intro p acc g2 p' hp h
    simp only [ads, Option.some.injEq, Prod.mk.injEq] at h
    rw [← h.1, ← h.2]; exact ⟨hp, rfl, fun a _ => a⟩
  | cons G r ih =>
    intro p acc g2 p' hp h
    simp only [ads] at h
    cases hn : ns L e p with
    | none => rw [hn] at h; simp at h
    | some z =>
      obtain ⟨v, p1⟩ := z
      rw [hn] at h
      simp only at h
      have nb := ns_b hb hn
      split at h
      · rename_i hv
        obtain ⟨i1, i2, i3⟩ := ih _ _ _ _ (by omega) h
        simp at i2
        refine ⟨i1, by simp; omega, fun w1 w2 => i3 (fun x hx => ?_) (fun x hx => w2 x (by simp [hx]))⟩
        simp only [List.mem_append, List.mem_singleton] at hx
        rcases hx with hx | hx
        · exact w1 x hx
        · rw [hx]
          obtain ⟨⟨k1, k2, k3, k4, _, k6⟩, k7⟩ := w2 G (by simp)
          exact ⟨⟨k1, k2, k3, k4, ⟨v, hv, rfl⟩, k6⟩, k7⟩
      · simp at h
theorem qF_adv {q : Nat} {S : St} {v : Int32} : qF q S (stM S 0 q v) := ⟨fun _ _ => rfl, fun k p a b c => by rw [stM_get, if_neg c], fun z => z⟩
theorem sp_readAdvances {S : St} {T0' : List (Nat × Nat × Nat)} {j b n1 : Nat} {L : List Int32} {gs : List Gl} {P : Int32 → St → Prop} (h : cGs S j gs) (hl : gs.length ≤ 6) (hj : j ≤ 1) (h67 : rGet S 67 0 = nI b) (h67' : rGet S 67 1 = nI n1) (hr : S.1 65 = L) (hb : ∀ b ∈ L, byt b) (he : b + n1 < 2 ^ 20)
    (h1 : ∀ g2 S2, adA L b (b + n1) gs = some g2 → gF j S S2 → cGs S2 j g2 → P 1 S2) (h0 : ∀ S2, adA L b (b + n1) gs = none → gF j S S2 → P 0 S2) : wp_X5_readAdvances T0' S j P := by
  intro X35 x35 x20 e20 n9 hn9 S21 e21 S22 e22
  rw [h67] at e20
  have e22' : S22 = cuIni (stT S (S.2.2.1 ++ [(n9, 5, 0)])) n9 65 (nI b) (nI (b + n1)) := by
    rw [e22, e20, e21]
    show cuIni _ n9 65 (nI b) (nI b + rGet S 67 1) = _
    rw [h67', nI_add]
  have u22 : cu S22 n9 (b + n1) b := by rw [e22']; exact cu_ini
  have f22 : gF j S S22 := by rw [e22']; exact gF_cui
  have g22 : cGs S22 j gs := by rw [e22']; exact h.cui
  have r22 : S22.1 65 = L := by rw [e22']; exact hr
  have bad : adA L b (b + n1) gs = none → ∀ m i S', i + m = gs.length → gF j S S' → S'.2.1 1 j = nI gs.length → br S' n9 → X35 S' n9 (nI i) := by
    intro hn m
    induction m with
    | zero =>
      intro i S' hi f k bb
      refine x35 _ _ _ ⟨fun _ => ?_, fun z => absurd (by show S'.2.1 1 j ≤ _; rw [k]; exact nI_le (by omega) (by omega)) z⟩
      unfold wp_X2_isAtEnd wp_X2_isAtEnd_22 wp_X2_isAtEnd_23
      have bb' : S'.2.1 (1000 + n9) 2 = 1 := bb
      exact ⟨fun _ => ⟨Or.inl rfl, Or.inl rfl, h0 _ hn (f.trans gF_T)⟩, fun z => by rw [bb'] at z; exact absurd z (by decide)⟩
    | succ m ih =>
      intro i S' hi f k bb
      refine x35 _ _ _ ⟨fun z => absurd z (by show ¬ S'.2.1 1 j ≤ _; rw [k]; exact nI_ge (by omega) (by omega)), fun _ r16 S15 e16 e15 => ?_⟩
      have f15 := cf_short S' n9 65
      have b15 := sh_br (r := 65) bb
      rw [← e15] at f15 b15
      refine ⟨fun _ S18 e18 x19 e19 => ?_, fun _ => h0 _ hn ((f.trans f15.gF).trans gF_T)⟩
      rw [glId_nI (by omega)] at e18
      have f18 : qF (6 * j + i) S15 S18 := by rw [e18]; exact qF_adv
      rw [e19, nI_1]
      refine ih (i + 1) S18 (by omega) ((f.trans f15.gF).trans (f18.gF (by omega))) ?_ ?_
      · rw [f18.2.1 1 j (by omega) (by omega) (by omega), f15.2.2 1 j (by omega)]; exact k
      · rw [e18]; unfold br
        show (stM S15 0 _ _).2.1 _ _ = _
        rw [stM_k (by omega)]; exact b15
  have key : ∀ r acc p S', ads L (b + n1) gs b [] = ads L (b + n1) r p acc → acc.length + r.length = gs.length → p ≤ b + n1 → gF j S S' → S'.1 65 = L → cu S' n9 (b + n1) p → cGs S' j (acc ++ r) → X35 S' n9 (nI acc.length) := by
    intro r
    induction r with
    | nil =>
      intro acc p S' ee hl2 hp f r65 u g
      simp only [ads] at ee
      simp only [List.append_nil] at g
      have ea : adA L b (b + n1) gs = if p = b + n1 then some acc else none := by unfold adA; rw [ee]
      refine x35 _ _ _ ⟨fun _ => ?_, fun z => absurd (by show S'.2.1 1 j ≤ _; rw [g.1]; exact Int32.le_refl _) z⟩
      unfold wp_X2_isAtEnd wp_X2_isAtEnd_22 wp_X2_isAtEnd_23
      refine ⟨fun z => absurd u.2.2 z, fun _ => And.symm (pk_eq p (b + n1) (fun q => ⟨Or.inr rfl, Or.inr rfl, h1 acc _ (by rw [ea, if_pos q]) (f.trans gF_T) (g.of rfl (fun _ _ _ => rfl))⟩) (fun q => ⟨Or.inl rfl, Or.inl rfl, h0 _ (by rw [ea, if_neg q]) (f.trans gF_T)⟩) u.2.1 u.1)⟩
    | cons G r ih =>
      intro acc p S' ee hl2 hp f r65 u g
      simp only [ads] at ee
      simp only [List.length_cons] at hl2
      have gc : S'.2.1 1 j = nI gs.length := by rw [g.1]; congr 1; simp; omega
      refine x35 _ _ _ ⟨fun z => absurd z (by show ¬ S'.2.1 1 j ≤ _; rw [gc]; exact nI_ge (by omega) (by omega)), fun _ r16 S15 e16 e15 => ?_⟩
      have f15 := cf_short S' n9 65
      rw [← e15] at f15
      have fS := f.trans (f15.gF (j := j))
      cases hn : ns L (b + n1) p with
      | none =>
        rw [hn] at ee
        have ea : adA L b (b + n1) gs = none := by unfold adA; rw [ee]
        have b15 := sh_none u r65 hb (by omega) hp hn
        rw [← e15] at b15
        refine ⟨fun _ S18 e18 x19 e19 => ?_, fun _ => h0 _ ea (fS.trans gF_T)⟩
        rw [glId_nI (by omega)] at e18
        have f18 : qF (6 * j + acc.length) S15 S18 := by rw [e18]; exact qF_adv
        rw [e19, nI_1]
        refine bad ea r.length (acc.length + 1) S18 (by omega) (fS.trans (f18.gF (by omega))) ?_ ?_
        · rw [f18.2.1 1 j (by omega) (by omega) (by omega), f15.2.2 1 j (by omega)]; exact gc
        · rw [e18]; unfold br
          show (stM S15 0 _ _).2.1 _ _ = _
          rw [stM_k (by omega)]; exact b15
      | some z =>
        obtain ⟨v, p1⟩ := z
        rw [hn] at ee
        simp only at ee
        have nb := ns_b hb hn
        obtain ⟨k1, k2⟩ := sh_some u r65 hb (by omega) hn
        rw [← e15] at k2
        rw [e16, k1]
        refine pk_le v 2000 (fun hv S18 e18 x19 e19 => ?_) (fun hv => h0 _ (by unfold adA; rw [ee, if_neg (by omega)]) (fS.trans gF_T)) rfl
        rw [if_pos hv] at ee
        rw [glId_nI (by omega)] at e18
        have f18 : qF (6 * j + acc.length) S15 S18 := by rw [e18]; exact qF_adv
        have g15 := g.cf f15
        have gg : cG S15 (6 * j + acc.length) G := g15.2 acc.length G (by simp)
        rw [e19, nI_1]
        have := ih (acc ++ [(nI v, G.2)]) p1 S18 ee (by simp; omega) (by omega) (fS.trans (f18.gF (by omega))) (by rw [f18.1 65 (by omega), f15.1]; exact r65) (by
          rw [e18]
          exact ⟨by show (stM S15 0 _ _).2.1 _ _ = _; rw [stM_k (by omega)]; exact k2.1, by show (stM S15 0 _ _).2.1 _ _ = _; rw [stM_k (by omega)]; exact k2.2.1, by show (stM S15 0 _ _).2.1 _ _ = _; rw [stM_k (by omega)]; exact k2.2.2⟩) (by
          have := cGs_upd (A := acc) (C := r) (G := G) (G' := (nI v, G.2)) g15 f18 (by
            rw [e18]
            refine ⟨by show (stM S15 0 _ _).2.1 _ _ = _; rw [stM_self], gg.2.1, gg.2.2.1, gg.2.2.2.1, gg.2.2.2.2⟩)
          simpa using this)
        simpa using this
  exact key gs [] b S22 rfl (by simp) (by omega) f22 r22 u22 (by simpa using g22)
/-! bare tables -/
def offH (hs : Hs) : Nat → Nat
  | 0 => 0
  | t + 1 => offH hs t + slH hs t
def barL (L : List Int32) (hs : Hs) (t : Nat) : List Int32 := (List.range (slH hs t)).map (fun k => L.getD (offH hs t + k) 0)
theorem offH_mono (hs : Hs) : ∀ d t, offH hs t ≤ offH hs (t + d) := by
  intro d
  induction d with
  | zero => intro t; exact Nat.le_refl _
  | succ d ih =>
    intro t
    have := ih t
    rw [show t + (d + 1) = t + d + 1 by omega]
    simp only [offH]; omega
theorem offH_le {hs : Hs} {t : Nat} (h : t ≤ 7) : offH hs t ≤ offH hs 7 := by
  have := offH_mono hs (7 - t) t
  rw [show t + (7 - t) = 7 by omega] at this
  exact this
theorem cap_t {j t : Nat} (hj : j ≤ 1) (h2 : 2 ≤ t) (ht : t < 7) : gw_cap (48 + 7 * j + t) = 20 := by
  unfold gw_cap
  rw [if_neg (by omega), if_pos (by omega), if_neg (by omega), if_neg (by omega)]
def bF (j i : Nat) (L : List Int32) (hs : Hs) (S S2 : St) : Prop := S2.2 = S.2 ∧ (∀ r, ¬ (48 + 7 * j + 2 ≤ r ∧ r < 48 + 7 * j + 7) → S2.1 r = S.1 r) ∧ (∀ t, 2 ≤ t → t < i → S2.1 (48 + 7 * j + t) = barL L hs t) ∧ (∀ t, i ≤ t → t < 7 → S2.1 (48 + 7 * j + t) = S.1 (48 + 7 * j + t))
theorem barL_len (L : List Int32) (hs : Hs) (t : Nat) : (barL L hs t).length = slH hs t := by simp [barL]
theorem sp_readBare {S : St} {j : Nat} {hs : Hs} {L : List Int32} {P : St → Prop} (hj : j ≤ 1) (h67 : S.1 67 = r67 hs) (hr : S.1 65 = L) (h20 : ∀ t, 2 ≤ t → slH hs t ≤ 20) (ho : offH hs 7 < 2 ^ 20) (hem : ∀ t, 2 ≤ t → t < 7 → S.1 (48 + 7 * j + t) = []) (h : ∀ S2, bF j 7 L hs S S2 → P S2) : wp_X5_readBareTables S j P := by
  intro X20 X29 x20 x29 x14 e14
  have g67 : ∀ S', S'.1 67 = r67 hs → ∀ t, t < 7 → rGet S' 67 (nI t) = nI (slH hs t) := fun S' h t ht => by rw [rGet_nI (by omega), h, r67_get ht]
  have e14' : x14 = nI (offH hs 2) := by
    rw [e14, show (0 : Int32) = nI 0 from rfl, show (1 : Int32) = nI 1 from rfl, g67 S h67 0 (by omega), g67 S h67 1 (by omega), nI_add]
    congr 1
    simp [offH]
  rw [e14']
  have key : ∀ d t S', t + d = 7 → 2 ≤ t → bF j t L hs S S' → X20 S' (nI (offH hs t)) (nI t) := by
    intro d
    induction d with
    | zero =>
      intro t S' hd ht b
      have : t = 7 := by omega
      subst this
      exact x20 _ _ _ ⟨fun _ => h S' b, fun z => absurd (by decide) z⟩
    | succ d ih =>
      intro t S' hd ht b
      have ol := offH_le (hs := hs) (t := t + 1) (by omega)
      have oe : offH hs (t + 1) = offH hs t + slH hs t := rfl
      have s20 := h20 t ht
      refine x20 _ _ _ ⟨fun z => absurd z (nI_ge (b := 7) (by omega) (by omega)), fun _ => ?_⟩
      have k67 : S'.1 67 = r67 hs := by rw [b.2.1 67 (by omega)]; exact h67
      have k65 : S'.1 65 = L := by rw [b.2.1 65 (by omega)]; exact hr
      have row : S'.1 (48 + 7 * j + t) = [] := by rw [b.2.2.2 t (Nat.le_refl t) (by omega)]; exact hem t ht (by omega)
      have loop : ∀ m k, k + m = slH hs t → X29 (stX S' (48 + 7 * j + t) ((List.range k).map (fun i => L.getD (offH hs t + i) 0))) (nI (offH hs t + k)) (nI t) (nI k) := by
        intro m
        induction m with
        | zero =>
          intro k hk
          have : k = slH hs t := by omega
          subst this
          refine x29 _ _ _ _ ⟨fun _ x10 e10 => ?_, fun z => absurd (by rw [g67 _ (by rw [stX_ne (by omega)]; exact k67) t (by omega)]; exact Int32.le_refl _) z⟩
          rw [e10, nI_1]
          refine ih (t + 1) _ (by omega) (by omega) ⟨b.1, fun r a => ?_, fun u u1 u2 => ?_, fun u u1 u2 => ?_⟩
          · rw [stX_ne (by omega)]; exact b.2.1 r a
          · by_cases hu : u = t
            · subst hu; rw [stX_at]; rfl
            · rw [stX_ne (by omega)]; exact b.2.2.1 u u1 (by omega)
          · rw [stX_ne (by omega)]; exact b.2.2.2 u (by omega) u2
        | succ m ihm =>
          intro k hk
          refine x29 _ _ _ _ ⟨fun z => absurd z (by rw [g67 _ (by rw [stX_ne (by omega)]; exact k67) t (by omega)]; exact nI_ge (by omega) (by omega)), fun _ S11 e11 x12 e12 x13 e13 => ?_⟩
          have e11' : S11 = stX S' (48 + 7 * j + t) ((List.range (k + 1)).map (fun i => L.getD (offH hs t + i) 0)) := by
            rw [e11, rwId_nI (by omega), rGet_nI (by omega), stX_ne (by omega), k65]
            unfold rAdd
            rw [rApp_fit (by rw [stX_at, cap_t hj ht (by omega)]; simp; omega), stX_at, stX_stX, List.range_succ, List.map_append]
            rfl
          rw [e11', e12, e13, nI_1, nI_1]
          exact ihm (k + 1) (by omega)
      have := loop (slH hs t) 0 (by omega)
      rw [show (List.range 0).map (fun i => L.getD (offH hs t + i) 0) = S'.1 (48 + 7 * j + t) by rw [row]; rfl, stX_self] at this
      exact this
  exact key 5 2 S (by omega) (by omega) ⟨rfl, fun _ _ => rfl, fun t a b => by omega, fun _ _ _ => rfl⟩
/-! what a head that is good says -/
theorem off_up {hs : Hs} {t a b : Nat} (hn : hs t = none) : ∀ n, offH (upH hs t (a, b)) n = offH hs n + (if t < n then b else 0) := by
  intro n
  induction n with
  | zero => simp [offH]
  | succ n ih =>
    simp only [offH, ih]
    have s0 : slH hs t = 0 := by unfold slH; rw [hn]
    by_cases h1 : n = t
    · subst h1
      rw [slH_up, if_neg (by omega), if_pos (by omega)]; omega
    · have : slH (upH hs t (a, b)) n = slH hs n := by unfold slH upH; simp [h1]
      rw [this]
      by_cases h2 : t < n
      · rw [if_pos h2, if_pos (by omega)]; omega
      · rw [if_neg h2, if_neg (by omega)]; omega
def okH (hs : Hs) : Prop := (∀ t, 2 ≤ t → slH hs t ≤ 20) ∧ (∀ t, plH hs t < 2097152)
theorem hl_ok {B : List Int32} {e : Nat} (hb : ∀ b ∈ B, byt b) : ∀ k p lo sm hs p' sm' hs', hl B e k p lo sm hs = some (p', sm', hs') → p ≤ e → (∀ t, lo ≤ t → hs t = none) → sm = offH hs 7 → okH hs → p' ≤ e ∧ sm' = offH hs' 7 ∧ okH hs' := by
  intro k
  induction k with
  | zero =>
    intro p lo sm hs p' sm' hs' h hp hn hs0 hk
    simp only [hl, Option.some.injEq, Prod.mk.injEq] at h
    obtain ⟨h1, h2, h3⟩ := h
    rw [← h1, ← h2, ← h3]; exact ⟨hp, hs0, hk⟩
  | succ k ih =>
    intro p lo sm hs p' sm' hs' h hp hn hs0 hk
    simp only [hl] at h
    split at h
    · cases ht : tblM (vb B p) with
      | none => rw [ht] at h; simp at h
      | some t =>
        rw [ht] at h
        simp only at h
        have t7 := tblM_lt ht
        split at h
        · simp at h
        · rename_i hge
          cases hr : rlen B e (p + 1) t with
          | none => rw [hr] at h; simp at h
          | some z =>
            obtain ⟨a, b, p1⟩ := z
            rw [hr] at h
            simp only at h
            have rb := rlen_b hb hr
            refine ih _ _ _ _ _ _ _ h (by omega) (fun u hu => ?_) ?_ ⟨fun u hu => ?_, fun u => ?_⟩
            · unfold upH; rw [if_neg (by omega)]; exact hn u (by omega)
            · rw [off_up (hn t (by omega)), if_pos t7, hs0]
            · by_cases hut : u = t
              · subst hut; rw [slH_up]; have := rb.2.2.2.2 hu; omega
              · have : slH (upH hs t (a, b)) u = slH hs u := by unfold slH upH; simp [hut]
                rw [this]; exact hk.1 u hu
            · by_cases hut : u = t
              · subst hut
                have : plH (upH hs u (a, b)) u = a := by unfold plH upH; simp
                rw [this]; omega
              · have : plH (upH hs t (a, b)) u = plH hs u := by unfold plH upH; simp [hut]
                rw [this]; exact hk.2 u
    · simp at h
theorem off_none (n : Nat) : offH (fun _ => none) n = 0 := by
  induction n with
  | zero => rfl
  | succ n ih => simp only [offH, ih]; rfl
theorem hd_ok {B : List Int32} {p z : Nat} {hs : Hs} (hb : ∀ b ∈ B, byt b) (h : hd B = some (p, z, hs)) : p ≤ B.length ∧ z ≤ 1000 ∧ offH hs 7 = z ∧ okH hs ∧ inH hs 0 = inH hs 1 := by
  unfold hd at h
  split at h
  · rename_i q
    cases h1 : hl B B.length (vb B 2) 3 0 0 (fun _ => none) with
    | none => rw [h1] at h; simp [hT] at h
    | some x =>
      obtain ⟨p1, sm, hs1⟩ := x
      rw [h1] at h
      simp only [hT] at h
      obtain ⟨b1, b2, b3⟩ := hl_ok hb _ _ _ _ _ _ _ _ h1 (by omega) (fun _ _ => rfl) (off_none 7).symm ⟨fun t _ => by show 0 ≤ 20; omega, fun t => by show 0 < 2097152; omega⟩
      split at h
      · rename_i q2
        cases h2 : nl B B.length p1 with
        | none => rw [h2] at h; simp at h
        | some y =>
          obtain ⟨z1, p2⟩ := y
          rw [h2] at h
          simp only at h
          have nb := nl_b hb h2
          split at h
          · rename_i q3
            simp at h
            obtain ⟨e1, e2, e3⟩ := h
            rw [← e1, ← e2, ← e3]
            exact ⟨by omega, by omega, by omega, b3, q2⟩
          · simp at h
      · simp at h
  · simp at h
