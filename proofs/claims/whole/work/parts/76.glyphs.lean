/-! the reference takes sizes and glyphs -/
def kZ (g k p : Nat) : Prop := (k = 21 ∧ p = g) ∨ (k = 25 ∧ 16 * g ≤ p ∧ p < 16 * g + 16) ∨ kC k p
theorem frZC {g : Nat} {S S1 : St} (h : fr kC S S1) : fr (kZ g) S S1 := h.mono (fun k p z => Or.inr (Or.inr z))
theorem frZB {g : Nat} {S S1 : St} (h : fr kB S S1) : fr (kZ g) S S1 := frZC (frCB h)
def zS (S : St) (g : Nat) (a : List Nat) : Prop := S.2.1 21 g = nI a.sum ∧ ∀ q, q < a.sum → S.2.1 25 (16 * g + q) = nI ((expC 0 a).getD q 0)
theorem zS.keep {K : Nat → Nat → Prop} {S S2 : St} {g : Nat} {a : List Nat} (h : zS S g a) (f : fr K S S2) (ha : a.sum ≤ 16) (hK : ∀ k q, K k q → (k = 21 → q ≠ g) ∧ (k = 25 → q < 16 * g ∨ 16 * g + 16 ≤ q)) : zS S2 g a := ⟨by rw [f.2.2 21 g (fun z => (hK _ _ z).1 rfl rfl)]; exact h.1, fun q hq => by rw [f.2.2 25 _ (fun z => by have := (hK _ _ z).2 rfl; omega)]; exact h.2 q hq⟩
theorem sm_takeSizes {S : St} {g n e p : Nat} {L : List Int32} {P : St → Prop} (hg : g < 6) (hn : S.2.1 20 g = nI n) (hn4 : n ≤ 4) (h : mu S L 1 e p) (hb : ∀ b ∈ L, byt b) (hp : p ≤ e)
    (h1 : ∀ a p' S2, szs L e n p [] = some (a, p') → fr (kZ g) S S2 → mu S2 L 1 e p' → zS S2 g a → P S2) (h0 : ∀ S2, szs L e n p [] = none → fr (kZ g) S S2 → bd S2 → P S2) : wp_X11_takeSizes S (nI g) P := by
  intro X9 X54 X55 X61 X107 X113 x9 x54 x55 x61 x107 x113
  have i10 : vp_in (nI g) (gw_ml 10) := pk_in g _ (show g < 6 from hg) rfl (by decide)
  have i11 : vp_in (nI g) (gw_ml 11) := pk_in g _ (show g < 6 from hg) rfl (by decide)
  have cg : (nI g).toNatClampNeg = g := nI_clamp (by omega)
  have b9 : ∀ S' v, szs L e n p [] = none → fr (kZ g) S S' → bd S' → X9 S' v := fun S' v hn f b => x9 _ _ ⟨i10, fun _ => x113 _ (h0 _ hn f b), fun _ => ⟨fun _ => x113 _ (h0 _ hn f b), fun z => by rw [b] at z; exact absurd z (by decide)⟩⟩
  have b61 : ∀ S' v2 v3, szs L e n p [] = none → fr (kZ g) S S' → bd S' → X61 S' v2 v3 0 := fun S' v2 v3 hn f b => x61 _ _ _ _ ⟨fun _ => x107 _ _ (fun x _ => b9 _ _ hn f b), fun _ => ⟨fun _ => x107 _ _ (fun x _ => b9 _ _ hn f b), fun z => by rw [b] at z; exact absurd z (by decide)⟩⟩
  have b55 : ∀ S' v2 v3 s, szs L e n p [] = none → fr (kZ g) S S' → (bd S' ∨ (S'.2.1 9 11 = 0 ∧ s = 0)) → X55 S' v2 v3 s := by
    intro S' v2 v3 s hn f b
    refine x55 _ _ _ _ (sm_check (b.elim (fun y => y.b) (fun y => Or.inl y.1)) (fun z y => ?_) (fun _ S2 f2 b2 => b61 _ _ _ hn (f.trans (frZB f2)) b2))
    rcases b with b | b
    · rw [b] at z; exact absurd z (by decide)
    · exact absurd b.2 y
  have key : ∀ m a p' S', a.length + m = n → a.sum ≤ 16 → szs L e n p [] = szs L e m p' a → p' ≤ e → fr (kZ g) S S' → mu S' L 1 e p' → zS S' g a → X9 S' (nI a.length) := by
    intro m
    induction m with
    | zero =>
      intro a p' S' hl hs ee hp' f u z
      simp only [szs] at ee
      have c20 : S'.2.1 20 (nI g).toNatClampNeg = nI n := by rw [cg, f.2.2 20 g (by unfold kZ kC; omega)]; exact hn
      refine x9 _ _ ⟨i10, fun _ => x113 _ (h1 a p' S' ee f u z), fun w => absurd (by rw [c20]; exact nI_le (by omega) (by omega)) w⟩
    | succ m ih =>
      intro a p' S' hl hs ee hp' f u z
      simp only [szs] at ee
      have c20 : S'.2.1 20 (nI g).toNatClampNeg = nI n := by rw [cg, f.2.2 20 g (by unfold kZ kC; omega)]; exact hn
      refine x9 _ _ ⟨i10, fun w => absurd w (by rw [c20]; exact nI_ge (by omega) (by omega)), fun _ => ⟨fun w => absurd u.b w, fun _ => ?_⟩⟩
      refine sm_ns u hb hp' (fun v p1 S18 hns f18 u18 => ?_) (fun v S18 hns f18 b18 => ?_)
      · rw [hns] at ee
        simp only at ee
        have nb := ns_b hb hns
        have fS := f.trans (frZC f18)
        have z18 : zS S18 g a := z.keep f18 hs (fun k q y => by unfold kC at y; omega)
        have no : szs L e n p [] = none → X54 S18 (nI a.length) (nI v) := fun w => x54 _ _ _ (b55 _ _ _ _ w fS (Or.inr ⟨u18.b, rfl⟩))
        rw [cg, z18.1, nI_add]
        refine pk_lt v 1 (fun w => no (by rw [ee, if_neg (by omega)])) (fun w => ⟨i11, pk_lt 16 (a.sum + v) (fun w2 => no (by rw [ee, if_neg (by omega)])) (fun w2 => ?_) rfl⟩) rfl
        rw [if_pos (by omega)] at ee
        refine x55 _ _ _ _ (sm_check (Or.inl u18.b) (fun _ _ => ?_) (fun y => y.elim (fun y => by rw [u18.b] at y; exact absurd y (by decide)) (fun y => absurd y (by decide))))
        -- v points of this contour
        have loop : ∀ d i S'', i + d = v → fr (kZ g) S S'' → mu S'' L 1 e p1 → S''.2.1 21 g = nI (a.sum + i) → (∀ q, q < a.sum + i → S''.2.1 25 (16 * g + q) = nI ((expC 0 (a ++ [v])).getD q 0)) → X61 S'' (nI a.length) (nI v) (nI i) := by
          intro d
          induction d with
          | zero =>
            intro i S'' hi f'' u'' g21 g25
            have : i = v := by omega
            subst this
            refine x61 _ _ _ _ ⟨fun _ => x107 _ _ (fun x29 e29 => ?_), fun w => absurd (Int32.le_refl _) w⟩
            rw [e29, nI_1]
            have := ih (a ++ [i]) p1 S'' (by simp; omega) (by simp; omega) ee (by omega) f'' u'' ⟨by rw [g21]; simp, fun q hq => g25 q (by simpa using hq)⟩
            simpa using this
          | succ d ihd =>
            intro i S'' hi f'' u'' g21 g25
            refine x61 _ _ _ _ ⟨fun w => absurd w (nI_ge (by omega) (by omega)), fun _ => ⟨fun w => absurd u''.b w, fun _ => ?_⟩⟩
            rw [cg, g21, i16, nI_clamp (by omega)]
            refine ⟨i11, pk_in _ _ (show _ < 96 by omega) rfl (by decide), fun S26 e26 => ⟨i11, i11, fun S27 e27 x28 e28 => ?_⟩⟩
            rw [e28, nI_1]
            have f27 : fr (kZ g) S'' S27 := by
              rw [e27, e26]
              exact fr_m (fr_m (fr.refl _) (Or.inr (Or.inl ⟨rfl, by omega, by omega⟩))) (Or.inl ⟨rfl, rfl⟩)
            refine ihd (i + 1) S27 (by omega) (f''.trans f27) ?_ ?_ (fun q hq => ?_)
            · rw [e27, e26]; exact mu_m (mu_m u'' (by omega)) (by omega)
            · rw [e27, stM_self, e26, stM_k (by omega), g21, nI_1]; rfl
            · rw [e27, stM_k (by omega), e26]
              by_cases hq2 : q = a.sum + i
              · subst hq2
                rw [stM_self]
                congr 1
                rw [expC_app, List.getD_eq_getElem?_getD, List.getElem?_append_right (by rw [expC_len]; omega), List.getElem?_replicate, if_pos (by rw [expC_len]; omega)]
                simp
              · rw [stM_p (by omega)]; exact g25 q (by omega)
        refine loop v 0 S18 (by omega) fS u18 (by rw [z18.1]; rfl) (fun q hq => ?_)
        rw [z18.2 q (by omega), expC_app]
        congr 1
        rw [List.getD_eq_getElem?_getD, List.getD_eq_getElem?_getD, List.getElem?_append_left (by rw [expC_len]; omega)]
      · rw [hns] at ee
        have fS := f.trans (frZC f18)
        have g54 : X54 S18 (nI a.length) v := x54 _ _ _ (b55 _ _ _ _ ee fS (Or.inl b18))
        exact ⟨fun _ => g54, fun _ => ⟨i11, fun _ => g54, fun _ => b55 _ _ _ _ ee fS (Or.inl b18)⟩⟩
  refine ⟨i11, fun S30 e30 => ?_⟩
  rw [cg] at e30
  have f30 : fr (kZ g) S S30 := by rw [e30]; exact fr_m (fr.refl S) (Or.inl ⟨rfl, rfl⟩)
  exact key n [] p S30 (by simp) (by simp) rfl hp f30 (by rw [e30]; exact mu_m h (by omega)) ⟨by rw [e30, stM_self]; rfl, fun q hq => by simp at hq⟩
/-- a glyph that was taken -/
def nG (S : St) (g : Nat) (G : Gl) : Prop := S.2.1 20 g = nI G.2.1.length ∧ zS S g G.2.1 ∧ ∀ p, p < G.2.1.sum → S.2.1 22 (16 * g + p) = G.2.2.1.getD p 0 ∧ S.2.1 23 (16 * g + p) = G.2.2.2.1.getD p 0 ∧ (if 128 ≤ S.2.1 24 (16 * g + p) then (0 : Int32) else 1) = G.2.2.2.2.getD p 0
def kN (k p : Nat) : Prop := (20 ≤ k ∧ k ≤ 25) ∨ (k = 9 ∧ (p = 2 ∨ p = 8 ∨ p = 11))
theorem frNC {S S1 : St} (h : fr kC S S1) : fr kN S S1 := h.mono (fun k p z => by unfold kC at z; unfold kN; omega)
theorem frNB {S S1 : St} (h : fr kB S S1) : fr kN S S1 := h.mono (fun k p z => by unfold kB at z; unfold kN; omega)
theorem frNZ {g : Nat} {S S1 : St} (h : fr (kZ g) S S1) : fr kN S S1 := h.mono (fun k p z => by unfold kZ kC at z; unfold kN; omega)
theorem frNS {n : Nat} {S S1 : St} (h : fr (kS n) S S1) : fr kN S S1 := h.mono (fun k p z => by unfold kS kC at z; unfold kN; omega)
theorem psum_le {s : List (List Nat)} (hs : ∀ a ∈ s, okS a) : tot s ≤ 16 * s.length := by
  induction s with
  | nil => simp [tot]
  | cons a s ih =>
    have h1 := (hs a (by simp)).2.1
    have h2 := ih (fun x hx => hs x (by simp [hx]))
    rw [tot_cons, List.length_cons]; omega
theorem tot_take_succ {s : List (List Nat)} {g : Nat} (hg : g < s.length) : tot (s.take (g + 1)) = tot (s.take g) + (s[g]).sum := by
  rw [List.take_add_one, List.getElem?_eq_getElem hg]
  show tot (s.take g ++ [s[g]]) = _
  rw [tot_app]
theorem sm_takeGlyphs {S : St} {e : Nat} {L : List Int32} {P : St → Prop} (h : mu S L 1 e 0) (hb : ∀ b ∈ L, byt b)
    (h1 : ∀ gs S2, ol L e = some gs → fr kN S S2 → S2.2.1 9 11 = 0 → S2.2.1 9 2 = nI gs.length → (∀ (g : Nat) (G : Gl), gs[g]? = some G → nG S2 g G) → P S2) (h0 : ∀ S2, ol L e = none → fr kN S S2 → bd S2 → P S2) : wp_X11_takeGlyphs S P := by
  intro X30 X31 X44 X78 X89 X115 X117 X134 X171 X173 X190 X218 X235 x30 x31 x44 x78 x89 x115 x117 x134 x171 x173 x190 x218 x235
  have he := h.2.2.2.2.2.1
  -- bad ends
  have b218 : ∀ S', ol L e = none → fr kN S S' → bd S' → X218 S' := by
    intro S' hn f b
    have k235 : ∀ s, X235 S' s := fun s => x235 _ _ (sm_check b.b (fun z => by rw [b] at z; exact absurd z (by decide)) (fun _ S2 f2 b2 => h0 _ hn (f.trans (frNB f2)) b2))
    exact x218 _ ⟨fun _ => k235 _, fun _ => k235 _⟩
  have b173 : ∀ S' v, ol L e = none → fr kN S S' → bd S' → X173 S' v := fun S' v hn f b => x173 _ _ ⟨fun _ => b218 _ hn f b, fun _ => ⟨fun _ => b218 _ hn f b, fun z => by rw [b] at z; exact absurd z (by decide)⟩⟩
  have b117 : ∀ S' v, ol L e = none → fr kN S S' → bd S' → X117 S' v := fun S' v hn f b => x117 _ _ ⟨fun _ => x171 _ (b173 _ _ hn f b), fun _ => ⟨fun _ => x171 _ (b173 _ _ hn f b), fun z => by rw [b] at z; exact absurd z (by decide)⟩⟩
  have b89 : ∀ S' v, ol L e = none → fr kN S S' → bd S' → X89 S' v := fun S' v hn f b => x89 _ _ ⟨fun _ => x115 _ (b117 _ _ hn f b), fun _ => ⟨fun _ => x115 _ (b117 _ _ hn f b), fun z => by rw [b] at z; exact absurd z (by decide)⟩⟩
  have b44 : ∀ m n i S', ol L e = none → i + m = n → n ≤ 6 → fr kN S S' → S'.2.1 9 2 = nI n → bd S' → X44 S' (nI i) := by
    intro m
    induction m with
    | zero =>
      intro n i S' hn hi hn6 f k b
      exact x44 _ _ ⟨fun _ => b89 _ _ hn f b, fun z => absurd (by rw [k]; exact nI_le (by omega) (by omega)) z⟩
    | succ m ih =>
      intro n i S' hn hi hn6 f k b
      have i10 : vp_in (nI i) (gw_ml 10) := pk_in i _ (show i < 6 by omega) rfl (by decide)
      refine x44 _ _ ⟨fun z => absurd z (by rw [k]; exact nI_ge (by omega) (by omega)), fun _ => sm_next_bd b (fun S44 f44 c44 => ⟨i10, fun S46 e46 => ⟨i10, ?_⟩⟩)⟩
      have f46 : fr kN S' S46 := by rw [e46]; exact fr_m (frNC f44) (by unfold kN; omega)
      have c46 : bd S46 := by rw [e46]; exact bd_m c44 (by omega)
      have k78 : ∀ s, X78 S46 (nI i) s := fun s => x78 _ _ _ (sm_check c46.b (fun z => by rw [c46] at z; exact absurd z (by decide)) (fun _ S2 f2 b2 x50 e50 => by
        rw [e50, nI_1]
        refine ih n (i + 1) S2 hn (by omega) hn6 ((f.trans f46).trans (frNB f2)) ?_ b2
        rw [f2.2.2 9 2 (by unfold kB; omega), e46, stM_k (by omega), f44.2.2 9 2 (by unfold kC; omega)]; exact k))
      exact ⟨fun _ => k78 _, fun _ => k78 _⟩
  -- all is known but the points
  have pnt : ∀ s p', (∀ a ∈ s, okS a) → s.length ≤ 6 → (ol L e = if p' + tot s ≤ e then (match gls L e s p' (p' + tot s) [] with | none => none | some (gs, pd) => if pd = e then some gs else none) else none) → p' + tot s ≤ e → ∀ S', fr kN S S' → S'.2.1 9 2 = nI s.length → mu S' L 1 e (p' + tot s) → (∀ (g : Nat) (a : List Nat), s[g]? = some a → S'.2.1 20 g = nI a.length ∧ zS S' g a ∧ ∀ p, p < a.sum → S'.2.1 24 (16 * g + p) = nI (vb L (p' + tot (s.take g) + p))) → X171 S' := by
    intro s p' hok hs6 eol hle S0 f0' k0 u0 hk0
    rw [if_pos hle] at eol
    -- glyph after glyph
    have key : ∀ m gi pd acc S', gi + m = s.length → gls L e s p' (p' + tot s) [] = gls L e (s.drop gi) (p' + tot (s.take gi)) pd acc → pd ≤ e → acc.length = gi → fr kN S S' → (∀ k q, ¬ (k = 22 ∨ k = 23) → k ≠ 9 → S'.2.1 k q = S0.2.1 k q) → S'.2.1 9 2 = nI s.length → mu S' L 1 e pd → (∀ (g : Nat) (G : Gl), acc[g]? = some G → s[g]? = some G.2.1 ∧ ∀ p, p < G.2.1.sum → S'.2.1 22 (16 * g + p) = G.2.2.1.getD p 0 ∧ S'.2.1 23 (16 * g + p) = G.2.2.2.1.getD p 0 ∧ onB L (p' + tot (s.take g) + p) = G.2.2.2.2.getD p 0) → X173 S' (nI gi) := by
      intro m
      induction m with
      | zero =>
        intro gi pd acc S' hgi ee hpd hacc f oth k u hG
        rw [List.drop_of_length_le (by omega)] at ee
        simp only [gls] at ee
        rw [ee] at eol
        simp only at eol
        have hN : ∀ (g : Nat) (G : Gl), acc[g]? = some G → nG S' g G := by
          intro g G eg
          obtain ⟨q1, q2⟩ := hG g G eg
          obtain ⟨r1, r2, r3⟩ := hk0 g _ q1
          refine ⟨by rw [oth 20 g (by omega) (by omega)]; exact r1, ⟨by rw [oth 21 g (by omega) (by omega)]; exact r2.1, fun q hq => by rw [oth 25 _ (by omega) (by omega)]; exact r2.2 q hq⟩, fun p hp => ⟨(q2 p hp).1, (q2 p hp).2.1, ?_⟩⟩
          have hv := vb_lt hb (p' + tot (s.take g) + p)
          rw [oth 24 _ (by omega) (by omega), r3 p hp, ← (q2 p hp).2.2]
          unfold onB
          by_cases w : 128 ≤ vb L (p' + tot (s.take g) + p)
          · rw [if_pos (show (128 : Int32) ≤ nI _ from nI_le (a := 128) w (by omega)), if_pos w]
          · rw [if_neg (show ¬ (128 : Int32) ≤ nI _ from nI_ge (b := 128) (by omega) (by omega)), if_neg w]
        refine x173 _ _ ⟨fun _ => ?_, fun z => absurd (by rw [k]; exact nI_le (by omega) (by omega)) z⟩
        refine x218 _ (And.symm (pk_eq pd e (fun w => x235 _ _ (sm_check (Or.inl u.b) (fun _ _ => h1 acc S' (by rw [eol, if_pos w]) f u.b (by rw [k]; congr 1; omega) hN) (fun y => y.elim (fun y => by rw [u.b] at y; exact absurd y (by decide)) (fun y => absurd y (by decide))))) (fun w => x235 _ _ (sm_check (Or.inl u.b) (fun _ y => absurd rfl y) (fun _ S2 f2 b2 => h0 _ (by rw [eol, if_neg w]) (f.trans (frNB f2)) b2))) u.1 u.2.1))
      | succ m ih =>
        intro gi pd acc S' hgi ee hpd hacc f oth k u hG
        have hg : gi < s.length := by omega
        rw [List.drop_eq_getElem_cons hg] at ee
        simp only [gls] at ee
        have esg := List.getElem?_eq_getElem hg
        obtain ⟨k20, kz, k24⟩ := hk0 gi s[gi] esg
        obtain ⟨s1, s2, s3⟩ := hok s[gi] (List.getElem_mem hg)
        have tt := tot_take_succ hg
        generalize ha : s[gi] = a at *
        have i11 : vp_in (nI gi) (gw_ml 11) := pk_in gi _ (show gi < 6 by omega) rfl (by decide)
        have cgi : (nI gi).toNatClampNeg = gi := nI_clamp (by omega)
        refine x173 _ _ ⟨fun z => absurd z (by rw [k]; exact nI_ge (by omega) (by omega)), fun _ => ⟨fun w => absurd u.b w, fun _ => ?_⟩⟩
        have none_of : pts L e a.sum (p' + tot (s.take gi)) pd 0 0 ([], [], []) = none → ol L e = none := fun w => by
          rw [w] at ee; rw [ee] at eol; exact eol
        -- bad within a glyph
        have badp : pts L e a.sum (p' + tot (s.take gi)) pd 0 0 ([], [], []) = none → ∀ d i S'', i + d = a.sum → fr kN S S'' → S''.2.1 21 gi = nI a.sum → bd S'' → X190 S'' (nI gi) (nI i) := by
          intro hn d
          induction d with
          | zero =>
            intro i S'' hi f'' k21 b
            refine x190 _ _ _ ⟨i11, fun _ x67 e67 => b173 _ _ (none_of hn) f'' b, fun z => absurd (by rw [cgi, k21]; exact nI_le (by omega) (by omega)) z⟩
          | succ d ihd =>
            intro i S'' hi f'' k21 b
            refine x190 _ _ _ ⟨i11, fun z => absurd z (by rw [cgi, k21]; exact nI_ge (by omega) (by omega)), fun _ => sm_takeStep_bd (by omega) (by omega) b (fun S2 f2 b2 x70 e70 => ?_)⟩
            rw [e70, nI_1]
            refine ihd (i + 1) S2 (by omega) (f''.trans (frNS f2)) ?_ b2
            rw [f2.2.2 21 gi (by unfold kS kC; omega)]; exact k21
        have ptk : ∀ d i pd1 x y xs ys os S'', i + d = a.sum → pts L e a.sum (p' + tot (s.take gi)) pd 0 0 ([], [], []) = pts L e d (p' + tot (s.take gi) + i) pd1 x y (xs, ys, os) → pd1 ≤ e → fr kN S S'' → (∀ k q, ¬ (k = 22 ∨ k = 23) → k ≠ 9 → S''.2.1 k q = S0.2.1 k q) → (∀ k q, (k = 22 ∨ k = 23) → ¬ (16 * gi ≤ q ∧ q < 16 * gi + 16) → S''.2.1 k q = S'.2.1 k q) → S''.2.1 9 2 = nI s.length → mu S'' L 1 e pd1 → (if i = 0 then 0 else S''.2.1 22 (16 * gi + i - 1)) = x → (if i = 0 then 0 else S''.2.1 23 (16 * gi + i - 1)) = y → xs.length = i → ys.length = i → os.length = i → (∀ q, q < i → S''.2.1 22 (16 * gi + q) = xs.getD q 0 ∧ S''.2.1 23 (16 * gi + q) = ys.getD q 0 ∧ onB L (p' + tot (s.take gi) + q) = os.getD q 0) → X190 S'' (nI gi) (nI i) := by
          intro d
          induction d with
          | zero =>
            intro i pd1 x y xs ys os S'' hi ep hpd1 f'' oth'' othx k'' u'' ex ey l1 l2 l3 hq
            simp only [pts] at ep
            rw [ep] at ee
            simp only at ee
            have hia : i = a.sum := by omega
            have k21 : S''.2.1 21 gi = nI a.sum := by rw [oth'' 21 gi (by omega) (by omega)]; exact kz.1
            refine x190 _ _ _ ⟨i11, fun _ x67 e67 => ?_, fun z => absurd (by rw [cgi, k21]; exact nI_le (by omega) (by omega)) z⟩
            rw [e67, nI_1]
            refine ih (gi + 1) pd1 (acc ++ [(0, a, xs, ys, os)]) S'' (by omega) (by rw [ee, tt, Nat.add_assoc]) hpd1 (by simp; omega) f'' oth'' k'' u'' (fun g G eg => ?_)
            by_cases hgg : g < acc.length
            · rw [List.getElem?_append_left hgg] at eg
              obtain ⟨q1, q2⟩ := hG g G eg
              have hm := (hok _ (List.mem_iff_getElem?.mpr ⟨g, q1⟩)).2.1
              refine ⟨q1, fun p hp => ?_⟩
              rw [othx 22 _ (Or.inl rfl) (by omega), othx 23 _ (Or.inr rfl) (by omega)]
              exact q2 p hp
            · have hge : g = acc.length := by
                have := (List.getElem?_eq_some_iff.mp eg).1
                simp at this; omega
              subst hge
              simp at eg
              subst eg
              rw [hacc]
              refine ⟨esg, fun p hp => ?_⟩
              exact hq p (by have : p < a.sum := hp; omega)
          | succ d ihd =>
            intro i pd1 x y xs ys os S'' hi ep hpd1 f'' oth'' othx k'' u'' ex ey l1 l2 l3 hq
            simp only [pts] at ep
            have k21 : S''.2.1 21 gi = nI a.sum := by rw [oth'' 21 gi (by omega) (by omega)]; exact kz.1
            have hv := vb_lt hb (p' + tot (s.take gi) + i)
            refine x190 _ _ _ ⟨i11, fun z => absurd z (by rw [cgi, k21]; exact nI_ge (by omega) (by omega)), fun _ => ?_⟩
            refine sm_takeStep (sb := vb L (p' + tot (s.take gi) + i)) (by omega) (by omega) u'' hb hpd1 (by rw [oth'' 24 _ (by omega) (by omega)]; exact k24 i (by omega)) hv ex ey (fun dx dy pd2 S2 hrs hn f2 u2 g22 g23 x70 e70 => ?_) (fun S2 hno f2 b2 x70 e70 => ?_)
            · rw [hrs] at ep
              simp only at ep
              rw [if_pos hn] at ep
              have rb := rs_b hrs
              rw [e70, nI_1]
              have keep : ∀ k q, ¬ (k = 22 ∨ k = 23) → k ≠ 9 → S2.2.1 k q = S''.2.1 k q := fun k q a b => f2.2.2 k q (by unfold kS kC; omega)
              refine ihd (i + 1) pd2 (x + dx) (y + dy) _ _ _ S2 (by omega) ep (by omega) (f''.trans (frNS f2)) (fun k q a b => by rw [keep k q a b]; exact oth'' k q a b) (fun k q a b => by rw [f2.2.2 k q (by unfold kS kC; omega)]; exact othx k q a b) (by rw [f2.2.2 9 2 (by unfold kS kC; omega)]; exact k'') u2 ?_ ?_ (by simp; omega) (by simp; omega) (by simp; omega) (fun q hq1 => ?_)
              · rw [if_neg (by omega)]; exact g22
              · rw [if_neg (by omega)]; exact g23
              · by_cases hqi : q = i
                · subst hqi
                  rw [g22, g23]
                  refine ⟨?_, ?_, ?_⟩
                  · rw [List.getD_eq_getElem?_getD, List.getElem?_append_right (by omega), l1, Nat.sub_self]; rfl
                  · rw [List.getD_eq_getElem?_getD, List.getElem?_append_right (by omega), l2, Nat.sub_self]; rfl
                  · rw [List.getD_eq_getElem?_getD, List.getElem?_append_right (by omega), l3, Nat.sub_self]; rfl
                · obtain ⟨w1, w2, w3⟩ := hq q (by omega)
                  refine ⟨?_, ?_, ?_⟩
                  · rw [f2.2.2 22 _ (by unfold kS kC; omega), w1, List.getD_eq_getElem?_getD, List.getD_eq_getElem?_getD, List.getElem?_append_left (by omega)]
                  · rw [f2.2.2 23 _ (by unfold kS kC; omega), w2, List.getD_eq_getElem?_getD, List.getD_eq_getElem?_getD, List.getElem?_append_left (by omega)]
                  · rw [w3, List.getD_eq_getElem?_getD, List.getD_eq_getElem?_getD, List.getElem?_append_left (by omega)]
            · have hn : pts L e a.sum (p' + tot (s.take gi)) pd 0 0 ([], [], []) = none := by
                rw [ep]
                cases hrs : rs L e (vb L (p' + tot (s.take gi) + i) % 128) pd1 with
                | none => rfl
                | some z =>
                  obtain ⟨dx, dy, pd2⟩ := z
                  simp only
                  rw [if_neg (hno _ _ _ hrs)]
              rw [e70, nI_1]
              refine badp hn d (i + 1) S2 (by omega) (f''.trans (frNS f2)) ?_ b2
              rw [f2.2.2 21 gi (by unfold kS kC; omega)]; exact k21
        exact ptk a.sum 0 pd 0 0 [] [] [] S' (by omega) rfl hpd f oth (fun _ _ _ _ => rfl) k u rfl rfl rfl rfl rfl (fun q hq => by omega)
    refine x171 _ (key s.length 0 (p' + tot s) [] S0 (by omega) (by simp [tot]) hle rfl f0' (fun _ _ _ _ => rfl) k0 u0 (fun g G eg => by simp at eg))
  -- the signs
  have sgn : ∀ s p', (∀ a ∈ s, okS a) → s.length ≤ 6 → p' ≤ e → (ol L e = if p' + tot s ≤ e then (match gls L e s p' (p' + tot s) [] with | none => none | some (gs, pd) => if pd = e then some gs else none) else none) → ∀ S', fr kN S S' → S'.2.1 9 2 = nI s.length → mu S' L 1 e p' → (∀ (g : Nat) (a : List Nat), s[g]? = some a → S'.2.1 20 g = nI a.length ∧ zS S' g a) → X115 S' := by
    intro s p' hok hs6 hp' eol S0 f0' k0 u0 hk0
    have key : ∀ m gi S', gi + m = s.length → p' + tot (s.take gi) ≤ e → fr kN S S' → (∀ k q, k ≠ 24 → k ≠ 9 → S'.2.1 k q = S0.2.1 k q) → S'.2.1 9 2 = nI s.length → mu S' L 1 e (p' + tot (s.take gi)) → (∀ (g : Nat) (a : List Nat), g < gi → s[g]? = some a → ∀ p, p < a.sum → S'.2.1 24 (16 * g + p) = nI (vb L (p' + tot (s.take g) + p))) → X117 S' (nI gi) := by
      intro m
      induction m with
      | zero =>
        intro gi S' hgi hle f oth k u hG
        have hgs : gi = s.length := by omega
        rw [hgs, List.take_of_length_le (Nat.le_refl _)] at u hle
        refine x117 _ _ ⟨fun _ => pnt s p' hok hs6 eol hle S' f k u (fun g a eg => ?_), fun z => absurd (by rw [k]; exact nI_le (by omega) (by omega)) z⟩
        obtain ⟨q1, q2⟩ := hk0 g a eg
        have hgl := (List.getElem?_eq_some_iff.mp eg).1
        refine ⟨by rw [oth 20 g (by omega) (by omega)]; exact q1, ⟨by rw [oth 21 g (by omega) (by omega)]; exact q2.1, fun q hq => by rw [oth 25 _ (by omega) (by omega)]; exact q2.2 q hq⟩, hG g a (by omega) eg⟩
      | succ m ih =>
        intro gi S' hgi hle f oth k u hG
        have hg : gi < s.length := by omega
        have esg := List.getElem?_eq_getElem hg
        obtain ⟨k20, kz⟩ := hk0 gi s[gi] esg
        obtain ⟨s1, s2, s3⟩ := hok s[gi] (List.getElem_mem hg)
        have tt := tot_take_succ hg
        have tle : tot (s.take (gi + 1)) ≤ tot s := by
          have : s = s.take (gi + 1) ++ s.drop (gi + 1) := (List.take_append_drop _ _).symm
          conv => rhs; rw [this]
          unfold tot
          rw [List.map_append, List.sum_append]; omega
        generalize ha : s[gi] = a at *
        have i11 : vp_in (nI gi) (gw_ml 11) := pk_in gi _ (show gi < 6 by omega) rfl (by decide)
        have cgi : (nI gi).toNatClampNeg = gi := nI_clamp (by omega)
        refine x117 _ _ ⟨fun z => absurd z (by rw [k]; exact nI_ge (by omega) (by omega)), fun _ => ⟨fun w => absurd u.b w, fun _ => ?_⟩⟩
        have badp : ol L e = none → ∀ d i S'', i + d = a.sum → fr kN S S'' → S''.2.1 21 gi = nI a.sum → bd S'' → X134 S'' (nI gi) (nI i) := by
          intro hn d
          induction d with
          | zero =>
            intro i S'' hi f'' k21 b
            exact x134 _ _ _ ⟨i11, fun _ x59 e59 => b117 _ _ hn f'' b, fun z => absurd (by rw [cgi, k21]; exact nI_le (by omega) (by omega)) z⟩
          | succ d ihd =>
            intro i S'' hi f'' k21 b
            refine x134 _ _ _ ⟨i11, fun z => absurd z (by rw [cgi, k21]; exact nI_ge (by omega) (by omega)), fun _ => sm_next_bd b (fun S60 f60 b60 => ⟨by rw [i16]; exact pk_in _ _ (show _ < 96 by omega) rfl (by decide), fun S62 e62 x63 e63 => ?_⟩)⟩
            rw [e63, nI_1]
            refine ihd (i + 1) S62 (by omega) (f''.trans (by rw [e62]; exact fr_m (frNC f60) (by unfold kN; omega))) ?_ (by rw [e62]; exact bd_m b60 (by omega))
            rw [e62, stM_k (by omega), f60.2.2 21 gi (by unfold kC; omega)]; exact k21
        have sk : ∀ d i S'', i + d = a.sum → p' + tot (s.take gi) + i ≤ e → fr kN S S'' → (∀ k q, k ≠ 24 → k ≠ 9 → S''.2.1 k q = S0.2.1 k q) → (∀ q, ¬ (16 * gi ≤ q ∧ q < 16 * gi + 16) → S''.2.1 24 q = S'.2.1 24 q) → S''.2.1 9 2 = nI s.length → mu S'' L 1 e (p' + tot (s.take gi) + i) → (∀ q, q < i → S''.2.1 24 (16 * gi + q) = nI (vb L (p' + tot (s.take gi) + q))) → X134 S'' (nI gi) (nI i) := by
          intro d
          induction d with
          | zero =>
            intro i S'' hi hle2 f'' oth'' othx k'' u'' hq
            have hia : i = a.sum := by omega
            have k21 : S''.2.1 21 gi = nI a.sum := by rw [oth'' 21 gi (by omega) (by omega)]; exact kz.1
            refine x134 _ _ _ ⟨i11, fun _ x59 e59 => ?_, fun z => absurd (by rw [cgi, k21]; exact nI_le (by omega) (by omega)) z⟩
            rw [e59, nI_1]
            rw [hia] at hle2 u''
            refine ih (gi + 1) S'' (by omega) (by rw [tt, ← Nat.add_assoc]; exact hle2) f'' oth'' k'' (by rw [tt, ← Nat.add_assoc]; exact u'') (fun g b hgg eg p hp => ?_)
            by_cases hge : g = gi
            · subst hge
              rw [esg] at eg
              simp at eg
              subst eg
              exact hq p (by omega)
            · have hm := (hok _ (List.mem_iff_getElem?.mpr ⟨g, eg⟩)).2.1
              rw [othx _ (by omega)]
              exact hG g b (by omega) eg p hp
          | succ d ihd =>
            intro i S'' hi hle2 f'' oth'' othx k'' u'' hq
            have k21 : S''.2.1 21 gi = nI a.sum := by rw [oth'' 21 gi (by omega) (by omega)]; exact kz.1
            refine x134 _ _ _ ⟨i11, fun z => absurd z (by rw [cgi, k21]; exact nI_ge (by omega) (by omega)), fun _ => sm_next u'' hb hle2 (fun S60 hlt f60 u60 => ⟨by rw [i16]; exact pk_in _ _ (show _ < 96 by omega) rfl (by decide), fun S62 e62 x63 e63 => ?_⟩) (fun S60 hge f60 b60 => ⟨by rw [i16]; exact pk_in _ _ (show _ < 96 by omega) rfl (by decide), fun S62 e62 x63 e63 => ?_⟩)⟩
            · rw [i16, nI_clamp (by omega)] at e62
              rw [e63, nI_1]
              refine ihd (i + 1) S62 (by omega) (by omega) (f''.trans (by rw [e62]; exact fr_m (frNC f60) (by unfold kN; omega))) (fun k q a b => ?_) (fun q hq1 => ?_) ?_ ?_ (fun q hq1 => ?_)
              · rw [e62, stM_k a, f60.2.2 k q (by unfold kC; omega)]; exact oth'' k q a b
              · rw [e62, stM_p (by omega), f60.2.2 24 q (by unfold kC; omega)]; exact othx q hq1
              · rw [e62, stM_k (by omega), f60.2.2 9 2 (by unfold kC; omega)]; exact k''
              · rw [e62]; exact mu_m u60 (by omega)
              · rw [e62]
                by_cases hqi : q = i
                · subst hqi; rw [stM_self]
                · rw [stM_p (by omega), f60.2.2 24 _ (by unfold kC; omega)]; exact hq q (by omega)
            · rw [e63, nI_1]
              refine badp (by rw [eol, if_neg (by omega)]) d (i + 1) S62 (by omega) (f''.trans (by rw [e62]; exact fr_m (frNC f60) (by unfold kN; omega))) ?_ (by rw [e62]; exact bd_m b60 (by omega))
              rw [e62, stM_k (by omega), f60.2.2 21 gi (by unfold kC; omega)]; exact k21
        exact sk a.sum 0 S' (by omega) hle f oth (fun _ _ => rfl) k u (fun q hq => by omega)
    refine x115 _ (key s.length 0 S0 (by omega) (by simpa [tot] using hp') f0' (fun _ _ _ _ => rfl) k0 (by simpa [tot] using u0) (fun g a hg => by omega))
  -- the sizes
  have siz : ∀ cs p0, olH L e = some (cs, p0) → ∀ S', fr kN S S' → S'.2.1 9 2 = nI cs.length → mu S' L 1 e p0 → (∀ (g : Nat) (c : Nat), cs[g]? = some c → S'.2.1 20 g = nI c) → X89 S' 0 := by
    intro cs p0 ho S0 f0' k0 u0 hk0
    have ob := olH_b ho
    have eol : ol L e = match szL L e cs p0 [] with | none => none | some (s, p') => if p' + tot s ≤ e then (match gls L e s p' (p' + tot s) [] with | none => none | some (gs, pd) => if pd = e then some gs else none) else none := by unfold ol; rw [ho]; rfl
    have key : ∀ m acc p' S', acc.length + m = cs.length → szL L e cs p0 [] = szL L e (cs.drop acc.length) p' acc → p' ≤ e → (∀ a ∈ acc, okS a) → fr kN S S' → (∀ q, S'.2.1 20 q = S0.2.1 20 q) → S'.2.1 9 2 = nI cs.length → mu S' L 1 e p' → (∀ (g : Nat) (a : List Nat), acc[g]? = some a → S'.2.1 20 g = nI a.length ∧ zS S' g a) → X89 S' (nI acc.length) := by
      intro m
      induction m with
      | zero =>
        intro acc p' S' hl ee hp' hok f o20 k u hG
        rw [List.drop_of_length_le (by omega)] at ee
        simp only [szL] at ee
        rw [ee] at eol
        simp only at eol
        refine x89 _ _ ⟨fun _ => sgn acc p' hok (by omega) hp' eol S' f (by rw [k]; congr 1; omega) u hG, fun z => absurd (by rw [k]; exact nI_le (by omega) (by omega)) z⟩
      | succ m ih =>
        intro acc p' S' hl ee hp' hok f o20 k u hG
        have hg : acc.length < cs.length := by omega
        have ecg := List.getElem?_eq_getElem hg
        rw [List.drop_eq_getElem_cons hg] at ee
        simp only [szL] at ee
        have h4 := ob.2.2.2 cs[acc.length] (List.getElem_mem hg)
        have k20 : S'.2.1 20 acc.length = nI cs[acc.length] := by rw [o20]; exact hk0 _ _ ecg
        generalize hc : cs[acc.length] = c at *
        refine x89 _ _ ⟨fun z => absurd z (by rw [k]; exact nI_ge (by omega) (by omega)), fun _ => ⟨fun w => absurd u.b w, fun _ => ?_⟩⟩
        refine sm_takeSizes (by omega) k20 h4 u hb hp' (fun a p1 S53 hs f53 u53 z53 x55 e55 => ?_) (fun S53 hs f53 b53 x55 e55 => b89 _ _ (by rw [hs] at ee; rw [ee] at eol; exact eol) (f.trans (frNZ f53)) b53)
        rw [hs] at ee
        simp only at ee
        obtain ⟨b1, b2, b3, b4, b5⟩ := szs_b hb _ _ _ _ _ hp' hs (by simp) (by simp)
        simp at b3
        rw [e55, nI_1]
        have := ih (acc ++ [a]) p1 S53 (by simp; omega) (by rw [ee]; simp) b1 (fun x hx => by
          simp only [List.mem_append, List.mem_singleton] at hx
          rcases hx with hx | hx
          · exact hok x hx
          · rw [hx]; exact ⟨by omega, b4, b5⟩) (f.trans (frNZ f53)) (fun q => by rw [f53.2.2 20 q (by unfold kZ kC; omega)]; exact o20 q) (by rw [f53.2.2 9 2 (by unfold kZ kC; omega)]; exact k) u53 (fun g x eg => by
          by_cases hgg : g < acc.length
          · rw [List.getElem?_append_left hgg] at eg
            obtain ⟨q1, q2⟩ := hG g x eg
            have hm := (hok _ (List.mem_iff_getElem?.mpr ⟨g, eg⟩)).2.1
            refine ⟨by rw [f53.2.2 20 g (by unfold kZ kC; omega)]; exact q1, q2.keep f53 hm (fun k q y => by unfold kZ kC at y; omega)⟩
          · have hge : g = acc.length := by
              have := (List.getElem?_eq_some_iff.mp eg).1
              simp at this; omega
            subst hge
            simp at eg
            subst eg
            exact ⟨by rw [f53.2.2 20 _ (by unfold kZ kC; omega), k20]; congr 1; omega, z53⟩)
        simpa using this
    exact key cs.length [] p0 S0 (by simp) (by simp) ob.1 (by simp) f0' (fun _ => rfl) k0 u0 (fun g a eg => by simp at eg)
  -- how many
  refine sm_next h hb (by omega) (fun S74 hlt f74 u74 S76 e76 => ?_) (fun S74 hge f74 b74 S76 e76 => ?_)
  · have v0 := vb_lt hb 0
    have f76 : fr kN S S76 := by rw [e76]; exact fr_m (frNC f74) (by unfold kN; omega)
    have u76 : mu S76 L 1 e 1 := by rw [e76]; exact mu_m u74 (by omega)
    have g76 : S76.2.1 9 2 = nI (vb L 0) := by rw [e76, stM_self]
    rw [g76]
    have no : ¬ (1 ≤ vb L 0 ∧ vb L 0 ≤ 6) → X30 S76 := fun w => x30 _ (x31 _ _ (sm_check (Or.inl u76.b) (fun _ y => absurd rfl y) (fun _ S2 f2 b2 => ⟨fun z => by rw [b2] at z; exact absurd z (by decide), fun _ => h0 _ (by have q : olH L e = none := (by unfold olH; rw [if_pos hlt, if_neg w]); unfold ol; rw [q]) (f76.trans (frNB f2)) b2⟩)))
    refine pk_lt (vb L 0) 1 (fun z => no (by omega)) (fun z => pk_lt 6 (vb L 0) (fun z2 => no (by omega)) (fun z2 => x31 _ _ (sm_check (Or.inl u76.b) (fun _ _ => ⟨fun _ => ?_, fun y => absurd u76.b y⟩) (fun y => y.elim (fun y => by rw [u76.b] at y; exact absurd y (by decide)) (fun y => absurd y (by decide))))) rfl) rfl
    have eo : olH L e = cts L e (vb L 0) 1 [] := by unfold olH; rw [if_pos hlt, if_pos ⟨z, z2⟩]
    have key : ∀ m as p S', as.length + m = vb L 0 → olH L e = cts L e m p as → p ≤ e → fr kN S S' → S'.2.1 9 2 = nI (vb L 0) → mu S' L 1 e p → (∀ (g : Nat) (c : Nat), as[g]? = some c → S'.2.1 20 g = nI c) → X44 S' (nI as.length) := by
      intro m
      induction m with
      | zero =>
        intro as p S' hl ee hp f k u hG
        simp only [cts] at ee
        exact x44 _ _ ⟨fun _ => siz as p ee S' f (by rw [k]; congr 1; omega) u hG, fun w => absurd (by rw [k]; exact nI_le (by omega) (by omega)) w⟩
      | succ m ih =>
        intro as p S' hl ee hp f k u hG
        simp only [cts] at ee
        have i10 : vp_in (nI as.length) (gw_ml 10) := pk_in as.length _ (show as.length < 6 by omega) rfl (by decide)
        have ca : (nI as.length).toNatClampNeg = as.length := nI_clamp (by omega)
        have none_of : olH L e = none → ol L e = none := fun w => by unfold ol; rw [w]
        refine x44 _ _ ⟨fun w => absurd w (by rw [k]; exact nI_ge (by omega) (by omega)), fun _ => sm_next u hb hp (fun S44 hlt2 f44 u44 => ⟨i10, fun S46 e46 => ⟨i10, ?_⟩⟩) (fun S44 hge f44 c44 => ⟨i10, fun S46 e46 => ⟨i10, ?_⟩⟩)⟩
        · rw [ca] at e46
          rw [if_pos hlt2] at ee
          have v1 := vb_lt hb p
          have f46 : fr kN S' S46 := by rw [e46]; exact fr_m (frNC f44) (by unfold kN; omega)
          have u46 : mu S46 L 1 e (p + 1) := by rw [e46]; exact mu_m u44 (by omega)
          have k46 : S46.2.1 9 2 = nI (vb L 0) := by rw [e46, stM_k (by omega), f44.2.2 9 2 (by unfold kC; omega)]; exact k
          have g46 : S46.2.1 20 as.length = nI (vb L p) := by rw [e46, stM_self]
          rw [ca, g46]
          refine pk_lt 4 (vb L p) (fun w => x78 _ _ _ (sm_check (Or.inl u46.b) (fun _ y => absurd rfl y) (fun _ S2 f2 b2 x50 e50 => ?_))) (fun w => x78 _ _ _ (sm_check (Or.inl u46.b) (fun _ _ x50 e50 => ?_) (fun y => y.elim (fun y => by rw [u46.b] at y; exact absurd y (by decide)) (fun y => absurd y (by decide))))) rfl
          · rw [e50, nI_1]
            exact b44 m (vb L 0) (as.length + 1) S2 (none_of (by rw [ee, if_neg (by omega)])) (by omega) (by omega) ((f.trans f46).trans (frNB f2)) (by rw [f2.2.2 9 2 (by unfold kB; omega)]; exact k46) b2
          · rw [if_pos (by omega)] at ee
            rw [e50, nI_1]
            have := ih (as ++ [vb L p]) (p + 1) S46 (by simp; omega) ee (by omega) (f.trans f46) k46 u46 (fun g c eg => by
              by_cases hgg : g < as.length
              · rw [List.getElem?_append_left hgg] at eg
                rw [e46, stM_p (by omega), f44.2.2 20 g (by unfold kC; omega)]; exact hG g c eg
              · have hge : g = as.length := by
                  have := (List.getElem?_eq_some_iff.mp eg).1
                  simp at this; omega
                subst hge
                simp at eg
                subst eg
                exact g46)
            simpa using this
        · rw [if_neg (by omega)] at ee
          have f46 : fr kN S' S46 := by rw [e46]; exact fr_m (frNC f44) (by unfold kN; omega)
          have c46 : bd S46 := by rw [e46]; exact bd_m c44 (by omega)
          have k46 : S46.2.1 9 2 = nI (vb L 0) := by rw [e46, stM_k (by omega), f44.2.2 9 2 (by unfold kC; omega)]; exact k
          have k78 : ∀ s, X78 S46 (nI as.length) s := fun s => x78 _ _ _ (sm_check c46.b (fun z => by rw [c46] at z; exact absurd z (by decide)) (fun _ S2 f2 b2 x50 e50 => by
            rw [e50, nI_1]
            exact b44 m (vb L 0) (as.length + 1) S2 (none_of ee) (by omega) (by omega) ((f.trans f46).trans (frNB f2)) (by rw [f2.2.2 9 2 (by unfold kB; omega)]; exact k46) b2))
          exact ⟨fun _ => k78 _, fun _ => k78 _⟩
    exact key (vb L 0) [] 1 S76 (by simp) eo (by omega) f76 g76 u76 (fun g c eg => by simp at eg)
  · have f76 : fr kN S S76 := by rw [e76]; exact fr_m (frNC f74) (by unfold kN; omega)
    have b76 : bd S76 := by rw [e76]; unfold bd; rw [stM_p (by omega)]; exact b74
    have hn : ol L e = none := by
      have q : olH L e = none := (by unfold olH; rw [if_neg (by omega)])
      unfold ol; rw [q]
    have k31 : ∀ s, X31 S76 s := fun s => x31 _ _ (sm_check b76.b (fun z => by rw [b76] at z; exact absurd z (by decide)) (fun _ S2 f2 b2 => ⟨fun z => by rw [b2] at z; exact absurd z (by decide), fun _ => h0 _ hn (f76.trans (frNB f2)) b2⟩))
    exact ⟨fun _ => x30 _ (k31 _), fun _ => ⟨fun _ => x30 _ (k31 _), fun _ => k31 _⟩⟩
