/-! the reference reads the head -/
def plI (hs : Hs) (t : Nat) : Int32 := match hs t with | some x => nI x.1 | none => -1
def kH (k p : Nat) : Prop := k = 32 ∨ k = 33 ∨ (k = 9 ∧ (8 ≤ p ∧ p ≤ 11))
theorem frHC {S S1 : St} (h : fr kC S S1) : fr kH S S1 := h.mono (fun k p z => by unfold kC at z; unfold kH; omega)
theorem frHB {S S1 : St} (h : fr kB S S1) : fr kH S S1 := h.mono (fun k p z => by unfold kB at z; unfold kH; omega)
def kA (k p : Nat) : Prop := k = 32 ∨ k = 33
theorem frHA {S S1 : St} (h : fr kA S S1) : fr kH S S1 := h.mono (fun k p z => by unfold kA at z; unfold kH; omega)
theorem mu.A {S S2 : St} {L : List Int32} {il e p : Nat} (h : mu S L il e p) (f : fr kA S S2) : mu S2 L il e p := h.keep f (fun k q z => by unfold kA at z; omega)
/-- what the arrays hold of the head -/
def mH (S : St) (hs : Hs) : Prop := ∀ t, t < 7 → S.2.1 32 t = plI hs t ∧ S.2.1 33 t = nI (slH hs t)
theorem mH.keep {K : Nat → Nat → Prop} {S S2 : St} {hs : Hs} (h : mH S hs) (f : fr K S S2) (h1 : ∀ k q, K k q → k ≠ 32 ∧ k ≠ 33) : mH S2 hs := fun t ht => by
  rw [f.2.2 32 t (fun z => by have := h1 _ _ z; omega), f.2.2 33 t (fun z => by have := h1 _ _ z; omega)]; exact h t ht
theorem mH.C {S S2 : St} {hs : Hs} (h : mH S hs) (f : fr kC S S2) : mH S2 hs := h.keep f (fun k q z => by unfold kC at z; omega)
theorem bd.A {S S2 : St} (h : bd S) (f : fr kA S S2) : bd S2 := by unfold bd; rw [f.2.2 9 11 (by unfold kA; omega)]; exact h
theorem plI_neg {hs : Hs} {t : Nat} (hb : ∀ t x, hs t = some x → x.1 < 2 ^ 31) : (0 ≤ plI hs t ↔ inH hs t = 1) := by
  unfold plI inH
  cases h : hs t with
  | none => simp only; exact ⟨fun z => absurd z (by decide), fun z => by omega⟩
  | some x => simp only; exact ⟨fun _ => trivial, fun _ => nI_pos' (hb t x h)⟩
theorem sm_head {S : St} {B : List Int32} {P : Int32 → St → Prop} (hm : mB S B) (hB : okB B) (hz : S.2.1 9 11 = 0)
    (h1 : ∀ p' z hs S2, hd B = some (p', z, hs) → fr kH S S2 → mu S2 B 0 B.length p' → mH S2 hs → P (nI z) S2) (h0 : ∀ v S2, hd B = none → fr kH S S2 → bd S2 → P v S2) : wp_X11_head S P := by
  intro X33 X51 X71 X76 X109 X145 X173 X184 X191 X192 X241 X272 X276 X277 X299 X314 X328 X336 X354 X375 X376 x33 x51 x71 x76 x109 x145 x173 x184 x191 x192 x241 x272 x276 x277 x299 x314 x328 x336 x354 x375 x376
  obtain ⟨hl1, hb⟩ := hB
  -- the end, in a bad state
  have b376 : ∀ S' v s, hd B = none → fr kH S S' → bd S' → X376 S' v s := fun S' v s hn f b => x376 _ _ _ (sm_check b.b (fun z => by rw [b] at z; exact absurd z (by decide)) (fun _ S2 f2 b2 => h0 _ _ hn (f.trans (frHB f2)) b2))
  have b354 : ∀ S' v s, hd B = none → fr kH S S' → bd S' → X354 S' v s := fun S' v s hn f b => x354 _ _ _ ⟨fun _ => x375 _ _ (b376 _ _ _ hn f b), fun _ => ⟨fun _ => x375 _ _ (b376 _ _ _ hn f b), fun _ => b376 _ _ _ hn f b⟩⟩
  have b336 : ∀ S' v s, hd B = none → fr kH S S' → bd S' → X336 S' v s := fun S' v s hn f b => x336 _ _ _ (sm_check b.b (fun z => by rw [b] at z; exact absurd z (by decide)) (fun _ S2 f2 b2 => ⟨fun z => by rw [b2] at z; exact absurd z (by decide), fun _ => b354 _ _ _ hn (f.trans (frHB f2)) b2⟩))
  have b328 : ∀ S' v s s', hd B = none → fr kH S S' → bd S' → X328 S' v s s' := fun S' v s s' hn f b => x328 _ _ _ _ ⟨fun _ => b336 _ _ _ hn f b, fun _ => b336 _ _ _ hn f b⟩
  have b314 : ∀ S' v s, hd B = none → fr kH S S' → bd S' → X314 S' v s := fun S' v s hn f b => x314 _ _ _ ⟨pk_in 1 _ (show 1 < 7 by omega) rfl (by decide), fun _ => b328 _ _ _ _ hn f b, fun _ => b328 _ _ _ _ hn f b⟩
  have b299 : ∀ S' v, hd B = none → fr kH S S' → bd S' → X299 S' v := fun S' v hn f b => x299 _ _ ⟨pk_in 0 _ (show 0 < 7 by omega) rfl (by decide), fun _ => b314 _ _ _ hn f b, fun _ => b314 _ _ _ hn f b⟩
  have b109 : ∀ S' v1 v2 v3 v4, hd B = none → fr kH S S' → bd S' → X109 S' v1 v2 v3 v4 := fun S' v1 v2 v3 v4 hn f b => x109 _ _ _ _ _ ⟨fun _ => b299 _ _ hn f b, fun _ => ⟨fun _ => b299 _ _ hn f b, fun z => by rw [b] at z; exact absurd z (by decide)⟩⟩
  -- the arrays are made empty
  have k76 : ∀ (S' : St) (v : Int32) (Q : St → Prop), (∀ S2, fr kA S' S2 → mH S2 (fun _ => none) → X109 S2 v (-1) 0 0) → X76 S' v 0 := by
    intro S' v Q hQ
    have := up_loop2 (X := fun S' w => X76 S' v w) (fun i S2 => fr kA S' S2 ∧ ∀ t, t < i → S2.2.1 32 t = -1 ∧ S2.2.1 33 t = 0) (N := 7) (fun S2 ⟨f, h⟩ => x76 _ _ _ ⟨fun _ x76' e76 => by rw [e76]; exact hQ S2 f h, fun z => absurd (by decide) z⟩) (fun i S2 hi ⟨f, h⟩ hx => x76 _ _ _ ⟨fun z => absurd z (nI_ge (b := 7) hi (by omega)), fun _ => ⟨pk_in i _ (show i < 7 from hi) rfl (by decide), fun S77 e77 => ⟨pk_in i _ (show i < 7 from hi) rfl (by decide), fun S78 e78 x79 e79 => ?_⟩⟩⟩) 0 S' (by omega) ⟨fr.refl S', fun t ht => by omega⟩
    · exact this
    · rw [e79, nI_1]
      rw [nI_clamp (by omega)] at e77 e78
      refine hx S78 ⟨f.trans (by rw [e78, e77]; exact fr_m (fr_m (fr.refl _) (Or.inl rfl)) (Or.inr rfl)), fun t ht => ?_⟩
      rw [e78, e77]
      by_cases ti : t = i
      · subst ti
        exact ⟨by rw [stM_k (by omega), stM_self], by rw [stM_self]⟩
      · have := h t (by omega)
        exact ⟨by rw [stM_k (by omega), stM_p ti]; exact this.1, by rw [stM_p ti, stM_k (by omega)]; exact this.2⟩
  have b76 : ∀ S' v, hd B = none → fr kH S S' → bd S' → X76 S' v 0 := fun S' v hn f b => k76 S' v (fun _ => True) (fun S2 f2 _ => b109 _ _ _ _ _ hn (f.trans (frHA f2)) (b.A f2))
  have b71 : ∀ S' v s, hd B = none → fr kH S S' → bd S' → X71 S' v s := fun S' v s hn f b => x71 _ _ _ (sm_check b.b (fun z => by rw [b] at z; exact absurd z (by decide)) (fun _ S2 f2 b2 => b76 _ _ hn (f.trans (frHB f2)) b2))
  have b51' : ∀ S', hd B = none → fr kH S S' → bd S' → wp_X11_next S' (fun r71 S70 => ((7 < r71 → X71 S70 r71 0) ∧ (¬ 7 < r71 → X71 S70 r71 1))) := fun S' hn f b => sm_next_bd b (fun S2 f2 b2 => ⟨fun _ => b71 _ _ _ hn (f.trans (frHC f2)) b2, fun _ => b71 _ _ _ hn (f.trans (frHC f2)) b2⟩)
  have b51 : ∀ S' s, hd B = none → fr kH S S' → bd S' → X51 S' s := fun S' s hn f b => x51 _ _ (sm_check b.b (fun z => by rw [b] at z; exact absurd z (by decide)) (fun _ S2 f2 b2 => b51' _ hn (f.trans (frHB f2)) b2))
  have b33' : ∀ S', hd B = none → fr kH S S' → bd S' → wp_X11_next S' (fun r66 S65 => ((¬ r66 = 50 → X51 S65 0) ∧ (r66 = 50 → X51 S65 1))) := fun S' hn f b => sm_next_bd b (fun S2 f2 b2 => ⟨fun _ => b51 _ _ hn (f.trans (frHC f2)) b2, fun _ => b51 _ _ hn (f.trans (frHC f2)) b2⟩)
  have b33 : ∀ S' s, hd B = none → fr kH S S' → bd S' → X33 S' s := fun S' s hn f b => x33 _ _ (sm_check b.b (fun z => by rw [b] at z; exact absurd z (by decide)) (fun _ S2 f2 b2 => b33' _ hn (f.trans (frHB f2)) b2))
  have b192 : ∀ S' v1 v3 v4 v6, hd B = none → fr kH S S' → (S'.2.1 9 11 = 0 ∨ S'.2.1 9 11 = 1) → X192 S' v1 v3 v4 v6 0 := fun S' v1 v3 v4 v6 hn f b => x192 _ _ _ _ _ _ (sm_check b (fun _ z => absurd rfl z) (fun _ S2 f2 b2 => ⟨fun z => by rw [b2] at z; exact absurd z (by decide), fun _ => h0 _ _ hn (f.trans (frHB f2)) b2⟩))
  have b277 : ∀ S' v1 v3 v4 t s, t < 7 → hd B = none → fr kH S S' → (bd S' ∨ (S'.2.1 9 11 = 0 ∧ s = 0)) → X277 S' v1 v3 v4 (nI t) s := by
    intro S' v1 v3 v4 t s ht hn f b
    refine x277 _ _ _ _ _ _ (sm_check (b.elim (fun y => y.b) (fun y => Or.inl y.1)) (fun z y => ?_) (fun _ S2 f2 b2 => ⟨pk_in t _ (show t < 7 from ht) rfl (by decide), fun x105 e105 x106 e106 => b109 _ _ _ _ _ hn (f.trans (frHB f2)) b2⟩))
    rcases b with b | b
    · rw [b] at z; exact absurd z (by decide)
    · exact absurd b.2 y
  have b241 : ∀ S' v1 v3 v4 t s, t < 7 → hd B = none → fr kH S S' → bd S' → X241 S' v1 v3 v4 (nI t) s (nI t) := by
    intro S' v1 v3 v4 t s ht hn f b
    refine x241 _ _ _ _ _ _ _ ⟨pk_in t _ (show t < 7 from ht) rfl (by decide), fun S99 e99 => ?_⟩
    have f99 : fr kA S' S99 := by rw [e99]; exact fr_m (fr.refl _) (Or.inr rfl)
    have fS := f.trans (frHA f99)
    have b99 := b.A f99
    have g1 : X276 S99 v1 v3 v4 (nI t) := x276 _ _ _ _ _ (b277 _ _ _ _ _ _ ht hn fS (Or.inl b99))
    have g2 : X272 S99 v1 v3 v4 (nI t) := x272 _ _ _ _ _ (b277 _ _ _ _ _ _ ht hn fS (Or.inl b99))
    exact ⟨fun _ => g2, fun _ => ⟨pk_in t _ (show t < 7 from ht) rfl (by decide), fun _ => g1, fun _ => ⟨pk_in t _ (show t < 7 from ht) rfl (by decide), fun _ => g1, fun _ => g2⟩⟩⟩
  -- the tables
  have key : ∀ k i n p lo sm hs S', hd B = hT B (hl B B.length k p lo sm hs) → fr kH S S' → mu S' B 0 B.length p → mH S' hs → (∀ t x, hs t = some x → x.1 < 2 ^ 31) → p ≤ B.length → lo ≤ 7 → sm ≤ 2097152 * lo → i + k = n → n < 256 → X109 S' (nI n) (nI lo - 1) (nI sm) (nI i) := by
    intro k
    induction k with
    | zero =>
      intro i n p lo sm hs S' ehd f u mh hs31 hp hlo hsm hin hn
      simp only [hl, hT] at ehd
      refine x109 _ _ _ _ _ ⟨fun _ => ?_, fun z => absurd (nI_le (by omega) (by omega)) z⟩
      have k336 : ∀ s : Int32, (s = 0 → ¬ inH hs 0 = inH hs 1) → (¬ s = 0 → inH hs 0 = inH hs 1) → X336 S' (nI sm) s := by
        intro s hs0 hs1
        refine x336 _ _ _ (sm_check (Or.inl u.b) (fun _ z => ⟨fun _ => ?_, fun y => absurd u.b y⟩) (fun z S2 f2 b2 => ⟨fun y => by rw [b2] at y; exact absurd y (by decide), fun _ => b354 _ _ _ ?_ (f.trans (frHB f2)) b2⟩))
        · rw [if_pos (hs1 z)] at ehd
          refine sm_nl u hb hp (fun z p' S113 hn2 f113 u113 => ?_) (fun v S113 hn2 f113 b113 => b354 _ _ _ (by rw [hn2] at ehd; exact ehd) (f.trans (frHC f113)) b113)
          rw [hn2] at ehd
          simp only at ehd
          have bz := nl_b hb hn2
          have no : ∀ v s, s = 0 → hd B = none → X376 S113 v s := fun v s e0 q => x376 _ _ _ (sm_check (Or.inl u113.b) (fun _ y => absurd e0 y) (fun _ S2 f2 b2 => h0 _ _ q ((f.trans (frHC f113)).trans (frHB f2)) b2))
          refine x354 _ _ _ (And.symm (pk_eq z sm (fun q2 => pk_lt 1000 z (fun q3 => x375 _ _ (no _ _ rfl ?_)) (fun q3 => x376 _ _ _ (sm_check (Or.inl u113.b) (fun _ _ => ?_) (fun y => ?_))) rfl) (fun q2 => x375 _ _ (no _ _ rfl ?_)) rfl))
          · rw [if_neg (fun y => absurd y.2 (by omega))] at ehd; exact ehd
          · rw [if_pos ⟨q2, q3⟩] at ehd
            exact h1 _ _ _ _ ehd (f.trans (frHC f113)) u113 (mh.C f113)
          · rcases y with y | y
            · rw [u113.b] at y; exact absurd y (by decide)
            · exact absurd y (by decide)
          · rw [if_neg (fun y => q2 y.1)] at ehd; exact ehd
        · rcases z with z | z
          · rw [u.b] at z; exact absurd z (by decide)
          · rw [if_neg (hs0 z)] at ehd; exact ehd
      have i0 := inH_le hs 0
      have i1 := inH_le hs 1
      have p0 := plI_neg (t := 0) hs31
      have p1 := plI_neg (t := 1) hs31
      have k328 : ∀ a b : Nat, a ≤ 1 → b ≤ 1 → a = 1 - inH hs 0 → b = 1 - inH hs 1 → X328 S' (nI sm) (nI b) (nI a) := by
        intro a b ha1 hb1 ea eb
        exact x328 _ _ _ _ (And.symm (pk_eq a b (fun q => k336 1 (fun y => absurd y (by decide)) (fun _ => by omega)) (fun q => k336 0 (fun _ => by omega) (fun y => absurd rfl y)) rfl))
      have k314 : ∀ a : Nat, a ≤ 1 → a = 1 - inH hs 0 → X314 S' (nI sm) (nI a) := by
        intro a ha1 ea
        refine x314 _ _ _ ⟨pk_in 1 _ (show 1 < 7 by omega) rfl (by decide), ?_⟩
        rw [show (1 : Int32).toNatClampNeg = 1 from rfl, (mh 1 (by omega)).1]
        exact ⟨fun z => k328 a 0 ha1 (by omega) ea (by have := p1.mp z; omega), fun z => k328 a 1 ha1 (by omega) ea (by have : ¬ inH hs 1 = 1 := fun y => z (p1.mpr y); omega)⟩
      refine x299 _ _ ⟨pk_in 0 _ (show 0 < 7 by omega) rfl (by decide), ?_⟩
      rw [show (0 : Int32).toNatClampNeg = 0 from rfl, (mh 0 (by omega)).1]
      exact ⟨fun z => k314 0 (by omega) (by have := p0.mp z; omega), fun z => k314 1 (by omega) (by have : ¬ inH hs 0 = 1 := fun y => z (p0.mpr y); omega)⟩
    | succ k ih =>
      intro i n p lo sm hs S' ehd f u mh hs31 hp hlo hsm hin hn
      refine x109 _ _ _ _ _ ⟨fun z => absurd z (nI_ge (by omega) (by omega)), fun _ => ⟨fun z => absurd u.b z, fun _ => ?_⟩⟩
      simp only [hl] at ehd
      refine sm_next u hb hp (fun S82 hpe f82 u82 => ?_) (fun S82 hpe f82 b82 => ?_)
      · rw [if_pos hpe] at ehd
        have hv := vb_lt hb p
        have fS := f.trans (frHC f82)
        have mh82 := mh.C f82
        generalize hmm : vb B p = m at *
        -- a table that is good
        have good : ∀ t, tblM m = some t → ¬ t < lo → X192 S82 (nI n) (nI sm) (nI i) (nI t) 1 := by
          intro t ht hge
          have ht7 := tblM_lt ht
          rw [ht] at ehd
          simp only at ehd
          rw [if_neg hge] at ehd
          refine x192 _ _ _ _ _ _ (sm_check (Or.inl u82.b) (fun _ _ => ⟨fun _ => ?_, fun y => absurd u82.b y⟩) (fun y => ?_))
          · have v22 : vp_in (nI t) (gw_ml 22) := pk_in t _ (show t < 7 from ht7) rfl (by decide)
            have v23 : vp_in (nI t) (gw_ml 23) := pk_in t _ (show t < 7 from ht7) rfl (by decide)
            refine sm_nl u82 hb (by omega) (fun a p1 S93 hn2 f93 u93 => ⟨v22, fun S95 e95 => ?_⟩) (fun a S93 hn2 f93 b93 => ⟨v22, fun S95 e95 => ?_⟩)
            · have bz := nl_b hb hn2
              rw [nI_clamp (by omega)] at e95
              have f95 : fr kA S93 S95 := by rw [e95]; exact fr_m (fr.refl _) (Or.inl rfl)
              have u95 := u93.A f95
              have fS95 := (fS.trans (frHC f93)).trans (frHA f95)
              have g95 : S95.2.1 32 t = nI a := by rw [e95, stM_self]
              have o95 : ∀ s, s < 7 → s ≠ t → S95.2.1 32 s = plI hs s ∧ S95.2.1 33 s = nI (slH hs s) := fun s hs7 hst => by
                have := (mh82.C f93) s hs7
                rw [e95, stM_p hst, stM_k (by omega)]; exact this
              -- both lengths are known
              have fin : ∀ S97 b p2, rlen B B.length (p + 1) t = some (a, b, p2) → fr kC S95 S97 → mu S97 B 0 B.length p2 → X241 S97 (nI n) (nI sm) (nI i) (nI t) (nI b) (nI t) := by
                intro S97 b p2 hrl f97 u97
                rw [hrl] at ehd
                simp only at ehd
                have bb := rlen_b hb hrl
                refine x241 _ _ _ _ _ _ _ ⟨v23, fun S99 e99 => ?_⟩
                rw [nI_clamp (by omega)] at e99
                have f99 : fr kA S97 S99 := by rw [e99]; exact fr_m (fr.refl _) (Or.inr rfl)
                have u99 := u97.A f99
                have fS99 := (fS95.trans (frHC f97)).trans (frHA f99)
                have g99 : S99.2.1 32 t = nI a := by rw [e99, stM_k (by omega), f97.2.2 32 t (by unfold kC; omega)]; exact g95
                have mh99 : mH S99 (upH hs t (a, b)) := by
                  intro s hs7
                  by_cases hst : s = t
                  · subst hst
                    refine ⟨by rw [g99]; unfold plI upH; simp, by rw [e99, stM_self, slH_up]⟩
                  · have := o95 s hs7 hst
                    rw [e99, stM_k (by omega), stM_p hst, f97.2.2 32 s (by unfold kC; omega), f97.2.2 33 s (by unfold kC; omega), this.1, this.2]
                    unfold plI slH upH
                    simp [hst]
                have g277 : X277 S99 (nI n) (nI sm) (nI i) (nI t) 1 := by
                  refine x277 _ _ _ _ _ _ (sm_check (Or.inl u99.b) (fun _ _ => ⟨v23, fun x105 e105 x106 e106 => ?_⟩) (fun y => ?_))
                  · rw [nI_clamp (by omega), (mh99 t ht7).2, slH_up, nI_add] at e105
                    have := ih (i + 1) n p2 (t + 1) (sm + b) (upH hs t (a, b)) S99 ehd fS99 u99 mh99 (fun s x hx => by
                      unfold upH at hx
                      split at hx
                      · simp at hx; rw [← hx]; show a < 2 ^ 31; omega
                      · exact hs31 s x hx) (by omega) (by omega) (by omega) (by omega) hn
                    rw [nI_pred] at this
                    rw [e105, e106, nI_1]; exact this
                  · rcases y with y | y
                    · rw [u99.b] at y; exact absurd y (by decide)
                    · exact absurd y (by decide)
                refine pk_lt t 2 (fun _ => x272 _ _ _ _ _ g277) (fun h2 => ⟨v22, ?_⟩) rfl
                rw [nI_clamp (by omega), g99]
                have b20 := bb.2.2.2.2 h2
                refine pk_lt a 1 (fun y => by omega) (fun y => ⟨v22, pk_lt 20 a (fun y2 => by omega) (fun y2 => x272 _ _ _ _ _ g277) rfl⟩) rfl
              refine pk_le 2 t (fun h2 => ⟨v22, ?_⟩) (fun h2 => ?_) rfl
              · rw [nI_clamp (by omega), g95]
                have er : rlen B B.length (p + 1) t = if 1 ≤ a ∧ a ≤ 20 then some (a, a, p1) else none := by unfold rlen; rw [if_neg (by omega), hn2]
                by_cases ha : 1 ≤ a ∧ a ≤ 20
                · rw [if_pos ha] at er
                  exact fin S95 a p1 er (fr.refl _) u95
                · rw [if_neg ha] at er
                  rw [er] at ehd
                  refine x241 _ _ _ _ _ _ _ ⟨v23, fun S99 e99 => ?_⟩
                  rw [nI_clamp (by omega)] at e99
                  have f99 : fr kA S95 S99 := by rw [e99]; exact fr_m (fr.refl _) (Or.inr rfl)
                  have u99 := u95.A f99
                  have g99 : S99.2.1 32 t = nI a := by rw [e99, stM_k (by omega)]; exact g95
                  have g1 : X276 S99 (nI n) (nI sm) (nI i) (nI t) := x276 _ _ _ _ _ (b277 _ _ _ _ _ _ ht7 ehd (fS95.trans (frHA f99)) (Or.inr ⟨u99.b, rfl⟩))
                  refine pk_lt t 2 (fun y => by omega) (fun _ => ⟨v22, ?_⟩) rfl
                  rw [nI_clamp (by omega), g99]
                  exact pk_lt a 1 (fun y => g1) (fun y => ⟨v22, pk_lt 20 a (fun y2 => g1) (fun y2 => absurd ⟨y, y2⟩ ha) rfl⟩) rfl
              · refine sm_nl u95 hb (by omega) (fun b p2 S97 hn3 f97 u97 => fin S97 b p2 (by unfold rlen; rw [if_pos (by omega), hn2]; simp only; rw [hn3]) f97 u97) (fun v S97 hn3 f97 b97 => b241 _ _ _ _ _ _ ht7 ?_ (fS95.trans (frHC f97)) b97)
                have er : rlen B B.length (p + 1) t = none := by unfold rlen; rw [if_pos (by omega), hn2]; simp only; rw [hn3]
                rw [er] at ehd; exact ehd
            · have er : rlen B B.length (p + 1) t = none := by unfold rlen; rw [hn2]; split <;> rfl
              rw [er] at ehd
              rw [nI_clamp (by omega)] at e95
              have f95 : fr kA S93 S95 := by rw [e95]; exact fr_m (fr.refl _) (Or.inl rfl)
              have b95 := b93.A f95
              have fS95 := (fS.trans (frHC f93)).trans (frHA f95)
              exact ⟨fun _ => ⟨v22, b241 _ _ _ _ _ _ ht7 ehd fS95 b95⟩, fun _ => sm_nl_bd b95 (fun v S97 f97 b97 => b241 _ _ _ _ _ _ ht7 ehd (fS95.trans (frHC f97)) b97)⟩
          · rcases y with y | y
            · rw [u82.b] at y; exact absurd y (by decide)
            · exact absurd y (by decide)
        have badn : (∀ t, tblM m = some t → t < lo) → hd B = none := by
          intro q
          cases ht : tblM m with
          | none => rw [ht] at ehd; exact ehd
          | some t => rw [ht] at ehd; simp only at ehd; rw [if_pos (q t ht)] at ehd; exact ehd
        have b191 : (∀ t, tblM m = some t → t < lo) → ∀ v, X191 S82 (nI n) (nI sm) (nI i) v := fun q v => x191 _ _ _ _ _ (b192 _ _ _ _ _ (badn q) fS (Or.inl u82.b))
        have k145 : ∀ s w : Nat, s < 256 → w ≤ 1 → (w = 1 ↔ 64 ≤ m) → (s = if m < 64 then m else m - 64) → X145 S82 (nI n) (nI lo - 1) (nI sm) (nI i) (nI m) (nI s) := by
          intro s w hs1 hw1 hw es
          have tb : ∀ t, tblM m = some t → t = s ∧ (t < 2 ↔ 64 ≤ m) := by
            intro t ht
            unfold tblM at ht
            split at ht
            · simp at ht; rw [if_neg (by omega)] at es; omega
            · split at ht
              · simp at ht; rw [if_neg (by omega)] at es; omega
              · split at ht
                · simp at ht; rw [if_pos (by omega)] at es; omega
                · simp at ht
          refine x145 _ _ _ _ _ _ _ ⟨fun z => b191 (fun t ht => by have := (le_pred (by omega) (by omega)).mp z; have := (tb t ht).1; omega) _, fun z => ?_⟩
          have hge : ¬ s < lo := fun y => z ((le_pred (by omega) (by omega)).mpr y)
          refine pk_lt 6 s (fun z2 => b191 (fun t ht => by have := tblM_lt ht; have := (tb t ht).1; omega) _) (fun z2 => ?_) rfl
          have k184 : ∀ a b : Nat, a ≤ 1 → b ≤ 1 → (a = 1 ↔ s < 2) → (b = 1 ↔ 64 ≤ m) → X184 S82 (nI n) (nI sm) (nI i) (nI s) (nI a) (nI b) := by
            intro a b ha1 hb1 ha2 hb2
            refine x184 _ _ _ _ _ _ _ (And.symm (pk_eq b a (fun q => ?_) (fun q => b191 (fun t ht => by have := tb t ht; omega) _) rfl))
            refine good s ?_ hge
            unfold tblM
            by_cases h64 : 64 ≤ m
            · rw [if_neg (by omega)] at es
              have : s < 2 := ha2.mp (by omega)
              by_cases m64 : m = 64
              · rw [if_pos m64]; congr 1; omega
              · rw [if_neg m64, if_pos (by omega)]; congr 1; omega
            · rw [if_pos (by omega)] at es
              have : ¬ s < 2 := fun y => by have := ha2.mpr y; omega
              rw [if_neg (by omega), if_neg (by omega), if_pos (by omega)]; congr 1; omega
          have k173 : ∀ b : Nat, b ≤ 1 → (b = 1 ↔ 64 ≤ m) → X173 S82 (nI n) (nI sm) (nI i) (nI s) (nI b) := by
            intro b hb1 hb2
            exact x173 _ _ _ _ _ _ (pk_le 2 s (fun y => k184 0 b (by omega) hb1 (by omega) hb2) (fun y => k184 1 b (by omega) hb1 (by omega) hb2) rfl)
          exact pk_lt m 64 (fun y => k173 0 (by omega) (by omega)) (fun y => k173 1 (by omega) (by omega)) rfl
        refine pk_lt m 64 (fun z => k145 m 0 (by omega) (by omega) (by omega) (by rw [if_pos z])) (fun z => ?_) rfl
        rw [show nI m - 64 = nI (m - 64) from pk_sub (b := 64) z]
        exact k145 (m - 64) 1 (by omega) (by omega) (by omega) (by rw [if_neg (by omega)])
      · rw [if_neg (by omega)] at ehd
        have k192 : ∀ v6 s, X192 S82 (nI n) (nI sm) (nI i) v6 s := fun v6 s => x192 _ _ _ _ _ _ (sm_check b82.b (fun z => by rw [b82] at z; exact absurd z (by decide)) (fun _ S2 f2 b2 => ⟨fun z => by rw [b2] at z; exact absurd z (by decide), fun _ => h0 _ _ ehd ((f.trans (frHC f82)).trans (frHB f2)) b2⟩))
        have k191 : ∀ v6, X191 S82 (nI n) (nI sm) (nI i) v6 := fun v6 => x191 _ _ _ _ _ (k192 _ _)
        have k184 : ∀ v6 a b, X184 S82 (nI n) (nI sm) (nI i) v6 a b := fun v6 a b => x184 _ _ _ _ _ _ _ ⟨fun _ => k191 _, fun _ => k192 _ _⟩
        have k173 : ∀ v6 a, X173 S82 (nI n) (nI sm) (nI i) v6 a := fun v6 a => x173 _ _ _ _ _ _ ⟨fun _ => k184 _ _ _, fun _ => k184 _ _ _⟩
        have k145 : ∀ v5 s, X145 S82 (nI n) (nI lo - 1) (nI sm) (nI i) v5 s := fun v5 s => x145 _ _ _ _ _ _ _ ⟨fun _ => k191 _, fun _ => ⟨fun _ => k191 _, fun _ => ⟨fun _ => k173 _ _, fun _ => k173 _ _⟩⟩⟩
        exact ⟨fun _ => k145 _ _, fun _ => k145 _ _⟩
  -- the beginning
  intro S119 e119 S120 e120 S121 e121
  have f121 : fr kH S S121 := by
    rw [e121, e120, e119]
    exact fr_m (fr_m (fr_m (fr.refl S) (by unfold kH; omega)) (by unfold kH; omega)) (by unfold kH; omega)
  have u121 : mu S121 B 0 B.length 0 := by
    refine ⟨by rw [e121, stM_p (by omega), e120, stM_p (by omega), e119, stM_self]; rfl, by rw [e121, stM_p (by omega), e120, stM_self, e119, stM_p (by omega)]; exact hm.1, by rw [e121, stM_self]; rfl, by rw [f121.2.2 9 11 |> fun _ => (by rw [e121, stM_p (by omega), e120, stM_p (by omega), e119, stM_p (by omega)] : S121.2.1 9 11 = S.2.1 9 11)]; exact hz, fun k hk => by rw [f121.2.2 _ _ (by unfold kH; omega)]; exact hm.2 k hk, by omega, by omega⟩
  have v0 := vb_lt hb 0
  have v1 := vb_lt hb (0 + 1)
  have v2 := vb_lt hb (0 + 1 + 1)
  refine sm_next u121 hb (by omega) (fun S122 hp0 f122 u122 => ?_) (fun S122 hp0 f122 b122 => ?_)
  · have fa := f121.trans (frHC f122)
    refine And.symm (pk_eq (vb B 0) 119 (fun z0 => ?_) (fun z0 => ?_) rfl)
    · refine x33 _ _ (sm_check (Or.inl u122.b) (fun _ _ => ?_) (fun y => ?_))
      · refine sm_next u122 hb (by omega) (fun S65 hp1 f65 u65 => ?_) (fun S65 hp1 f65 b65 => ?_)
        · have fb := fa.trans (frHC f65)
          refine And.symm (pk_eq (vb B (0 + 1)) 50 (fun z1 => ?_) (fun z1 => ?_) rfl)
          · refine x51 _ _ (sm_check (Or.inl u65.b) (fun _ _ => ?_) (fun y => ?_))
            · refine sm_next u65 hb (by omega) (fun S70 hp2 f70 u70 => ?_) (fun S70 hp2 f70 b70 => ?_)
              · have fc := fb.trans (frHC f70)
                have ehd : hd B = hT B (hl B B.length (vb B 2) 3 0 0 (fun _ => none)) := by unfold hd; rw [if_pos ⟨by omega, z0, z1⟩]
                refine pk_lt 7 (vb B (0 + 1 + 1)) (fun z2 => ?_) (fun z2 => ?_) rfl
                · have hn : hd B = none := by
                    rw [ehd]
                    cases hx : hl B B.length (vb B 2) 3 0 0 (fun _ => none) with
                    | none => rfl
                    | some x => exact absurd (hl_le _ _ _ _ _ _ (by omega) hx) (by show ¬ vb B (0 + 1 + 1) + 0 ≤ 7; omega)
                  exact x71 _ _ _ (sm_check (Or.inl u70.b) (fun _ y => absurd rfl y) (fun _ S2 f2 b2 => b76 _ _ hn (fc.trans (frHB f2)) b2))
                · refine x71 _ _ _ (sm_check (Or.inl u70.b) (fun _ _ => k76 _ _ (fun _ => True) (fun S2 f2 mh2 => ?_)) (fun y => ?_))
                  · exact key (vb B (0 + 1 + 1)) 0 (vb B (0 + 1 + 1)) 3 0 0 (fun _ => none) S2 ehd (fc.trans (frHA f2)) (u70.A f2) mh2 (fun t x hx => by simp at hx) (by omega) (by omega) (by omega) (by omega) v2
                  · rcases y with y | y
                    · rw [u70.b] at y; exact absurd y (by decide)
                    · exact absurd y (by decide)
              · have hn : hd B = none := by unfold hd; rw [if_neg (fun y => by omega)]
                exact ⟨fun _ => b71 _ _ _ hn (fb.trans (frHC f70)) b70, fun _ => b71 _ _ _ hn (fb.trans (frHC f70)) b70⟩
            · rcases y with y | y
              · rw [u65.b] at y; exact absurd y (by decide)
              · exact absurd y (by decide)
          · have hn : hd B = none := by unfold hd; rw [if_neg (fun y => z1 y.2.2)]
            exact x51 _ _ (sm_check (Or.inl u65.b) (fun _ y => absurd rfl y) (fun _ S2 f2 b2 => b51' _ hn (fb.trans (frHB f2)) b2))
        · have hn : hd B = none := by unfold hd; rw [if_neg (fun y => by omega)]
          exact ⟨fun _ => b51 _ _ hn (fa.trans (frHC f65)) b65, fun _ => b51 _ _ hn (fa.trans (frHC f65)) b65⟩
      · rcases y with y | y
        · rw [u122.b] at y; exact absurd y (by decide)
        · exact absurd y (by decide)
    · have hn : hd B = none := by unfold hd; rw [if_neg (fun y => z0 y.2.1)]
      exact x33 _ _ (sm_check (Or.inl u122.b) (fun _ y => absurd rfl y) (fun _ S2 f2 b2 => b33' _ hn (fa.trans (frHB f2)) b2))
  · have hn : hd B = none := by unfold hd; rw [if_neg (fun y => by omega)]
    exact ⟨fun _ => b33 _ _ hn (f121.trans (frHC f122)) b122, fun _ => b33 _ _ hn (f121.trans (frHC f122)) b122⟩
