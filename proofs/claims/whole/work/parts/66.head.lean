/-! the class reads the whole head -/
theorem r67_get {hs : Hs} {t : Nat} (h : t < 7) : (r67 hs).getD t 0 = nI (slH hs t) := by
  unfold r67
  rw [List.getD_eq_getElem?_getD, List.getElem?_map, List.getElem?_range h]; rfl
theorem r66_get {hs : Hs} {t : Nat} (h : t < 7) : (r66 hs).getD t 0 = nI (plH hs t) := by
  unfold r66
  rw [List.getD_eq_getElem?_getD, List.getElem?_map, List.getElem?_range h]; rfl
theorem slH_up {hs : Hs} {t a b : Nat} : slH (upH hs t (a, b)) t = b := by unfold slH upH; simp
theorem nI01 {n : Nat} (h : n ≤ 1) : nI n = 0 ∨ nI n = 1 := by
  rcases Nat.eq_zero_or_pos n with z | z
  · left; rw [z]; rfl
  · right; rw [show n = 1 by omega]; rfl
theorem sp_readHead {S : St} {c : Nat} {B : List Int32} {P : Int32 → St → Prop} (h : cu S c B.length 0) (hr : S.1 62 = B) (hB : okB B)
    (h1 : ∀ p' z hs S2, hd B = some (p', z, hs) → hF c S S2 → cu S2 c B.length p' → S2.1 66 = r66 hs → S2.1 67 = r67 hs → S2.2.1 2 0 = nI (inH hs 0) → S2.2.1 2 1 = nI z → P 1 S2) (h0 : ∀ S2, hd B = none → hF c S S2 → P 0 S2) : wp_X5_readHead S c 62 P := by
  intro X18 X71 X110 X134 X139 X152 X157 X219 X220 x18 x71 x110 x134 x139 x152 x157 x219 x220
  obtain ⟨hl1, hb⟩ := hB
  have he : B.length < 2 ^ 30 := by omega
  have e66 : ∀ S' : St, hF c S S' → S'.1 62 = B := fun S' f => by rw [f.2.1 62 (by omega) (by omega)]; exact hr
  -- the tables
  have key : ∀ k i n p lo sm hs S', hd B = hT B (hl B B.length k p lo sm hs) → hF c S S' → cu S' c B.length p → S'.1 66 = r66 hs → S'.1 67 = r67 hs → p ≤ B.length → lo ≤ 7 → sm ≤ 2097152 * lo → i + k = n → n < 256 → X71 S' (nI n) (nI sm) (nI lo - 1) (nI (inH hs 0)) (nI (inH hs 1)) (nI i) := by
    intro k
    induction k with
    | zero =>
      intro i n p lo sm hs S' ehd f u g66 g67 hp hlo hsm hin hn
      simp only [hl, hT] at ehd
      have i0 := inH_le hs 0
      have i1 := inH_le hs 1
      refine x71 _ _ _ _ _ _ _ ⟨fun _ => ⟨nI01 i0, fun S42 e42 => ?_⟩, fun z => absurd (nI_le (by omega) (by omega)) z⟩
      have f42 : hF c S' S42 := by rw [e42]; exact ⟨rfl, fun _ _ _ => rfl, fun k p a b => stM_k b, id, id⟩
      have u42 : cu S42 c B.length p := by rw [e42]; exact ⟨by rw [stM_k (by omega)]; exact u.1, by rw [stM_k (by omega)]; exact u.2.1, by rw [stM_k (by omega)]; exact u.2.2⟩
      have r42 : S42.1 = S'.1 := by rw [e42]; rfl
      refine sp_nl u42 (e66 _ (f.trans f42)) hb he hp (fun z p' S43 hn2 f43 u43 S45 e45 => ?_) (fun v S43 hn2 f43 b43 S45 e45 => ?_)
      · have bz := nl_b hb hn2
        have f45 : hF c S' S45 := (f42.trans f43.hF).trans (by rw [e45]; exact ⟨rfl, fun _ _ _ => rfl, fun k p a b => stM_k b, id, id⟩)
        have u45 : cu S45 c B.length p' := by rw [e45]; exact ⟨by rw [stM_k (by omega)]; exact u43.1, by rw [stM_k (by omega)]; exact u43.2.1, by rw [stM_k (by omega)]; exact u43.2.2⟩
        have g21 : S45.2.1 2 1 = nI z := by rw [e45, stM_self]
        have g20 : S45.2.1 2 0 = nI (inH hs 0) := by rw [e45, stM_p (by omega), f43.2.2 2 0 (by omega), e42, stM_self]
        have r45 : S45.1 = S'.1 := by rw [e45]; show S43.1 = _; rw [f43.1, r42]
        rw [hn2] at ehd
        simp only at ehd
        have no : ∀ S'', S'' = S45 → hd B = none → X219 S'' := fun S'' e q => x219 _ (x220 _ _ ⟨Or.inl rfl, h0 _ q (by rw [e]; exact f.trans f45)⟩)
        refine ⟨Or.inl u45.2.2, fun q => absurd u45.2.2 q, fun _ => And.symm (pk_eq (inH hs 0) (inH hs 1) (fun q => ?_) (fun q => no _ rfl ?_) rfl)⟩
        · rw [if_pos q] at ehd
          refine And.symm (pk_eq z sm (fun q2 => ?_) (fun q2 => no _ rfl ?_) g21)
          · rw [g21]
            refine pk_lt 1000 z (fun q3 => no _ rfl ?_) (fun q3 => x220 _ _ ⟨Or.inr rfl, ?_⟩) rfl
            · rw [if_neg (fun y => absurd y.2 (by omega))] at ehd; exact ehd
            · rw [if_pos ⟨q2, q3⟩] at ehd
              exact h1 _ _ _ _ ehd (f.trans f45) u45 (by rw [r45]; exact g66) (by rw [r45]; exact g67) g20 g21
          · rw [if_neg (fun y => q2 y.1)] at ehd; exact ehd
        · rw [if_neg q] at ehd; exact ehd
      · have f45 : hF c S' S45 := (f42.trans f43.hF).trans (by rw [e45]; exact ⟨rfl, fun _ _ _ => rfl, fun k p a b => stM_k b, id, id⟩)
        have b45 : S45.2.1 (1000 + c) 2 = 1 := by rw [e45, stM_k (by omega)]; exact b43
        rw [hn2] at ehd
        unfold wp_X2_isBroken
        rw [b45]
        have : hd B = none := by rw [ehd]; split <;> rfl
        exact ⟨Or.inr rfl, fun _ => x219 _ (x220 _ _ ⟨Or.inl rfl, h0 _ this (f.trans f45)⟩), fun q => absurd q (by decide)⟩
    | succ k ih =>
      intro i n p lo sm hs S' ehd f u g66 g67 hp hlo hsm hin hn
      refine x71 _ _ _ _ _ _ _ ⟨fun z => absurd z (nI_ge (by omega) (by omega)), fun _ r53 S52 e53 e52 x54 e54 => ?_⟩
      have f52 : cf c S' S52 := by rw [e52]; exact cf_next _ _ _
      have fS := f.trans f52.hF
      have no : ∀ S'', hF c S S'' → hd B = none → X110 S'' := fun S'' e q => x110 _ (h0 _ q e)
      by_cases hpe : p < B.length
      · obtain ⟨a1, a2⟩ := nx_ok u (e66 _ f) hb hpe (by omega)
        have hv := vb_lt hb p
        rw [← e52] at a2
        rw [e53, a1] at e54
        refine ⟨Or.inl a2.2.2, fun q => absurd a2.2.2 q, fun _ => ?_⟩
        simp only [hl] at ehd
        rw [if_pos hpe] at ehd
        cases ht : tblM (vb B p) with
        | none =>
          rw [ht] at ehd
          rw [tom_none hv ht] at e54
          exact ⟨fun _ => no _ fS ehd, fun z => absurd (by rw [e54]; exact m1_le_pred (by omega)) z⟩
        | some t =>
          rw [ht] at ehd
          simp only at ehd
          have ht7 := tblM_lt ht
          rw [tom_some hv ht] at e54
          rw [e54]
          refine ⟨fun z => ?_, fun z => ?_⟩
          · rw [if_pos ((le_pred (by omega) (by omega)).mp z)] at ehd
            exact no _ fS ehd
          · have hge : ¬ t < lo := fun y => z ((le_pred (by omega) (by omega)).mpr y)
            rw [if_neg hge] at ehd
            refine sp_readLengths a2 (e66 _ fS) hb he (by omega) ht7 (fun a b p' S59 hrl f59 u59 g59 g59' => ⟨fun _ x62 e62 => ?_, fun q => absurd q (by decide)⟩) (fun S59 hrl f59 => ⟨fun q => absurd rfl q, fun _ => no _ (fS.trans f59) (by rw [hrl] at ehd; exact ehd)⟩)
            rw [hrl] at ehd
            simp only at ehd
            have bb := rlen_b hb hrl
            have k66 : S59.1 66 = r66 (upH hs t (a, b)) := by rw [g59, f52.1, g66]; exact r66_up
            have k67 : S59.1 67 = r67 (upH hs t (a, b)) := by rw [g59', f52.1, g67]; exact r67_up
            have e62' : x62 = nI (sm + b) := by rw [e62, rGet_nI (by omega), k67, r67_get ht7, slH_up, nI_add]
            have nx : ∀ v5 v6, v5 = nI (inH (upH hs t (a, b)) 0) → v6 = nI (inH (upH hs t (a, b)) 1) → X157 S59 (nI n) x62 v5 (nI i) (nI t) v6 := by
              intro v5 v6 e5 e6
              refine x157 _ _ _ _ _ _ _ (fun x67 e67 => ?_)
              have := ih (i + 1) n p' (t + 1) (sm + b) (upH hs t (a, b)) S59 ehd (fS.trans f59) u59 k66 k67 (by omega) (by omega) (by omega) (by omega) hn
              rw [nI_pred] at this
              rw [e67, nI_1, e62', e5, e6]
              exact this
            have k139 : ∀ v5, v5 = nI (inH (upH hs t (a, b)) 0) → X139 S59 (nI n) x62 (nI (inH hs 1)) (nI i) (nI t) v5 := by
              intro v5 e5
              refine x139 _ _ _ _ _ _ _ (And.symm (pk_eq (inH hs 1) 0 (fun q => And.symm (pk_eq t 1 (fun q2 => x152 _ _ _ _ _ _ (nx _ _ e5 ?_)) (fun q2 => nx _ _ e5 ?_) rfl)) (fun q => x152 _ _ _ _ _ _ (nx _ _ e5 ?_)) rfl (by rfl) (by have := inH_le hs 1; omega)))
              · rw [inH_up, if_pos (by omega)]; rfl
              · rw [inH_up, if_neg (by omega), q]; rfl
              · rw [inH_up]
                have := inH_le hs 1
                split
                · rfl
                · rw [show inH hs 1 = 1 by omega]; rfl
            refine And.symm (pk_eq (inH hs 0) 0 (fun q => And.symm (pk_eq t 0 (fun q2 => x134 _ _ _ _ _ _ (k139 _ ?_)) (fun q2 => k139 _ ?_) rfl)) (fun q => x134 _ _ _ _ _ _ (k139 _ ?_)) rfl (by rfl) (by have := inH_le hs 0; omega))
            · rw [inH_up, if_pos (by omega)]; rfl
            · rw [inH_up, if_neg (by omega), q]; rfl
            · rw [inH_up]
              have := inH_le hs 0
              split
              · rfl
              · rw [show inH hs 0 = 1 by omega]; rfl
      · obtain ⟨a1, a2⟩ := nx_end (r := 62) u (show B.length ≤ p by omega) (by omega)
        rw [← e52] at a2
        have b52 : S52.2.1 (1000 + c) 2 = 1 := a2
        unfold wp_X2_isBroken
        rw [b52]
        simp only [hl] at ehd
        rw [if_neg hpe] at ehd
        exact ⟨Or.inr rfl, fun _ => no _ fS ehd, fun q => absurd q (by decide)⟩
  -- the beginning
  intro r69 S68 e69 e68
  have f68 : cf c S S68 := by rw [e68]; exact cf_next _ _ _
  have no : ∀ S'', hF c S S'' → hd B = none → X18 S'' := fun S'' e q => x18 _ (h0 _ q e)
  by_cases q0 : 0 < B.length
  · obtain ⟨a1, a2⟩ := nx_ok h hr hb q0 (by omega)
    have v0 := vb_lt hb 0
    rw [← e68] at a2
    rw [e69, a1]
    refine And.symm (pk_eq (vb B 0) 119 (fun z0 r72 S71 e72 e71 => ?_) (fun z0 => no _ f68.hF (by unfold hd; rw [if_neg (fun y => z0 y.2.1)])) rfl)
    have f71 : cf c S S71 := f68.trans (by rw [e71]; exact cf_next _ _ _)
    by_cases q1 : 1 < B.length
    · obtain ⟨b1, b2⟩ := nx_ok a2 (e66 _ f68.hF) hb q1 (by omega)
      have v1 := vb_lt hb (0 + 1)
      rw [← e71] at b2
      rw [e72, b1]
      refine pk_eq (vb B (0 + 1)) 50 (fun z1 S74 e74 S75 e75 S76 e76 S77 e77 r79 S78 e79 e78 x80 e80 => ?_) (fun z1 => no _ f71.hF (by unfold hd; rw [if_neg (fun y => z1 y.2.2)])) rfl
      have g75 : S75 = stX S71 66 (r66 (fun _ => none)) := by
        rw [e75, e74]; unfold rZeros rMake rApp
        rw [stX_stX, stX_at]; rfl
      have g77 : S77 = stX S75 67 (r67 (fun _ => none)) := by
        rw [e77, e76]; unfold rZeros rMake rApp
        rw [stX_stX, stX_at]; rfl
      have f75 : hF c S71 S75 := by rw [g75]; exact hF_66 _ _ (fun _ => by decide)
      have f76 : hF c S75 S77 := by rw [g77]; exact hF_67 _ _ (fun _ => by decide)
      have f77 : hF c S S77 := (f71.hF.trans f75).trans f76
      have u77 : cu S77 c B.length 2 := by rw [g77, g75]; exact b2
      have k66 : S77.1 66 = r66 (fun _ => none) := by rw [g77, stX_ne (by omega), g75, stX_at]
      have k67 : S77.1 67 = r67 (fun _ => none) := by rw [g77, stX_at]
      have f78 : cf c S77 S78 := by rw [e78]; exact cf_next _ _ _
      rw [e80]
      by_cases q2 : 2 < B.length
      · obtain ⟨c1, c2⟩ := nx_ok u77 (e66 _ f77) hb q2 (by omega)
        have v2 := vb_lt hb 2
        rw [← e78] at c2
        rw [e79, c1]
        have ehd : hd B = hT B (hl B B.length (vb B 2) 3 0 0 (fun _ => none)) := by unfold hd; rw [if_pos ⟨by omega, z0, z1⟩]
        have := key (vb B 2) 0 (vb B 2) 3 0 0 (fun _ => none) S78 ehd (f77.trans f78.hF) c2 (by rw [f78.1]; exact k66) (by rw [f78.1]; exact k67) (by omega) (by omega) (by omega) (by omega) v2
        exact this
      · obtain ⟨c1, c2⟩ := nx_end (r := 62) u77 (show B.length ≤ 2 by omega) (by omega)
        rw [← e78] at c2
        rw [e79, c1]
        have ehd : hd B = none := by unfold hd; rw [if_neg (fun y => by omega)]
        refine x71 _ _ _ _ _ _ _ ⟨fun _ => ⟨Or.inl rfl, fun S42 e42 => ?_⟩, fun z => absurd (by decide) z⟩
        have b42 : br S42 c := by rw [e42]; unfold br; rw [stM_k (by omega)]; exact c2
        have f42 : hF c S78 S42 := by rw [e42]; exact ⟨rfl, fun _ _ _ => rfl, fun k p a b => stM_k b, id, id⟩
        refine sp_nl_br b42 (fun v S43 f43 b43 S45 e45 => ?_)
        have f45 : hF c S S45 := (((f77.trans f78.hF).trans f42).trans f43.hF).trans (by rw [e45]; exact ⟨rfl, fun _ _ _ => rfl, fun k p a b => stM_k b, id, id⟩)
        have b45 : S45.2.1 (1000 + c) 2 = 1 := by rw [e45, stM_k (by omega)]; exact b43
        unfold wp_X2_isBroken
        rw [b45]
        exact ⟨Or.inr rfl, fun _ => x219 _ (x220 _ _ ⟨Or.inl rfl, h0 _ ehd f45⟩), fun q => absurd q (by decide)⟩
    · obtain ⟨b1, b2⟩ := nx_end (r := 62) a2 (show B.length ≤ 0 + 1 by omega) (by omega)
      rw [e72, b1]
      exact ⟨fun z => absurd z (by decide), fun _ => no _ f71.hF (by unfold hd; rw [if_neg (fun y => by omega)])⟩
  · obtain ⟨a1, a2⟩ := nx_end (r := 62) h (show B.length ≤ 0 by omega) (by omega)
    rw [e69, a1]
    exact ⟨fun _ => no _ f68.hF (by unfold hd; rw [if_neg (fun y => by omega)]), fun z => absurd z (by decide)⟩
