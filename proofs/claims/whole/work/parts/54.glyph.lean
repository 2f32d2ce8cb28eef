/-! the class's plain tables of a font -/
def T0 (gs : List Gl) : List Int32 := gs.flatMap plG
def Gz : Gl := (0, [], [], [], [])
def adB (gs : List Gl) (i : Nat) : List Int32 := numB ((gs.getD i Gz).1.toInt64) 2 ++ numB ((nI (T0 (gs.take i)).length).toInt64) 2
def T1 (gs : List Gl) (n : Nat) : List Int32 := (List.range n).flatMap (adB gs)
theorem T1_len (gs : List Gl) : ∀ n, (T1 gs n).length = 4 * n := by
  intro n
  induction n with
  | zero => rfl
  | succ n ih =>
    unfold T1 at ih ⊢
    rw [flat_succ, List.length_append, ih]
    simp [adB, numB_len]
    omega
theorem T0_len {gs : List Gl} (hk : ∀ (g : Nat) (G : Gl), gs[g]? = some G → okG G) : ∀ n, (T0 (gs.take n)).length ≤ 86 * n := by
  intro n
  induction n with
  | zero => simp [T0]
  | succ n ih =>
    unfold T0 at ih ⊢
    by_cases h : n < gs.length
    · rw [List.take_add_one, List.getElem?_eq_getElem h, List.flatMap_append, List.length_append]
      simp only [Option.toList_some, List.flatMap_cons, List.flatMap_nil, List.append_nil]
      have := plG_len (hk n gs[n] (List.getElem?_eq_getElem h))
      omega
    · rw [List.take_of_length_le (by omega)] at ih ⊢
      omega
theorem T0_take {gs : List Gl} {n : Nat} {G : Gl} (h : gs[n]? = some G) : T0 (gs.take (n + 1)) = T0 (gs.take n) ++ plG G := by
  unfold T0
  rw [List.take_add_one, h, List.flatMap_append]
  simp
theorem stX_swap {S : St} {r r' : Nat} {a b c : List Int32} (h : r ≠ r') : stX (stX (stX S r a) r' b) r c = stX (stX S r c) r' b := by
  unfold stX
  congr 1
  funext q
  unfold va_up
  by_cases h1 : q = r
  · subst h1; simp [h]
  · simp [h1]
theorem cap480 {j : Nat} (h : j ≤ 1) : gw_cap (48 + 7 * j) = 516 := by unfold gw_cap; rw [if_neg (by omega), if_pos (by omega), if_pos (by omega)]
theorem cap481 {j : Nat} (h : j ≤ 1) : gw_cap (48 + 7 * j + 1) = 24 := by unfold gw_cap; rw [if_neg (by omega), if_pos (by omega), if_neg (by omega), if_pos (by omega)]
theorem sp_makeTables {S : St} {j : Nat} {F : Fo} {P : St → Prop} (hc : cF S j F) (hk : okF F) (hcl : ∀ (g : Nat) (G : Gl), F.1[g]? = some G → closed G) (hj : j ≤ 1) (hle : rowsLe S) (h : P (stX (stX S (48 + 7 * j) (T0 F.1)) (48 + 7 * j + 1) (T1 F.1 F.1.length))) : wp_X7_makeTables S j P := by
  intro X22 X101 x22 x101 S29 e29 S30 e30
  have h6 := hk.1
  rw [show rwId S j 0 = 48 + 7 * j from rwId_nI (i := 0) (by omega), show rwId S j 1 = 48 + 7 * j + 1 from rwId_nI (i := 1) (by omega)] at *
  have ck0 := cap480 hj
  have ck1 := cap481 hj
  have key := up_loop (X := fun S' v => X22 S' (48 + 7 * j) (48 + 7 * j + 1) v) (fun g => stX (stX S (48 + 7 * j) (T0 (F.1.take g))) (48 + 7 * j + 1) (T1 F.1 g)) (N := F.1.length) (x22 _ _ _ _ ⟨fun _ => ?_, fun z => absurd (by show S.2.1 1 j ≤ _; rw [hc.1]; exact Int32.le_refl _) z⟩) (fun g hg hx => x22 _ _ _ _ ⟨fun z => absurd z (by show ¬ S.2.1 1 j ≤ _; rw [hc.1]; exact nI_ge hg (by omega)), fun _ x17 e17 => ?_⟩) 0 (by omega)
  · rw [e30, e29]
    unfold rMake
    simp only [List.take_zero] at key
    rw [nI_0] at key
    exact key
  · rw [List.take_of_length_le (Nat.le_refl _)]; exact h
  · have eG := List.getElem?_eq_getElem hg
    generalize hGG : F.1[g] = G at eG
    have kG := hk.2.1 g G eG
    have hG := hc.2.1 g G eG
    have hq : 6 * j + g < 12 := by omega
    have lT0 := T0_len hk.2.1 g
    have lT1 := T1_len F.1 g
    have lp := plG_len kG
    rw [glId_nI (by omega)]
    have gd : F.1.getD g Gz = G := by rw [List.getD_eq_getElem?_getD, eG]; rfl
    generalize hSg : stX (stX S (48 + 7 * j) (T0 (F.1.take g))) (48 + 7 * j + 1) (T1 F.1 g) = Sg at *
    have cGg : cG Sg (6 * j + g) G := by rw [← hSg]; exact cG_X (cG_X hG hq (by omega)) hq (by omega)
    have r0g : Sg.1 (48 + 7 * j) = T0 (F.1.take g) := by rw [← hSg, stX_ne (by omega), stX_at]
    have r1g : Sg.1 (48 + 7 * j + 1) = T1 F.1 g := by rw [← hSg, stX_at]
    have leg : rowsLe Sg := by
      rw [← hSg]
      exact le_stX (le_stX hle (by rw [ck0]; omega)) (by rw [ck1]; omega)
    have e17' : x17 = nI (T0 (F.1.take g)).length := by rw [e17]; unfold rLen; rw [r0g]
    refine ⟨by unfold nnB; decide, fun S18 e18 => ⟨by unfold nnB; decide, fun S19 e19 => ?_⟩⟩
    have e19' : S19 = stX Sg (48 + 7 * j + 1) (T1 F.1 (g + 1)) := by
      rw [e19, e18]
      unfold rNum
      rw [show (2 : Int32).toNatClampNeg = 2 from rfl, rApp_app, rApp_fit (by rw [r1g, ck1, lT1, List.length_append, numB_len, numB_len]; omega), r1g]
      congr 1
      unfold T1
      rw [flat_succ, e17']
      unfold adB
      rw [gd]
      have ea : fv_X4_advance Sg (6 * j + g) = G.1 := cGg.1
      rw [ea]
    have c19 : cG S19 (6 * j + g) G := by rw [e19']; exact cG_X cGg hq (by omega)
    have l19 : rowsLe S19 := by rw [e19']; exact le_stX leg (by rw [ck1, T1_len]; omega)
    have r019 : S19.1 (48 + 7 * j) = T0 (F.1.take g) := by rw [e19', stX_ne (by omega), r0g]
    have cnt : fv_X4_contourCount S19 (6 * j + g) = nI G.2.1.length := by show nI (S19.1 _).length = _; rw [c19.2.1, List.length_map]
    have fin : ∀ S', S' = stX S19 (48 + 7 * j) (T0 (F.1.take g) ++ plG G) → X101 S' (48 + 7 * j) (48 + 7 * j + 1) (nI g) := by
      intro S' eS'
      refine x101 _ _ _ _ (fun x28 e28 => ?_)
      rw [e28, nI_1]
      have : S' = stX (stX S (48 + 7 * j) (T0 (F.1.take (g + 1)))) (48 + 7 * j + 1) (T1 F.1 (g + 1)) := by
        rw [eS', e19', ← hSg, stX_stX, stX_swap (by omega), T0_take eG]
      rw [this]
      exact hx
    refine pk_le G.2.1.length 0 (fun h0 => ?_) (fun h0 => ?_) cnt (by rfl) (by have := kG.1.1; omega)
    · refine fin _ ?_
      have : plG G = [] := by unfold plG; rw [if_pos (List.eq_nil_of_length_eq_zero (by omega))]
      rw [this, List.append_nil, ← r019, stX_self]
    · have hne : G.2.1 ≠ [] := fun z => by rw [z] at h0; simp at h0
      refine sp_addContours c19 kG (hcl g G eG) hq (by omega) ?_
      refine sp_addFlags (cG_app c19 hq (by omega)) kG hq (by omega) (by omega) (rApp_le l19) ?_
      rw [rApp_app]
      refine sp_addSteps (cG_app c19 hq (by omega)) kG hq (by omega) (by omega) (rApp_le l19) ?_
      rw [rApp_app]
      intro S27 e27
      have eb : ((nI G.2.1.length :: (lasts 0 G.2.1).map nI) ++ (rl 16 (flL G)).map nI) ++ ((List.range G.2.1.sum).flatMap (fun p => stB (stp G.2.2.1 p)) ++ (List.range G.2.1.sum).flatMap (fun p => stB (stp G.2.2.2.1 p))) = bodyG G := by unfold bodyG; simp
      rw [eb] at e27
      have lb := body_len kG
      have er : rLen (rApp S19 (48 + 7 * j) (bodyG G)) (48 + 7 * j) - x17 = nI (bodyG G).length := by
        unfold rLen
        rw [rApp_fit (by rw [r019, ck0]; omega), stX_at, r019, e17', List.length_append, pk_sub (by omega)]
        congr 1
        omega
      rw [er, show nI (bodyG G).length - nI (bodyG G).length / 2 * 2 = nI ((bodyG G).length % 2) from pk_rem (d := 2) (by omega) (by omega) (by omega)] at e27
      unfold rZeros at e27
      rw [nI_clamp (by omega), rApp_app] at e27
      have ep : plG G = bodyG G ++ List.replicate ((bodyG G).length % 2) 0 := by unfold plG; rw [if_neg hne]
      rw [← ep, rApp_fit (by rw [r019, ck0]; omega), r019] at e27
      exact fin _ e27
/-! the reference lays a glyph -/
theorem mG.keep {K : Nat → Nat → Prop} {S S1 : St} {g : Nat} {G : Gl} (h : mG S g G) (hf : fr K S S1) (hK : ∀ k p, 10 ≤ k → k ≤ 16 → ¬ K k p) : mG S1 g G := by
  obtain ⟨h1, h2, h3, h4⟩ := h
  refine ⟨by rw [hf.2.2 _ _ (hK _ _ (by omega) (by omega))]; exact h1, by rw [hf.2.2 _ _ (hK _ _ (by omega) (by omega))]; exact h2, by rw [hf.2.2 _ _ (hK _ _ (by omega) (by omega))]; exact h3, fun p hp => ?_⟩
  rw [hf.2.2 _ _ (hK _ _ (by omega) (by omega)), hf.2.2 _ _ (hK _ _ (by omega) (by omega)), hf.2.2 _ _ (hK _ _ (by omega) (by omega)), hf.2.2 _ _ (hK _ _ (by omega) (by omega))]
  exact h4 p hp
theorem kL_no {kk pp : Nat} (h : 17 ≤ kk) : ∀ k p, 10 ≤ k → k ≤ 16 → ¬ kL kk pp k p := fun k p h1 h2 z => by unfold kL at z; omega
theorem expC_split : ∀ (pre : List Nat) (s : Nat) (t : List Nat) (c : Nat), expC c (pre ++ s :: t) = expC c pre ++ (List.replicate s (c + pre.length) ++ expC (c + pre.length + 1) t)
  | [], s, t, c => by simp [expC]
  | x :: pre, s, t, c => by
    simp only [List.cons_append, expC, expC_split pre s t (c + 1), List.append_assoc, List.length_cons]
    rw [show c + 1 + pre.length = c + (pre.length + 1) by omega]
theorem expC_at {sz pre t : List Nat} {s i : Nat} (e : sz = pre ++ s :: t) (hi : i < s) : (expC 0 sz).getD (pre.sum + i) 0 = pre.length := by
  rw [e, expC_split]
  have hl := expC_len pre 0
  rw [List.getD_eq_getElem?_getD, List.getElem?_append_right (by omega), List.getElem?_append_left (by simp; omega), List.getElem?_replicate, if_pos (by omega)]
  simp
theorem nI_byt {n : Nat} (h : n < 256) : byt (nI n) := ⟨n, h, rfl⟩
theorem sm_layGlyph {S : St} {g : Nat} {G : Gl} {L : List Int32} {P : St → Prop} (hm : mG S g G) (hk : okG G) (hcl : closed G) (hg : g < 6) (h : mL S 31 5 L) (hl : L.length + 200 ≤ 1100) (hP : ∀ S2, fr (kL 31 5) S S2 → mL S2 31 5 (L ++ plG G) → P S2) : wp_X11_layGlyph S (nI g) P := by
  intro X35 X78 X84 X96 X139 X183 X186 X195 X221 X260 x35 x78 x84 x96 x139 x183 x186 x195 x221 x260
  have k1 := hk.1.1
  have k2 := hk.1.2.1
  rw [nI_clamp (by omega)]
  refine ⟨pk_in g _ (show g < 6 from hg) rfl (by decide), And.symm (pk_eq G.2.1.length 0 (fun h0 => ?_) (fun h0 x87 e87 => ⟨pk_in g _ (show g < 6 from hg) rfl (by decide), ?_⟩) hm.2.1)⟩
  · have : plG G = [] := by unfold plG; rw [if_pos (List.eq_nil_of_length_eq_zero h0)]
    rw [this, List.append_nil] at hP
    exact hP S (fr.refl S) h
  have hne : G.2.1 ≠ [] := fun z => by rw [z] at h0; simp at h0
  have ep : plG G = bodyG G ++ List.replicate ((bodyG G).length % 2) 0 := by unfold plG; rw [if_neg hne]
  rw [ep] at hP
  have lb := body_len hk
  have hv2 : x87 = nI L.length := by rw [e87, h.1]
  have a1 := lasts_len G.2.1 0
  have a2 := rl_len 16 (flL G)
  have a3 := flat_len G.2.2.1 G.2.1.sum
  have a4 := flat_len G.2.2.2.1 G.2.1.sum
  have a5 := flL_len G
  have mk : ∀ {S'}, fr (kL 31 5) S S' → mG S' g G := fun f => hm.keep f (kL_no (by omega))
  -- the end: y, then the fill
  have e221 : ∀ (d : Nat) (S' : St) (M : List Int32), d ≤ G.2.1.sum → fr (kL 31 5) S S' → mL S' 31 5 (L ++ M ++ (List.range (G.2.1.sum - d)).flatMap (fun p => stB (stp G.2.2.2.1 p))) → M ++ (List.range G.2.1.sum).flatMap (fun p => stB (stp G.2.2.2.1 p)) = bodyG G → X221 S' (nI L.length) (nI G.2.1.sum) (nI (G.2.1.sum - d)) := by
    intro d
    induction d with
    | zero =>
      intro S' M _ f hmL eM
      rw [Nat.sub_zero, List.append_assoc, eM] at hmL
      refine x221 _ _ _ _ ⟨fun _ => ?_, fun z => absurd (Int32.le_refl _) z⟩
      have ed : S'.2.1 9 5 - nI L.length = nI (bodyG G).length := by
        rw [hmL.1, List.length_append, pk_sub (by omega)]; congr 1; omega
      rw [ed, show nI (bodyG G).length - nI (bodyG G).length / 2 * 2 = nI ((bodyG G).length % 2) from pk_rem (d := 2) (by omega) (by omega) (by omega)]
      refine pk_eq ((bodyG G).length % 2) 0 (fun h0 => x260 _ (hP S' f (by rw [h0, List.replicate_zero, List.append_nil]; exact hmL))) (fun h0 => ?_) rfl
      refine sm_lay hmL (by simp; omega) (fun S2 f2 h2 => x260 _ (hP S2 (f.trans f2) ?_))
      rw [show (bodyG G).length % 2 = 1 by omega]
      simpa using h2
    | succ d ih =>
      intro S' M hd f hmL eM
      have hp : G.2.1.sum - (d + 1) < G.2.1.sum := by omega
      have bl : ((List.range (G.2.1.sum - (d + 1))).flatMap (fun p => stB (stp G.2.2.2.1 p))).length ≤ 2 * (G.2.1.sum - (d + 1)) := flat_len _ _
      have bM : M.length ≤ 85 := by have := congrArg List.length eM; simp only [List.length_append] at this; omega
      refine x221 _ _ _ _ ⟨fun z => absurd z (nI_ge hp (by omega)), fun _ => ?_⟩
      refine stepY_mo (mk f) hk hg hp (sm_layStep (inS_stp hk.2.2.1 _) hmL (by simp only [List.length_append]; omega) (fun S2 f2 h2 x85 e85 => ?_))
      rw [e85, nI_1, show G.2.1.sum - (d + 1) + 1 = G.2.1.sum - d by omega]
      refine ih S2 M (by omega) (f.trans f2) ?_ eM
      rw [List.append_assoc, ← flat_succ (fun p => stB (stp G.2.2.2.1 p)), show G.2.1.sum - (d + 1) + 1 = G.2.1.sum - d by omega] at h2
      exact h2
  have e195 : ∀ (d : Nat) (S' : St) (M : List Int32), d ≤ G.2.1.sum → fr (kL 31 5) S S' → mL S' 31 5 (L ++ M ++ (List.range (G.2.1.sum - d)).flatMap (fun p => stB (stp G.2.2.1 p))) → M ++ (List.range G.2.1.sum).flatMap (fun p => stB (stp G.2.2.1 p)) ++ (List.range G.2.1.sum).flatMap (fun p => stB (stp G.2.2.2.1 p)) = bodyG G → X195 S' (nI L.length) (nI G.2.1.sum) (nI (G.2.1.sum - d)) := by
    intro d
    induction d with
    | zero =>
      intro S' M _ f hmL eM
      rw [Nat.sub_zero] at hmL ⊢
      refine x195 _ _ _ _ ⟨fun _ => ?_, fun z => absurd (Int32.le_refl _) z⟩
      have := e221 G.2.1.sum S' (M ++ (List.range G.2.1.sum).flatMap (fun p => stB (stp G.2.2.1 p))) (Nat.le_refl _) f (by rw [Nat.sub_self]; simpa using hmL) eM
      rw [Nat.sub_self] at this
      exact this
    | succ d ih =>
      intro S' M hd f hmL eM
      have hp : G.2.1.sum - (d + 1) < G.2.1.sum := by omega
      have bl : ((List.range (G.2.1.sum - (d + 1))).flatMap (fun p => stB (stp G.2.2.1 p))).length ≤ 2 * (G.2.1.sum - (d + 1)) := flat_len _ _
      have bM : M.length ≤ 85 := by have := congrArg List.length eM; simp only [List.length_append] at this; omega
      refine x195 _ _ _ _ ⟨fun z => absurd z (nI_ge hp (by omega)), fun _ => ?_⟩
      refine stepX_mo (mk f) hk hg hp (sm_layStep (inS_stp hk.2.1 _) hmL (by simp only [List.length_append]; omega) (fun S2 f2 h2 x85 e85 => ?_))
      rw [e85, nI_1, show G.2.1.sum - (d + 1) + 1 = G.2.1.sum - d by omega]
      refine ih S2 M (by omega) (f.trans f2) ?_ eM
      rw [List.append_assoc, ← flat_succ (fun p => stB (stp G.2.2.1 p)), show G.2.1.sum - (d + 1) + 1 = G.2.1.sum - d by omega] at h2
      exact h2
  -- flags
  have e96 : ∀ (d k : Nat) (S' : St) (M : List Int32), d ≤ G.2.1.sum → k + d ≤ G.2.1.sum → fr (kL 31 5) S S' → mL S' 31 5 (L ++ M) → M.length + k + d ≤ 21 → M ++ (out k ((flL G).drop (G.2.1.sum - d))).map nI ++ (List.range G.2.1.sum).flatMap (fun p => stB (stp G.2.2.1 p)) ++ (List.range G.2.1.sum).flatMap (fun p => stB (stp G.2.2.2.1 p)) = bodyG G → X96 S' (nI L.length) (nI G.2.1.sum) (nI k) (nI (G.2.1.sum - d)) := by
    intro d
    induction d with
    | zero =>
      intro k S' M _ _ f hmL _ eM
      rw [Nat.sub_zero] at eM ⊢
      refine x96 _ _ _ _ _ ⟨fun _ => ?_, fun z => absurd (Int32.le_refl _) z⟩
      rw [List.drop_of_length_le (by rw [flL_len]; exact Nat.le_refl _)] at eM
      simp only [out, List.map_nil, List.append_nil] at eM
      have := e195 G.2.1.sum S' M (Nat.le_refl _) f (by rw [Nat.sub_self]; simpa using hmL) eM
      rw [Nat.sub_self] at this
      exact this
    | succ d ih =>
      intro k S' M hd hkd f hmL hb eM
      have hp : G.2.1.sum - (d + 1) < G.2.1.sum := by omega
      have hnx : G.2.1.sum - (d + 1) + 1 = G.2.1.sum - d := by omega
      have hf := flG_le G (G.2.1.sum - (d + 1))
      rw [flL_drop hp, hnx] at eM
      have e139 : ∀ S1, fr (kL 31 5) S S1 → mL S1 31 5 (L ++ M) → out k (flG G (G.2.1.sum - (d + 1)) :: (flL G).drop (G.2.1.sum - d)) = emit (flG G (G.2.1.sum - (d + 1))) (k + 1) ++ out 0 ((flL G).drop (G.2.1.sum - d)) → X139 S1 (nI L.length) (nI G.2.1.sum) (nI (k + 1)) (nI (G.2.1.sum - (d + 1))) (nI (flG G (G.2.1.sum - (d + 1)))) := by
        intro S1 f1 h1 eo
        rw [eo] at eM
        have go : ∀ S2 N, fr (kL 31 5) S S2 → mL S2 31 5 (L ++ (M ++ N)) → N = (emit (flG G (G.2.1.sum - (d + 1))) (k + 1)).map nI → X183 S2 (nI L.length) (nI G.2.1.sum) (nI (G.2.1.sum - (d + 1))) := by
          intro S2 N f2 h2 eN
          refine x183 _ _ _ _ (x186 _ _ _ _ _ (fun x70 e70 => ?_))
          rw [e70, nI_1, hnx]
          refine ih 0 S2 (M ++ N) (by omega) (by omega) f2 h2 ?_ ?_
          · have := emit_len (flG G (G.2.1.sum - (d + 1))) (k + 1)
            rw [List.length_append, eN, List.length_map]
            omega
          · rw [eN]; rw [← eM]; simp
        refine x139 _ _ _ _ _ _ (pk_le (k + 1) 2 (fun h2 => ?_) (fun h2 => ?_) rfl)
        · refine sm_lay h1 (by simp; omega) (fun S2 f2 hm2 => ?_)
          rw [and255 (nI_byt (by omega))] at hm2
          refine And.symm (pk_eq (k + 1) 2 (fun hk2 => ?_) (fun hk2 => ?_) rfl)
          · refine sm_lay hm2 (by simp; omega) (fun S3 f3 hm3 => go S3 [nI (flG G (G.2.1.sum - (d + 1))), nI (flG G (G.2.1.sum - (d + 1)))] ((f1.trans f2).trans f3) ?_ ?_)
            · rw [and255 (nI_byt (by omega))] at hm3
              simpa using hm3
            · unfold emit; rw [if_neg (by omega), hk2]; rfl
          · refine go S2 [nI (flG G (G.2.1.sum - (d + 1)))] (f1.trans f2) (by simpa using hm2) ?_
            unfold emit; rw [if_neg (by omega), show k + 1 = 1 by omega]; rfl
        · rw [show nI (flG G (G.2.1.sum - (d + 1))) + 8 = nI (flG G (G.2.1.sum - (d + 1)) + 8) from nI_add _ 8]
          refine sm_lay h1 (by simp; omega) (fun S2 f2 hm2 => ?_)
          rw [and255 (nI_byt (by omega))] at hm2
          rw [nI_pred]
          refine sm_lay hm2 (by simp; omega) (fun S3 f3 hm3 => go S3 [nI (flG G (G.2.1.sum - (d + 1)) + 8), nI k] ((f1.trans f2).trans f3) ?_ ?_)
          · rw [and255 (nI_byt (by omega))] at hm3
            simpa using hm3
          · unfold emit; rw [if_pos h2]; rfl
      refine x96 _ _ _ _ _ ⟨fun z => absurd z (nI_ge hp (by omega)), fun _ => ?_⟩
      refine sm_flag (mk f) hk hg hp (fun x55 e55 => ?_)
      rw [e55, nI_1, nI_1, hnx]
      refine pk_eq (G.2.1.sum - d) G.2.1.sum (fun he => e139 S' f hmL ?_) (fun he => ?_) rfl
      · rw [List.drop_of_length_le (by rw [flL_len]; omega)]
        simp [out]
      · refine sm_flag (mk f) hk hg (p := G.2.1.sum - d) (by omega) ?_
        have hf2 := flG_le G (G.2.1.sum - d)
        have hdr := flL_drop (G := G) (p := G.2.1.sum - d) (by omega)
        refine pk_eq (flG G (G.2.1.sum - d)) (flG G (G.2.1.sum - (d + 1))) (fun hff => ?_) (fun hff => e139 S' f hmL ?_) rfl
        · refine x186 _ _ _ _ _ (fun x70 e70 => ?_)
          rw [e70, nI_1, hnx]
          refine ih (k + 1) S' M (by omega) (by omega) f hmL (by omega) ?_
          rw [← eM]
          congr 4
          conv => rhs; rw [out]
          rw [hdr]
          simp [hff]
        · conv => lhs; rw [out]
          rw [hdr]
          simp [hff]
  -- contours
  have e35 : ∀ (t pre : List Nat) (S' : St) (M : List Int32), G.2.1 = pre ++ t → fr (kL 31 5) S S' → mL S' 31 5 (L ++ M) → M.length = pre.length + 1 → M ++ (lasts pre.sum t).map nI = nI G.2.1.length :: (lasts 0 G.2.1).map nI → X35 S' (nI L.length) (nI G.2.1.sum) (nI pre.sum) := by
    intro t
    induction t with
    | nil =>
      intro pre S' M e f hmL hml eM
      simp at e
      rw [← e]
      refine x35 _ _ _ _ ⟨fun _ => ?_, fun z => absurd (Int32.le_refl _) z⟩
      simp only [lasts, List.map_nil, List.append_nil] at eM
      have := e96 G.2.1.sum 0 S' M (Nat.le_refl _) (by omega) f hmL (by rw [e] at k1 k2 ⊢; omega) ?_
      · rw [Nat.sub_self] at this; exact this
      · rw [Nat.sub_self, List.drop_zero, out_rl 16 _ (by rw [flL_len]; omega), eM]
        unfold bodyG; rfl
    | cons s t ih =>
      intro pre S' M e f hmL hml eM
      have es : G.2.1.sum = pre.sum + s + t.sum := by rw [e]; simp; omega
      have el : G.2.1.length = pre.length + t.length + 1 := by rw [e]; simp; omega
      have hs : 1 ≤ s := hcl s (by rw [e]; simp)
      have inner : ∀ d, d < s → X35 S' (nI L.length) (nI G.2.1.sum) (nI (pre.sum + (s - 1 - d))) := by
        intro d
        induction d with
        | zero =>
          intro _
          have hp : pre.sum + (s - 1 - 0) < G.2.1.sum := by omega
          refine x35 _ _ _ _ ⟨fun z => absurd z (nI_ge hp (by omega)), fun _ => ?_⟩
          have e78 : X78 S' (nI L.length) (nI G.2.1.sum) (nI (pre.sum + (s - 1 - 0))) := by
            refine x78 _ _ _ _ (sm_lay hmL (by simp; omega) (fun S2 f2 hm2 => x84 _ _ _ _ (fun xx exx => ?_)))
            rw [exx, nI_1, show pre.sum + (s - 1 - 0) + 1 = (pre ++ [s]).sum by simp; omega]
            rw [and255 (nI_byt (by omega))] at hm2
            refine ih (pre ++ [s]) S2 (M ++ [nI (pre.sum + (s - 1 - 0))]) (by rw [e]; simp) (f.trans f2) (by simpa using hm2) (by simp; omega) ?_
            rw [← eM]
            simp [lasts]
            congr 1
            omega
          rw [nI_1]
          refine pk_eq (pre.sum + (s - 1 - 0) + 1) G.2.1.sum (fun _ => e78) (fun hne2 => ?_) rfl
          have e16a : 16 * nI g + nI (pre.sum + (s - 1 - 0)) = nI (16 * g + (pre.sum + (s - 1 - 0))) := by simp only [lit32, pk_mul, nI_add]
          rw [e16a, nI_1, nI_clamp (by omega), nI_clamp (by omega)]
          refine ⟨pk_in _ _ (show _ < 96 by omega) rfl (by decide), pk_in _ _ (show _ < 96 by omega) rfl (by decide), ?_⟩
          have ht : ∃ s2 t2, t = s2 :: t2 := by
            cases t with
            | nil => simp at es; omega
            | cons a b => exact ⟨a, b, rfl⟩
          obtain ⟨s2, t2, et⟩ := ht
          have hs2 : 1 ≤ s2 := hcl s2 (by rw [e, et]; simp)
          have v1 : S'.2.1 16 (16 * g + (pre.sum + (s - 1 - 0)) + 1) = nI (pre.length + 1) := by
            have := ((mk f).2.2.2 (pre.sum + (s - 1 - 0) + 1) (by omega)).2.2.2
            rw [show 16 * g + (pre.sum + (s - 1 - 0)) + 1 = 16 * g + (pre.sum + (s - 1 - 0) + 1) by omega, this]
            congr 1
            have := expC_at (sz := G.2.1) (pre := pre ++ [s]) (s := s2) (t := t2) (i := 0) (by rw [e, et]; simp) (by omega)
            rw [show pre.sum + (s - 1 - 0) + 1 = (pre ++ [s]).sum + 0 by simp; omega, this]
            simp
          have v0 : S'.2.1 16 (16 * g + (pre.sum + (s - 1 - 0))) = nI pre.length := by
            rw [((mk f).2.2.2 (pre.sum + (s - 1 - 0)) (by omega)).2.2.2]
            congr 1
            exact expC_at e (by omega)
          rw [v1, v0]
          exact ⟨fun z => absurd z (nI_ge (by omega) (by omega)), fun _ => e78⟩
        | succ d ihd =>
          intro hd
          have hp : pre.sum + (s - 1 - (d + 1)) < G.2.1.sum := by omega
          refine x35 _ _ _ _ ⟨fun z => absurd z (nI_ge hp (by omega)), fun _ => ?_⟩
          rw [nI_1]
          refine pk_eq (pre.sum + (s - 1 - (d + 1)) + 1) G.2.1.sum (fun z => by omega) (fun hne2 => ?_) rfl
          have e16a : 16 * nI g + nI (pre.sum + (s - 1 - (d + 1))) = nI (16 * g + (pre.sum + (s - 1 - (d + 1)))) := by simp only [lit32, pk_mul, nI_add]
          rw [e16a, nI_1, nI_clamp (by omega), nI_clamp (by omega)]
          refine ⟨pk_in _ _ (show _ < 96 by omega) rfl (by decide), pk_in _ _ (show _ < 96 by omega) rfl (by decide), ?_⟩
          have v1 : S'.2.1 16 (16 * g + (pre.sum + (s - 1 - (d + 1))) + 1) = nI pre.length := by
            have := ((mk f).2.2.2 (pre.sum + (s - 1 - d)) (by omega)).2.2.2
            rw [show 16 * g + (pre.sum + (s - 1 - (d + 1))) + 1 = 16 * g + (pre.sum + (s - 1 - d)) by omega, this]
            congr 1
            exact expC_at e (by omega)
          have v0 : S'.2.1 16 (16 * g + (pre.sum + (s - 1 - (d + 1)))) = nI pre.length := by
            rw [((mk f).2.2.2 (pre.sum + (s - 1 - (d + 1))) (by omega)).2.2.2]
            congr 1
            exact expC_at e (by omega)
          rw [v1, v0]
          refine ⟨fun _ => x84 _ _ _ _ (fun xx exx => ?_), fun z => absurd (Int32.le_refl _) z⟩
          rw [exx, nI_1, show pre.sum + (s - 1 - (d + 1)) + 1 = pre.sum + (s - 1 - d) by omega]
          exact ihd (by omega)
      have := inner (s - 1) (by omega)
      rw [Nat.sub_self, Nat.add_zero] at this
      exact this
  rw [hm.2.1]
  refine sm_lay h (by omega) (fun S88 f88 h88 => ⟨pk_in g _ (show g < 6 from hg) rfl (by decide), fun x90 e90 => ?_⟩)
  rw [and255 (nI_byt (by omega))] at h88
  rw [hv2, e90, (mk f88).2.2.1]
  exact e35 G.2.1 [] S88 [nI G.2.1.length] rfl f88 h88 rfl rfl
