/-! the reference lays the tables of the stream -/
theorem sm_flowShort {S : St} {B : List Int32} {x : Int32} (n : Nat) {P : St → Prop} (hx : x = nI n) (h : mL S 30 4 B) (hn : n ≤ 2000) (hl : B.length + 3 ≤ 1100) (hP : ∀ S2, fr (kL 30 4) S S2 → mL S2 30 4 (B ++ shortB x) → P S2) : wp_X11_flowShort S x P := by
  subst hx
  rw [shortB_nI (by omega)] at hP
  have e64 : ∀ S' B', fr (kL 30 4) S S' → mL S' 30 4 B' → B'.length < 1100 → (∀ S2, fr (kL 30 4) S S2 → mL S2 30 4 (B' ++ [nI ((if 761 < n then n else if 505 < n then n - 506 else if 252 < n then n - 253 else n) % 256)]) → P S2) → wp_X11_flowShort_64 (nI n) S' P := by
    intro S' B' f h' hl' hP'
    unfold wp_X11_flowShort_64 wp_X11_flowShort_107
    refine pk_le n 761 (fun h1 => pk_le n 505 (fun h2 => pk_le n 252 (fun h3 => ?_) (fun h3 => ?_) rfl) (fun h2 => ?_) rfl) (fun h1 => ?_) rfl
    · rw [if_neg (by omega), if_neg (by omega), if_neg (by omega)] at hP'
      exact sm_flowN n rfl (by omega) h' hl' (fun S2 f2 h2 => hP' S2 (f.trans f2) h2)
    · rw [if_neg (by omega), if_neg (by omega), if_pos h3] at hP'
      exact sm_flowN (n - 253) (pk_sub (b := 253) (by omega)) (by omega) h' hl' (fun S2 f2 h2 => hP' S2 (f.trans f2) h2)
    · rw [if_neg (by omega), if_pos h2] at hP'
      exact sm_flowN (n - 506) (pk_sub (b := 506) (by omega)) (by omega) h' hl' (fun S2 f2 h2 => hP' S2 (f.trans f2) h2)
    · rw [if_pos h1] at hP'
      exact sm_flowN n rfl (by omega) h' hl' (fun S2 f2 h2 => hP' S2 (f.trans f2) h2)
  unfold wp_X11_flowShort wp_X11_flowShort_48
  refine pk_le n 761 (fun h1 => pk_le n 505 (fun h2 => pk_le n 252 (fun h3 => ?_) (fun h3 => ?_) rfl) (fun h2 => ?_) rfl) (fun h1 => ?_) rfl
  · refine pk_le n 761 (fun _ => e64 S B (fr.refl S) h (by omega) (fun S2 f2 h2 => hP S2 f2 ?_)) (fun z => absurd h1 (by omega)) rfl
    rw [if_neg (by omega), if_neg (by omega), if_neg (by omega), Nat.mod_eq_of_lt (by omega)] at h2
    rw [if_neg (by omega)]; exact h2
  · refine sm_flowN 255 rfl (by omega) h (by omega) (fun S1 f1 hB1 => pk_le n 761 (fun _ => e64 S1 _ f1 hB1 (by simp; omega) (fun S2 f2 h2 => hP S2 f2 ?_)) (fun z => absurd h1 (by omega)) rfl)
    rw [if_neg (by omega), if_neg (by omega), if_pos h3, Nat.mod_eq_of_lt (show n - 253 < 256 by omega)] at h2
    rw [if_pos (by omega), if_neg (by omega)]; simpa using h2
  · refine sm_flowN 254 rfl (by omega) h (by omega) (fun S1 f1 hB1 => pk_le n 761 (fun _ => e64 S1 _ f1 hB1 (by simp; omega) (fun S2 f2 h2 => hP S2 f2 ?_)) (fun z => absurd h1 (by omega)) rfl)
    rw [if_neg (by omega), if_pos (by omega), Nat.mod_eq_of_lt (show n - 506 < 256 by omega)] at h2
    rw [if_pos (by omega), if_pos (by omega), if_neg (by omega)]; simpa using h2
  · refine sm_flowN 253 rfl (by omega) h (by omega) (fun S1 f1 hB1 => pk_le n 761 (fun z => absurd z (by omega)) (fun _ => ?_) rfl)
    rw [dv256 (by omega)]
    refine sm_flowN (n / 256) rfl (by omega) hB1 (by simp; omega) (fun S3 f3 hB3 => e64 S3 _ (f1.trans f3) hB3 (by simp; omega) (fun S2 f2 h2 => hP S2 f2 ?_))
    rw [if_pos h1, Nat.mod_eq_of_lt (show n / 256 < 256 by omega)] at h2
    rw [if_pos (by omega), if_pos (by omega), if_pos (by omega)]; simpa using h2
theorem expC_count : ∀ (sz : List Nat) (a c : Nat), (expC a sz).count c = if a ≤ c then sz.getD (c - a) 0 else 0
  | [], a, c => by simp [expC]
  | s :: t, a, c => by
    rw [expC, List.count_append, List.count_replicate, expC_count t (a + 1) c]
    by_cases h1 : a = c
    · subst h1
      rw [if_neg (show ¬ a + 1 ≤ a by omega), if_pos (Nat.le_refl a)]
      simp
    · by_cases h2 : a ≤ c
      · rw [if_pos (show a + 1 ≤ c by omega), if_pos h2, if_neg (by simpa using h1), show c - a = c - (a + 1) + 1 by omega]
        simp
      · rw [if_neg (show ¬ a + 1 ≤ c by omega), if_neg h2, if_neg (by simpa using h1)]
theorem sm_flowTable {S : St} {F : Fo} {t : Nat} {B : List Int32} {P : St → Prop} (hm : mF S F) (hk : okF F) (ht : t < 7) (h : mL S 30 4 B) (hl : B.length + (if t = 0 then 520 else 30) ≤ 1100) (hP : ∀ S2, fr (kL 30 4) S S2 → mL S2 30 4 (B ++ strL F t) → P S2) : wp_X11_flowTable S (nI t) P := by
  intro X2 X35 X64 X79 X105 X115 X131 X167 X195 X205 X243 X261 X271 x2 x35 x64 x79 x105 x115 x131 x167 x195 x205 x243 x261 x271
  have h6 := hk.1
  have h20 := (hk.2.2.2.2 t ht).1
  have mk : ∀ {S'}, fr (kL 30 4) S S' → mF S' F := fun f => hm.keepL f (by omega) (by omega)
  have lds := fun n => fmT (f := dsG) hk (fun G h => dsG_len h) n
  have lsb := fun n => fmT (f := sbG) hk (fun G h => sbG_len h) n
  have lsh := fun n => fmT (f := shG) hk (fun G h => shG_len h) n
  have lcn := fun n => fmT (f := cnG) (c := 1) hk (fun G _ => by simp [cnG]) n
  have lad := fun n => fmT (f := adG) hk (fun G h => adG_len h) n
  have tk : ∀ f : Gl → List Int32, (F.1.take F.1.length).flatMap f = F.1.flatMap f := fun f => by rw [List.take_of_length_le (Nat.le_refl _)]
  -- the details
  have e261 : ∀ (S' : St) (pre : List Int32), B.length + 520 ≤ 1100 → pre.length ≤ 127 → fr (kL 30 4) S S' → mL S' 30 4 (B ++ pre) → pre ++ F.1.flatMap dsG = strL F t → X261 S' 0 := by
    intro S' pre hl hp f hmL e
    have := up_loop2 (X := X261) (fun g S' => fr (kL 30 4) S S' ∧ mL S' 30 4 (B ++ (pre ++ (F.1.take g).flatMap dsG))) (N := F.1.length) (fun S' ⟨f, h⟩ => x261 _ _ ⟨fun _ => hP S' f (by rw [tk, e] at h; exact h), fun z => absurd (by rw [(mk f).1]; exact Int32.le_refl _) z⟩) (fun g S' hg ⟨f, h⟩ hx => x261 _ _ ⟨fun z => absurd z (by rw [(mk f).1]; exact nI_ge hg (by omega)), fun _ => ?_⟩) 0 S' (by omega) ⟨f, by simpa using hmL⟩
    · rw [nI_0] at this; exact this
    · have eG := List.getElem?_eq_getElem hg
      generalize hGG : F.1[g] = G at eG
      have kG := hk.2.1 g G eG
      have k2 := kG.1.2.1
      have := lds g
      have := up_loop2 (X := fun S' v => X271 S' (nI g) v) (fun p S' => fr (kL 30 4) S S' ∧ mL S' 30 4 (B ++ (pre ++ ((F.1.take g).flatMap dsG ++ (List.range p).flatMap (dtG G))))) (N := G.2.1.sum) (fun S' ⟨f, h⟩ => x271 _ _ _ ⟨pk_in g _ (show g < 6 by omega) rfl (by decide), fun _ x e => ?_, fun z => absurd ?_ z⟩) (fun p S' hp ⟨f, h⟩ hx2 => x271 _ _ _ ⟨pk_in g _ (show g < 6 by omega) rfl (by decide), fun z => absurd z ?_, fun _ => ?_⟩) 0 S' (by omega) ⟨f, by simpa using h⟩
      · rw [nI_0] at this; exact this
      · rw [e, nI_1]
        refine hx S' ⟨f, ?_⟩
        rw [fm_take eG]; exact h
      · rw [nI_clamp (by omega), ((mk f).2.1 g G eG).2.2.1]; exact Int32.le_refl _
      · rw [nI_clamp (by omega), ((mk f).2.1 g G eG).2.2.1]; exact nI_ge hp (by omega)
      · have f2 : ((List.range p).flatMap (dtG G)).length ≤ 4 * p := by
          have := fm_len (f := dtG G) (c := 4) (List.range p) (fun s hs => dt_len _ _)
          simpa using this
        refine sm_flowStep ((mk f).2.1 g G eG) kG (by omega) hp h (by simp only [List.length_append]; omega) (fun S2 f2 h2 x e => ?_)
        rw [e, nI_1]
        refine hx2 S2 ⟨f.trans f2, ?_⟩
        rw [flat_succ]
        simpa using h2
  -- the sign bytes
  have e195 : ∀ (S' : St) (pre : List Int32), B.length + 520 ≤ 1100 → pre.length ≤ 31 → fr (kL 30 4) S S' → mL S' 30 4 (B ++ pre) → pre ++ F.1.flatMap sbG ++ F.1.flatMap dsG = strL F t → X195 S' 0 := by
    intro S' pre hl hp f hmL e
    have := up_loop2 (X := X195) (fun g S' => fr (kL 30 4) S S' ∧ mL S' 30 4 (B ++ (pre ++ (F.1.take g).flatMap sbG))) (N := F.1.length) (fun S' ⟨f, h⟩ => x195 _ _ ⟨fun _ => e261 S' _ hl (by have := lsb F.1.length; simp only [List.length_append]; omega) f h (by rw [tk]; exact e), fun z => absurd (by rw [(mk f).1]; exact Int32.le_refl _) z⟩) (fun g S' hg ⟨f, h⟩ hx => x195 _ _ ⟨fun z => absurd z (by rw [(mk f).1]; exact nI_ge hg (by omega)), fun _ => ?_⟩) 0 S' (by omega) ⟨f, by simpa using hmL⟩
    · rw [nI_0] at this; exact this
    · have eG := List.getElem?_eq_getElem hg
      generalize hGG : F.1[g] = G at eG
      have kG := hk.2.1 g G eG
      have k2 := kG.1.2.1
      have := lsb g
      have := up_loop2 (X := fun S' v => X205 S' (nI g) v) (fun p S' => fr (kL 30 4) S S' ∧ mL S' 30 4 (B ++ (pre ++ ((F.1.take g).flatMap sbG ++ (List.range p).flatMap (fun p => [nI (offG G p + sgG G p)]))))) (N := G.2.1.sum) (fun S' ⟨f, h⟩ => x205 _ _ _ ⟨pk_in g _ (show g < 6 by omega) rfl (by decide), fun _ x e => ?_, fun z => absurd ?_ z⟩) (fun p S' hp ⟨f, h⟩ hx2 => x205 _ _ _ ⟨pk_in g _ (show g < 6 by omega) rfl (by decide), fun z => absurd z ?_, fun _ => ?_⟩) 0 S' (by omega) ⟨f, by simpa using h⟩
      · rw [nI_0] at this; exact this
      · rw [e, nI_1]
        refine hx S' ⟨f, ?_⟩
        rw [fm_take eG]; exact h
      · rw [nI_clamp (by omega), ((mk f).2.1 g G eG).2.2.1]; exact Int32.le_refl _
      · rw [nI_clamp (by omega), ((mk f).2.1 g G eG).2.2.1]; exact nI_ge hp (by omega)
      · have f2 : ((List.range p).flatMap (fun p => [nI (offG G p + sgG G p)])).length ≤ 1 * p := by
          have := fm_len (f := fun p => [nI (offG G p + sgG G p)]) (c := 1) (List.range p) (fun s hs => by simp)
          simpa using this
        have hG := (mk f).2.1 g G eG
        have sl := sgG_le G p
        have key : ∀ o : Nat, o = offG G p → X243 S' (nI g) (nI p) (nI o) (nI (sgG G p)) := by
          intro o eo
          have ol : offG G p ≤ 128 := by unfold offG; split <;> omega
          refine x243 _ _ _ _ _ (sm_flowN (offG G p + sgG G p) (by rw [eo, nI_add, Nat.add_comm]) (by omega) h (by simp only [List.length_append]; omega) (fun S2 f2 h2 x e => ?_))
          rw [e, nI_1]
          refine hx2 S2 ⟨f.trans f2, ?_⟩
          rw [flat_succ]
          rw [Nat.mod_eq_of_lt (by omega)] at h2
          simpa using h2
        have e16 : 16 * nI g + nI p = nI (16 * g + p) := by simp only [lit32, pk_mul, nI_add]
        refine sm_signOf hG kG (by omega) hp ⟨?_, ?_⟩
        · rw [e16]; exact pk_in _ _ (show _ < 96 by omega) rfl (by decide)
        · rw [e16, nI_clamp (by omega), (hG.2.2.2 p hp).2.2.1]
          refine ⟨fun z => key 128 ?_, fun z => key 0 ?_⟩
          · unfold offG; rw [z, if_neg (by decide)]
          · unfold offG; rw [if_pos ((on01 kG p).resolve_left z)]
  -- the sizes of the contours
  have e105 : ∀ (S' : St) (pre : List Int32), B.length + 520 ≤ 1100 → pre.length ≤ 7 → fr (kL 30 4) S S' → mL S' 30 4 (B ++ pre) → pre ++ F.1.flatMap shG ++ F.1.flatMap sbG ++ F.1.flatMap dsG = strL F t → X105 S' 0 := by
    intro S' pre hl hp f hmL e
    have := up_loop2 (X := X105) (fun g S' => fr (kL 30 4) S S' ∧ mL S' 30 4 (B ++ (pre ++ (F.1.take g).flatMap shG))) (N := F.1.length) (fun S' ⟨f, h⟩ => x105 _ _ ⟨fun _ => e195 S' _ hl (by have := lsh F.1.length; simp only [List.length_append]; omega) f h (by rw [tk]; exact e), fun z => absurd (by rw [(mk f).1]; exact Int32.le_refl _) z⟩) (fun g S' hg ⟨f, h⟩ hx => x105 _ _ ⟨fun z => absurd z (by rw [(mk f).1]; exact nI_ge hg (by omega)), fun _ => ?_⟩) 0 S' (by omega) ⟨f, by simpa using hmL⟩
    · rw [nI_0] at this; exact this
    · have eG := List.getElem?_eq_getElem hg
      generalize hGG : F.1[g] = G at eG
      have kG := hk.2.1 g G eG
      have k1 := kG.1.1
      have k2 := kG.1.2.1
      have := lsh g
      have := up_loop2 (X := fun S' v => X115 S' (nI g) v) (fun c S' => fr (kL 30 4) S S' ∧ mL S' 30 4 (B ++ (pre ++ ((F.1.take g).flatMap shG ++ (G.2.1.take c).flatMap (fun s => shortB (nI s)))))) (N := G.2.1.length) (fun S' ⟨f, h⟩ => x115 _ _ _ ⟨pk_in g _ (show g < 6 by omega) rfl (by decide), fun _ x e => ?_, fun z => absurd ?_ z⟩) (fun c S' hcl ⟨f, h⟩ hx2 => x115 _ _ _ ⟨pk_in g _ (show g < 6 by omega) rfl (by decide), fun z => absurd z ?_, fun _ => ?_⟩) 0 S' (by omega) ⟨f, by simpa using h⟩
      · rw [nI_0] at this; exact this
      · rw [e, nI_1]
        refine hx S' ⟨f, ?_⟩
        rw [fm_take eG]
        rw [List.take_of_length_le (Nat.le_refl _)] at h
        exact h
      · rw [nI_clamp (by omega), ((mk f).2.1 g G eG).2.1]; exact Int32.le_refl _
      · rw [nI_clamp (by omega), ((mk f).2.1 g G eG).2.1]; exact nI_ge hcl (by omega)
      · have hG := (mk f).2.1 g G eG
        have es := List.getElem?_eq_getElem hcl
        have lx := expC_len G.2.1 0
        have f2 : ((G.2.1.take c).flatMap (fun s => shortB (nI s))).length ≤ 1 * c := by
          have := fm_len (f := fun s => shortB (nI s)) (c := 1) (G.2.1.take c) (fun s hs => by
            have := mem_le_sum _ _ (List.mem_of_mem_take hs)
            rw [short_small (by omega)]; simp)
          have l2 : (G.2.1.take c).length ≤ c := by simp; omega
          exact Nat.le_trans this (Nat.mul_le_mul_left 1 l2)
        have := up_loop (X := fun _ v => X131 S' (nI g) (nI c) (nI (((expC 0 G.2.1).take v.toNatClampNeg).count c)) v) (fun _ => S') (N := G.2.1.sum) (x131 _ _ _ _ _ ⟨pk_in g _ (show g < 6 by omega) rfl (by decide), fun _ => ?_, fun z => absurd ?_ z⟩) (fun p hp hx3 => x131 _ _ _ _ _ ⟨pk_in g _ (show g < 6 by omega) rfl (by decide), fun z => absurd z ?_, fun _ => ?_⟩) 0 (by omega)
        · simp only [nI_0] at this
          exact this
        · have sl := mem_le_sum _ _ (List.getElem_mem hcl)
          have en : ((expC 0 G.2.1).take (nI G.2.1.sum).toNatClampNeg).count c = G.2.1[c] := by
            rw [nI_clamp (by omega), ← lx, List.take_of_length_le (Nat.le_refl _), expC_count, if_pos (by omega), List.getD_eq_getElem?_getD, Nat.sub_zero, es]; rfl
          rw [en]
          refine sm_flowShort G.2.1[c] rfl h (by omega) (by simp only [List.length_append]; omega) (fun S2 f2 h2 x e => ?_)
          rw [e, nI_1]
          refine hx2 S2 ⟨f.trans f2, ?_⟩
          rw [fm_take es]
          simpa using h2
        · rw [nI_clamp (by omega), hG.2.2.1]; exact Int32.le_refl _
        · rw [nI_clamp (by omega), hG.2.2.1]; exact nI_ge hp (by omega)
        · have e16 : 16 * nI g + nI p = nI (16 * g + p) := by simp only [lit32, pk_mul, nI_add]
          rw [e16, nI_clamp (show 16 * g + p < 2 ^ 31 by omega), (hG.2.2.2 p hp).2.2.2]
          rw [nI_clamp (show p + 1 < 2 ^ 31 by omega)] at hx3
          rw [nI_clamp (show p < 2 ^ 31 by omega)]
          have ep : (expC 0 G.2.1).getD p 0 = (expC 0 G.2.1)[p]'(by omega) := by rw [List.getD_eq_getElem?_getD, List.getElem?_eq_getElem (by omega)]; rfl
          have et : ((expC 0 G.2.1).take (p + 1)).count c = ((expC 0 G.2.1).take p).count c + (if (expC 0 G.2.1).getD p 0 = c then 1 else 0) := by
            rw [List.take_add_one, List.getElem?_eq_getElem (by omega), List.count_append, ep]
            simp only [Option.toList_some, List.count_singleton]
            by_cases q : (expC 0 G.2.1)[p]'(by omega) = c
            · simp [q]
            · simp [q]
          have hv : (expC 0 G.2.1).getD p 0 < 4 := by
            rw [ep]
            have := (expC_lt _ 0 _ (List.getElem_mem (show p < (expC 0 G.2.1).length by omega))).2
            omega
          refine ⟨pk_in _ _ (show _ < 96 by omega) rfl (by decide), And.symm (pk_eq ((expC 0 G.2.1).getD p 0) c (fun q => x167 _ _ _ _ _ (fun x e => ?_)) (fun q => x167 _ _ _ _ _ (fun x e => ?_)) rfl)⟩
          · rw [if_pos q] at et
            rw [e, nI_1, nI_1, ← et]; exact hx3
          · rw [if_neg q] at et
            have et' : ((expC 0 G.2.1).take (p + 1)).count c = ((expC 0 G.2.1).take p).count c := et
            rw [e, nI_1, ← et']; exact hx3
  -- how many contours
  have e79 : ∀ (S' : St) (pre : List Int32), B.length + 520 ≤ 1100 → pre.length ≤ 1 → fr (kL 30 4) S S' → mL S' 30 4 (B ++ pre) → pre ++ F.1.flatMap cnG ++ F.1.flatMap shG ++ F.1.flatMap sbG ++ F.1.flatMap dsG = strL F t → X79 S' 0 := by
    intro S' pre hl hp f hmL e
    have := up_loop2 (X := X79) (fun g S' => fr (kL 30 4) S S' ∧ mL S' 30 4 (B ++ (pre ++ (F.1.take g).flatMap cnG))) (N := F.1.length) (fun S' ⟨f, h⟩ => x79 _ _ ⟨fun _ => e105 S' _ hl (by have := lcn F.1.length; simp only [List.length_append]; omega) f h (by rw [tk]; exact e), fun z => absurd (by rw [(mk f).1]; exact Int32.le_refl _) z⟩) (fun g S' hg ⟨f, h⟩ hx => x79 _ _ ⟨fun z => absurd z (by rw [(mk f).1]; exact nI_ge hg (by omega)), fun _ => ⟨pk_in g _ (show g < 6 by omega) rfl (by decide), ?_⟩⟩) 0 S' (by omega) ⟨f, by simpa using hmL⟩
    · rw [nI_0] at this; exact this
    · have eG := List.getElem?_eq_getElem hg
      generalize hGG : F.1[g] = G at eG
      have kG := hk.2.1 g G eG
      have k1 := kG.1.1
      have := lcn g
      rw [nI_clamp (by omega)]
      refine sm_flowN G.2.1.length ((mk f).2.1 g G eG).2.1 (by omega) h (by simp only [List.length_append]; omega) (fun S2 f2 h2 x e => ?_)
      rw [e, nI_1]
      refine hx S2 ⟨f.trans f2, ?_⟩
      rw [fm_take eG]
      rw [Nat.mod_eq_of_lt (by omega)] at h2
      unfold cnG at h2 ⊢
      simpa using h2
  have e64 : ∀ S', fr (kL 30 4) S S' → (t ≠ 0 → mL S' 30 4 (B ++ strL F t)) → (t = 0 → mL S' 30 4 B) → X64 S' := by
    intro S' f h1 h0
    refine x64 _ (pk_eq t 0 (fun t0 => ?_) (fun t0 => hP S' f (h1 t0)) rfl)
    rw [if_pos t0] at hl
    refine sm_flowN F.1.length (mk f).1 (by omega) (h0 t0) (by omega) (fun S2 f2 h2 => e79 S2 [nI F.1.length] hl (by simp) (f.trans f2) ?_ ?_)
    · rw [Nat.mod_eq_of_lt (by omega)] at h2; exact h2
    · unfold strL; rw [if_pos t0]; unfold S0; simp
  have e35 : ∀ S', fr (kL 30 4) S S' → mL S' 30 4 (B ++ F.2 t) → X35 S' 0 := by
    intro S' f h
    by_cases t1 : t = 1
    · have hr : F.2 t = [] := hk.2.2.2.1 t (by omega)
      rw [hr, List.append_nil] at h
      rw [if_neg (by omega)] at hl
      have := up_loop2 (X := X35) (fun i S' => fr (kL 30 4) S S' ∧ mL S' 30 4 (B ++ (F.1.take i).flatMap adG)) (N := F.1.length) (fun S' ⟨f, h⟩ => x35 _ _ ⟨fun _ => ?_, fun z => absurd (by rw [(mk f).1]; exact Int32.le_refl _) z⟩) (fun i S' hi ⟨f, h⟩ hx => x35 _ _ ⟨fun z => absurd z (by rw [(mk f).1]; exact nI_ge hi (by omega)), fun _ => ⟨fun z => absurd (by rw [t1]; rfl) z, fun _ => ⟨pk_in i _ (show i < 6 by omega) rfl (by decide), ?_⟩⟩⟩) 0 S' (by omega) ⟨f, by simpa using h⟩
      · rw [nI_0] at this; exact this
      · refine e64 S' f (fun _ => ?_) (fun z => by omega)
        rw [tk] at h
        unfold strL; rw [if_neg (by omega), if_pos t1]; exact h
      · have eG := List.getElem?_eq_getElem hi
        generalize hGG : F.1[i] = G at eG
        obtain ⟨a, ha, ea⟩ := (hk.2.1 i G eG).2.2.2.2.1
        have := lad i
        rw [nI_clamp (by omega)]
        refine sm_flowShort a (by rw [((mk f).2.1 i G eG).1, ea]) h ha (by simp only [List.length_append]; omega) (fun S2 f2 h2 x e => ?_)
        rw [e, nI_1]
        refine hx S2 ⟨f.trans f2, ?_⟩
        rw [fm_take eG]
        rw [((mk f).2.1 i G eG).1] at h2
        unfold adG at h2 ⊢
        simpa using h2
    · have : X64 S' := e64 S' f (fun t0 => by unfold strL; rw [if_neg t0, if_neg t1]; exact h) (fun t0 => by rw [hk.2.2.2.1 t (by omega), List.append_nil] at h; exact h)
      exact x35 _ _ ⟨fun _ => this, fun _ => ⟨fun _ => this, fun z => absurd ((nI_eq (b := 1) (by omega) (by omega)).mp z) t1⟩⟩
  have := up_loop2 (X := X2) (fun i S' => fr (kL 30 4) S S' ∧ mL S' 30 4 (B ++ (F.2 t).take i)) (N := (F.2 t).length) (fun S' ⟨f, h⟩ => x2 _ _ ⟨pk_in t _ (show t < 7 from ht) rfl (by decide), ?_⟩) (fun i S' hi ⟨f, h⟩ hx => x2 _ _ ⟨pk_in t _ (show t < 7 from ht) rfl (by decide), ?_⟩) 0 S (by omega) ⟨fr.refl S, by simpa using h⟩
  · rw [nI_0] at this; exact this
  · rw [nI_clamp (by omega), ((mk f).2.2 t ht).1]
    rw [List.take_of_length_le (Nat.le_refl _)] at h
    exact ⟨fun _ => e35 S' f h, fun z => absurd (Int32.le_refl _) z⟩
  · rw [nI_clamp (by omega), ((mk f).2.2 t ht).1]
    have e20 : 20 * nI t + nI i = nI (20 * t + i) := by simp only [lit32, pk_mul, nI_add]
    refine ⟨fun z => absurd z (nI_ge hi (by omega)), fun _ => ?_⟩
    rw [e20, nI_clamp (by omega), ((mk f).2.2 t ht).2 i hi]
    refine ⟨pk_in _ _ (show _ < 140 by omega) rfl (by decide), ?_⟩
    have hl30 : B.length + 30 ≤ 1100 := by split at hl <;> omega
    refine sm_flow h (by simp; omega) (fun S2 f2 h2 x28 e28 => ?_)
    rw [e28, nI_1]
    refine hx S2 ⟨f.trans f2, ?_⟩
    have hb : (F.2 t).getD i 0 &&& 255 = (F.2 t)[i] := by
      rw [List.getD_eq_getElem?_getD, List.getElem?_eq_getElem hi]
      exact and255 ((hk.2.2.2.2 t ht).2 _ (List.getElem_mem hi))
    rw [hb] at h2
    rw [List.take_add_one, List.getElem?_eq_getElem hi]
    simpa using h2
/-! the reference's addLong -/
theorem longB_nI {n : Nat} (h : n < 16384) : longB (nI n) = if 128 ≤ n then [nI (128 + n / 128), nI (n % 128)] else [nI n] := by
  unfold longB
  by_cases h1 : 128 ≤ n
  · rw [if_pos (show (128 : Int32) ≤ nI n from nI_le h1 (by omega)), if_pos h1, md128 (by omega), dv128 (by omega)]
    simp only [lit32, nI_add]
  · rw [if_neg (show ¬ (128 : Int32) ≤ nI n from nI_ge (b := 128) (by omega) (by omega)), if_neg h1, md128 (by omega), Nat.mod_eq_of_lt (by omega)]
theorem longB_len {n : Nat} (h : n < 16384) : (longB (nI n)).length ≤ 2 := by
  rw [longB_nI h]
  split <;> simp
theorem longB_byt {n : Nat} (h : n < 16384) : ∀ b ∈ longB (nI n), byt b := by
  rw [longB_nI h]
  intro b hb
  split at hb
  · simp at hb
    rcases hb with rfl | rfl <;> exact byt_nI (by omega)
  · simp at hb; rw [hb]; exact byt_nI (by omega)
theorem sm_addN {S : St} {B : List Int32} {x : Int32} (n : Nat) {P : St → Prop} (hx : x = nI n) (hn : n < 256) (h : mL S 29 3 B) (hl : B.length < 1500) (hP : ∀ S2, fr (kL 29 3) S S2 → mL S2 29 3 (B ++ [nI n]) → P S2) : wp_X11_add S x P := by
  refine sm_add h hl (fun S2 f2 h2 => hP S2 f2 ?_)
  rw [hx, and255 (byt_nI hn)] at h2
  exact h2
theorem sm_addLong {S : St} {B : List Int32} {x : Int32} (n : Nat) {P : St → Prop} (hx : x = nI n) (hn : n < 16384) (h : mL S 29 3 B) (hl : B.length + 2 ≤ 1500) (hP : ∀ S2, fr (kL 29 3) S S2 → mL S2 29 3 (B ++ longB (nI n)) → P S2) : wp_X11_addLong S x P := by
  subst hx
  rw [longB_nI hn] at hP
  unfold wp_X11_addLong wp_X11_addLong_20 wp_X11_addLong_43
  refine pk_le n 16383 (fun _ => pk_le n 127 (fun h1 => ?_) (fun h1 => ?_) rfl) (fun z => absurd z (by omega)) rfl
  · rw [if_neg (by omega)] at hP
    rw [md128 (by omega), Nat.mod_eq_of_lt (by omega)]
    exact sm_addN n rfl (by omega) h (by omega) hP
  · rw [if_pos (by omega)] at hP
    rw [md128 (n := n) (by omega), dv128 (n := n) (by omega), md128 (n := n / 128) (by omega), Nat.mod_eq_of_lt (show n / 128 < 128 by omega)]
    refine sm_addN (128 + n / 128) (by simp only [lit32, nI_add]) (by omega) h (by omega) (fun S1 f1 h1 => ?_)
    refine sm_addN (n % 128) rfl (by omega) h1 (by simp; omega) (fun S2 f2 h2 => hP S2 (f1.trans f2) ?_)
    simpa using h2
