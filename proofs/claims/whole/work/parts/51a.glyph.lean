/-! the simple calls: glyph, contour, point -/
theorem F_last {α : Type} {l : List α} (h : l ≠ []) : ∃ a b, l = a ++ [b] := by
  rcases List.eq_nil_or_concat l with h0 | ⟨a, b, h0⟩
  · exact absurd h0 h
  · exact ⟨a, b, by simpa using h0⟩
theorem F_get {F : Fo} {gs : List Gl} {G : Gl} (e : F.1 = gs ++ [G]) : F.1[gs.length]? = some G := by rw [e]; simp
theorem openF_iff {F : Fo} {gs : List Gl} {G : Gl} (e : F.1 = gs ++ [G]) : openF F ↔ openG G := by
  unfold openF; rw [e]; simp
theorem openF_nil {F : Fo} (e : F.1 = []) : ¬ openF F := by
  unfold openF; rw [e]; simp
theorem sp_hecG {S : St} {q : Nat} {G : Gl} {P : Int32 → St → Prop} (hc : cG S q G) (hk : okG G) (h1 : openG G → P 1 S) (h0 : ¬ openG G → P 0 S) : wp_X4_hasEmptyContour S q P := by
  have hl : rLen S (4 * q) = nI G.2.1.length := by unfold rLen; rw [hc.2.1, List.length_map]
  have hk1 := hk.1.1
  have hk2 := hk.1.2.1
  unfold wp_X4_hasEmptyContour wp_X4_hasEmptyContour_24 wp_X4_hasEmptyContour_25
  refine pk_le G.2.1.length 0 (fun h => ⟨Or.inl rfl, h0 ?_⟩) (fun h => ?_) hl
  · have e0 : G.2.1 = [] := List.eq_nil_of_length_eq_zero (by omega)
    unfold openG; rw [e0]; simp
  · obtain ⟨a, s, e⟩ := F_last (l := G.2.1) (fun z => by rw [z] at h; simp at h)
    have hr : rLatest S (4 * q) = nI s := rLatest_app (a := a.map nI) (by rw [hc.2.1, e]; simp) (by have := congrArg List.length e; simp at this ⊢; omega)
    have hs : s ≤ 16 := by rw [e] at hk2; simp at hk2; omega
    have ho : openG G ↔ s = 0 := by unfold openG; rw [e]; simp
    refine ⟨fun q => ⟨Or.inl rfl, h0 (fun z => q ?_)⟩, fun q => ⟨Or.inr rfl, h1 (ho.mpr ?_)⟩⟩
    · rw [hr, ho.mp z]; rfl
    · rw [hr] at q
      exact (nI_eq (by omega) (by omega)).mp (q.trans nI_0.symm)
theorem sp_hec {S : St} {j : Nat} {F : Fo} {P : Int32 → St → Prop} (hc : cF S j F) (hk : okF F) (h1 : openF F → P 1 S) (h0 : ¬ openF F → P 0 S) : wp_X3_hasEmptyContour S j P := by
  have h6 := hk.1
  unfold wp_X3_hasEmptyContour wp_X3_hasEmptyContour_21 wp_X3_hasEmptyContour_22
  refine pk_le F.1.length 0 (fun h => ⟨Or.inl rfl, h0 (openF_nil (List.eq_nil_of_length_eq_zero (by omega)))⟩) (fun h => ?_) hc.1
  obtain ⟨gs, G, e⟩ := F_last (l := F.1) (fun z => by rw [z] at h; simp at h)
  have el : F.1.length = gs.length + 1 := by rw [e]; simp
  rw [lgId_nI (n := gs.length) (by rw [hc.1, el]) (by omega)]
  refine sp_hecG (hc.2.1 _ G (F_get e)) (hk.2.1 _ G (F_get e)) (fun ho => ⟨fun q => absurd q (by decide), fun _ => ⟨Or.inr rfl, h1 ((openF_iff e).mpr ho)⟩⟩) (fun ho => ⟨fun _ => ⟨Or.inl rfl, h0 (fun z => ho ((openF_iff e).mp z))⟩, fun q => absurd rfl q⟩)
theorem sp_refuse {S : St} {A : Ab} {P : St → Prop} {E : String → St → Prop} (hk : okA A) (hc : CA S A) (h0 : ¬ openF A.1 → P S) (h1 : openF A.1 → E nx_ise S) : wp_X10_refuseEmptyContour S P E := by
  unfold wp_X10_refuseEmptyContour
  exact sp_hec hc.2.2.1 hk.1 (fun h => ⟨fun q => absurd q (by decide), fun _ => h1 h⟩) (fun h => ⟨fun _ => h0 h, fun q => absurd rfl q⟩)
theorem openG_exp {G : Gl} (hk : okG G) {a : List Nat} {s : Nat} (e : G.2.1 = a ++ [s]) : openG G ↔ (G.2.1.sum = 0 ∨ (expC 0 G.2.1).getD (G.2.1.sum - 1) 0 < G.2.1.length - 1) := by
  have ho : openG G ↔ s = 0 := by unfold openG; rw [e]; simp
  rw [ho]
  have hl := expC_len G.2.1 0
  constructor
  · intro h
    subst h
    by_cases h0 : G.2.1.sum = 0
    · exact Or.inl h0
    · right
      have hx : expC 0 G.2.1 = expC 0 a := by rw [e, expC_app]; simp
      have hlt : G.2.1.sum - 1 < (expC 0 a).length := by rw [← hx, hl]; omega
      rw [hx, List.getD_eq_getElem?_getD, List.getElem?_eq_getElem hlt]
      have := (expC_lt a 0 _ (List.getElem_mem hlt)).2
      have h2 : G.2.1.length = a.length + 1 := by rw [e]; simp
      show (expC 0 a)[G.2.1.sum - 1] < _
      omega
  · intro h
    rcases Nat.eq_zero_or_pos s with h0 | h0
    · exact h0
    · exfalso
      have hs : G.2.1.sum = a.sum + s := by rw [e]; simp
      rcases h with h | h
      · omega
      · rw [e, expC_app] at h
        have h2 : (a ++ [s]).sum = a.sum + s := by simp
        have h3 := expC_len a 0
        rw [List.getD_eq_getElem?_getD, List.getElem?_append_right (by omega), List.getElem?_replicate, if_pos (by omega)] at h
        simp at h
/-- the reference's open() -/
theorem sm_open {S : St} {F : Fo} {P : Int32 → St → Prop} (hm : mF S F) (hk : okF F) (h1 : openF F → P 1 S) (h0 : ¬ openF F → P 0 S) : wp_X11_open S P := by
  have h6 := hk.1
  unfold wp_X11_open wp_X11_open_67 wp_X11_open_63 wp_X11_open_68
  refine And.symm (pk_eq F.1.length 0 (fun h => h0 (openF_nil (List.eq_nil_of_length_eq_zero h))) (fun h x7 e7 => ?_) hm.1)
  obtain ⟨gs, G, e⟩ := F_last (l := F.1) (fun z => by rw [z] at h; simp at h)
  have el : F.1.length = gs.length + 1 := by rw [e]; simp
  have e7' : x7 = nI gs.length := by rw [e7, hm.1, el, nI_pred]
  have hG := hm.2.1 _ G (F_get e)
  have kG := hk.2.1 _ G (F_get e)
  have k1 := kG.1.1
  have k2 := kG.1.2.1
  have hcl : x7.toNatClampNeg = gs.length := pk_cl _ e7'
  have h11 : vp_in x7 (gw_ml 1) := pk_in gs.length _ (by show gs.length < 6; omega) e7' (by decide)
  have h12 : vp_in x7 (gw_ml 2) := pk_in gs.length _ (by show gs.length < 6; omega) e7' (by decide)
  rw [hcl]
  refine ⟨h11, pk_le G.2.1.length 0 (fun h => ⟨Or.inl rfl, h0 (fun z => ?_)⟩) (fun h => ⟨h12, ?_⟩) hG.2.1⟩
  · have := (openF_iff e).mp z
    unfold openG at this
    have e0 : G.2.1 = [] := List.eq_nil_of_length_eq_zero (by omega)
    rw [e0] at this
    simp at this
  · obtain ⟨a, s, es⟩ := F_last (l := G.2.1) (fun z => by rw [z] at h; simp at h)
    have ho := openG_exp kG es
    refine pk_eq G.2.1.sum 0 (fun h => ⟨Or.inr rfl, h1 ((openF_iff e).mpr (ho.mpr (Or.inl h)))⟩) (fun h => ⟨h12, ?_, h11, ?_⟩) hG.2.2.1
    · refine pk_in (16 * gs.length + (G.2.1.sum - 1)) _ (by show _ < 96; omega) ?_ (by decide)
      rw [hG.2.2.1, e7', show G.2.1.sum = G.2.1.sum - 1 + 1 by omega]
      simp only [lit32, pk_mul, nI_add]
      rw [← Nat.add_assoc]
      exact nI_pred _
    · have hx : (((16 * x7) + (S.2.1 12 gs.length)) - 1).toNatClampNeg = 16 * gs.length + (G.2.1.sum - 1) := by
        refine pk_cl _ ?_
        rw [hG.2.2.1, e7', show G.2.1.sum = G.2.1.sum - 1 + 1 by omega]
        simp only [lit32, pk_mul, nI_add]
        rw [← Nat.add_assoc]
        exact nI_pred _
      rw [hx, (hG.2.2.2 (G.2.1.sum - 1) (by omega)).2.2.2, hG.2.1]
      have hv : (expC 0 G.2.1).getD (G.2.1.sum - 1) 0 < 4 := by
        have hl := expC_len G.2.1 0
        have hlt : G.2.1.sum - 1 < (expC 0 G.2.1).length := by omega
        rw [List.getD_eq_getElem?_getD, List.getElem?_eq_getElem hlt]
        have := (expC_lt _ 0 _ (List.getElem_mem hlt)).2
        show (expC 0 G.2.1)[G.2.1.sum - 1] < _
        omega
      refine pk_le (G.2.1.length - 1) ((expC 0 G.2.1).getD (G.2.1.sum - 1) 0) (fun h2 => ⟨Or.inl rfl, h0 (fun z => ?_)⟩) (fun h2 => ⟨Or.inr rfl, h1 ((openF_iff e).mpr (ho.mpr (Or.inr h2)))⟩) (by rw [show G.2.1.length = G.2.1.length - 1 + 1 by omega]; exact nI_pred _)
      rcases ho.mp ((openF_iff e).mp z) with z | z <;> omega
/-! glyph -/
theorem okF_add {F : Fo} {a : Int32} (hk : okF F) (hn : F.1.length < 6) (ho : ¬ openF F) (ha : ∃ n, n ≤ 2000 ∧ a = nI n) : okF (F.1 ++ [(a, [], [], [], [])], F.2) := by
  obtain ⟨h1, h2, h3, h4, h5⟩ := hk
  refine ⟨by simp; omega, fun g G e => ?_, fun g G e hg => ?_, h4, h5⟩
  · simp only [List.getElem?_append] at e
    split at e
    · exact h2 g G e
    · rename_i h
      have : g - F.1.length = 0 := by
        rcases Nat.eq_zero_or_pos (g - F.1.length) with z | z
        · exact z
        · rw [List.getElem?_eq_none (by simp; omega)] at e; exact absurd e (by simp)
      rw [this] at e
      simp at e
      subst e
      exact ⟨⟨by simp, by simp, rfl, rfl, rfl⟩, by simp, by simp, by simp, ha, by simp⟩
  · simp only [List.length_append, List.length_singleton] at hg
    have hg2 : g < F.1.length := by omega
    simp only [List.getElem?_append_left hg2] at e
    by_cases hl : g + 1 < F.1.length
    · exact h3 g G e hl
    · refine closed_of (h2 g G e) (fun z => ho ⟨G, ?_, z⟩)
      rw [List.getLast?_eq_getElem?, show F.1.length - 1 = g by omega]
      exact e
theorem cl_glyph {S : St} {A : Ab} {a : Int32} {P : Int32 → St → Prop} (hok : okA A) (hc : CA S A) (h1 : (a < 0 ∨ ¬ a ≤ 2000) → P 1 S) (h2 : ¬ a < 0 → a ≤ 2000 → (A.1.1.length = 6 ∨ openF A.1) → P 2 S)
    (h0 : ¬ a < 0 → a ≤ 2000 → A.1.1.length < 6 → ¬ openF A.1 → ∀ S1, CA S1 ((A.1.1 ++ [(a, [], [], [], [])], A.1.2), A.2) → cFr S S1 → P 0 (stO S1 (nI A.1.1.length).toInt64)) : wp_L_glyph S a P := by
  have h6 := hok.1.1
  obtain ⟨c1, c2, c3, c4, c5⟩ := id hc
  unfold wp_L_glyph wp_X10_glyph wp_X10_glyph_11
  refine ⟨fun q => Or.inl ⟨rfl, h1 (Or.inl q)⟩, fun q => ⟨fun q2 => ?_, fun q2 => Or.inl ⟨rfl, h1 (Or.inr q2)⟩⟩⟩
  refine pk_lt A.1.1.length 6 (fun hl => ?_) (fun hl => Or.inr ⟨rfl, h2 q q2 (Or.inl (by omega))⟩) c3.1
  refine sp_refuse hok hc (fun ho => ?_) (fun ho => Or.inr ⟨rfl, h2 q q2 (Or.inr ho)⟩)
  intro r14 S13 e14 e13
  have hj := gw_fx_le S
  generalize hjj : gw_fx S = j at *
  have e6 : (stM S 1 j (S.2.1 1 j + 1)) = stM S 1 j (nI (A.1.1.length + 1)) := by rw [c3.1, nI_1]
  have el1 : lgId (stM S 1 j (nI (A.1.1.length + 1))) j = 6 * j + A.1.1.length := lgId_nI (by rw [stM_self]) (by omega)
  have hn6 : ¬ (6 : Int32) ≤ S.2.1 1 j := by rw [c3.1]; exact nI_ge (b := 6) hl (by omega)
  have eS : S13 = fs_X4_begin (stM S 1 j (nI (A.1.1.length + 1))) (6 * j + A.1.1.length) a := by
    rw [e13]
    unfold fs_X3_addGlyph
    rw [if_neg hn6, e6, el1]
    rfl
  have k1 : ∀ k p, S13.2.1 k p = if k = 0 ∧ p = 6 * j + A.1.1.length then a else if k = 1 ∧ p = j then nI (A.1.1.length + 1) else S.2.1 k p := by
    intro k p
    rw [eS]
    unfold fs_X4_begin rMake
    simp only [stX_21, stM_get] <;> (by_cases z : k = 0 ∧ p = 6 * j + A.1.1.length <;> simp [z])
  have k2 : ∀ r, S13.1 r = if r = 4 * (6 * j + A.1.1.length) ∨ r = 4 * (6 * j + A.1.1.length) + 1 ∨ r = 4 * (6 * j + A.1.1.length) + 2 ∨ r = 4 * (6 * j + A.1.1.length) + 3 then [] else S.1 r := by
    intro r
    rw [eS]
    unfold fs_X4_begin rMake
    simp only [stX_get, stM_1]
    by_cases z0 : r = 4 * (6 * j + A.1.1.length) <;> by_cases z1 : r = 4 * (6 * j + A.1.1.length) + 1 <;> by_cases z2 : r = 4 * (6 * j + A.1.1.length) + 2 <;> by_cases z3 : r = 4 * (6 * j + A.1.1.length) + 3 <;> simp [z0, z1, z2, z3] <;> omega
  have k3 : r14 = nI A.1.1.length := by
    rw [e14]
    unfold fv_X3_addGlyph
    rw [if_neg hn6, e6, el1]
    show (fs_X4_begin (stM S 1 j (nI (A.1.1.length + 1))) (6 * j + A.1.1.length) a).2.1 1 j - 1 = _
    rw [← eS, k1, if_neg (by omega), if_pos ⟨rfl, rfl⟩, nI_pred]
  rw [k3]
  have fx : gw_fx S13 = j := (fx_of (by rw [k1, if_neg (by omega), if_neg (by omega)])).trans hjj
  have sx : gw_sx S13 = gw_sx S := sx_of (by rw [k1, if_neg (by omega), if_neg (by omega)])
  refine h0 q q2 hl ho S13 ⟨fun r hr => ?_, ?_, ?_, ?_, ?_⟩ (fun k p ha hb => by rw [k1, if_neg (by omega), if_neg (by omega)])
  · rw [k2]; split
    · simp
    · exact c1 r hr
  · rw [fx, sx]; exact c2
  · rw [fx]
    refine ⟨?_, fun g G e => ?_, fun t ht1 ht2 => ?_⟩
    · rw [k1, if_neg (by omega), if_pos ⟨rfl, rfl⟩]; simp
    · simp only [List.getElem?_append] at e
      split at e
      · rename_i hg
        obtain ⟨g1, g2, g3, g4, g5⟩ := c3.2.1 g G e
        refine ⟨by rw [k1, if_neg (by omega), if_neg (by omega)]; exact g1, by rw [k2, if_neg (by omega)]; exact g2, by rw [k2, if_neg (by omega)]; exact g3, by rw [k2, if_neg (by omega)]; exact g4, by rw [k2, if_neg (by omega)]; exact g5⟩
      · rename_i hg
        have : g = A.1.1.length := by
          rcases Nat.eq_zero_or_pos (g - A.1.1.length) with z | z
          · omega
          · rw [List.getElem?_eq_none (by simp; omega)] at e; exact absurd e (by simp)
        subst this
        simp at e
        subst e
        refine ⟨by rw [k1, if_pos ⟨rfl, rfl⟩], by rw [k2, if_pos (by omega)]; rfl, by rw [k2, if_pos (by omega)], by rw [k2, if_pos (by omega)], by rw [k2, if_pos (by omega)]⟩
    · rw [k2, if_neg (by omega)]
      exact c3.2.2 t ht1 ht2
  · rw [k2, if_neg (by omega)]; exact c4
  · rw [k1, if_neg (by omega), if_neg (by omega)]; exact c5
