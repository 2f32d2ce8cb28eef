/-! the class reads a packed font -/
def rdG (L : List Int32) (hs : Hs) : Option (List Gl) := if inH hs 0 = 0 then some [] else match ol L (slH hs 0) with | none => none | some gs => adA L (slH hs 0) (slH hs 0 + slH hs 1) gs
def rdT (L : List Int32) (hs : Hs) (gs : List Gl) : Fo := (gs, fun t => if 2 ≤ t ∧ t < 7 then barL L hs t else [])
def rd (B : List Int32) : Nat × Fo := match hd B with | none => (1, F0e) | some (p, z, hs) => match ex B p z with | none => (2, F0e) | some L => match rdG L hs with | none => (3, F0e) | some gs => if (T0 gs).length = plH hs 0 ∧ (T1 gs gs.length).length = plH hs 1 then (0, rdT L hs gs) else (4, F0e)
theorem ol_b {L : List Int32} {e : Nat} {gs : List Gl} (hb : ∀ b ∈ L, byt b) (h : ol L e = some gs) : 1 ≤ gs.length ∧ gs.length ≤ 6 ∧ ∀ G ∈ gs, okG G ∧ closed G := by
  unfold ol at h
  cases h1 : olH L e with
  | none => rw [h1] at h; simp at h
  | some x =>
    obtain ⟨cs, p⟩ := x
    rw [h1] at h
    simp only at h
    have ob := olH_b h1
    cases h2 : szL L e cs p [] with
    | none => rw [h2] at h; simp at h
    | some y =>
      obtain ⟨s, p'⟩ := y
      rw [h2] at h
      simp only at h
      obtain ⟨b1, b2, b3⟩ := szL_b hb _ _ _ _ _ ob.1 h2 ob.2.2.2
      simp at b2
      split at h
      · rename_i q
        cases h3 : gls L e s p' (p' + tot s) [] with
        | none => rw [h3] at h; simp at h
        | some w =>
          obtain ⟨g2, pd⟩ := w
          rw [h3] at h
          simp only at h
          obtain ⟨c1, c2⟩ := gls_b _ _ _ _ _ _ q h3 (b3 (by simp))
          simp at c1
          split at h
          · simp at h
            rw [← h]
            exact ⟨by omega, by omega, c2 (by simp)⟩
          · simp at h
      · simp at h
theorem adA_b {L : List Int32} {b e : Nat} {gs g2 : List Gl} (hb : ∀ b ∈ L, byt b) (hbe : b ≤ e) (h : adA L b e gs = some g2) : g2.length = gs.length ∧ ((∀ G ∈ gs, okG G ∧ closed G) → ∀ G ∈ g2, okG G ∧ closed G) := by
  unfold adA at h
  cases h1 : ads L e gs b [] with
  | none => rw [h1] at h; simp at h
  | some x =>
    obtain ⟨g3, p⟩ := x
    rw [h1] at h
    simp only at h
    obtain ⟨b1, b2, b3⟩ := ads_b hb _ _ _ _ _ hbe h1
    simp at b2
    split at h
    · simp at h; rw [← h]; exact ⟨b2, b3 (by simp)⟩
    · simp at h
theorem rdG_b {L : List Int32} {hs : Hs} {gs : List Gl} (hb : ∀ b ∈ L, byt b) (h : rdG L hs = some gs) : gs.length ≤ 6 ∧ (∀ G ∈ gs, okG G ∧ closed G) ∧ (inH hs 0 = 0 → gs = []) ∧ (¬ inH hs 0 = 0 → 1 ≤ gs.length) := by
  unfold rdG at h
  split at h
  · rename_i q
    simp at h; subst h; exact ⟨by simp, by simp, fun _ => rfl, fun z => absurd q z⟩
  · rename_i q
    cases h1 : ol L (slH hs 0) with
    | none => rw [h1] at h; simp at h
    | some g1 =>
      rw [h1] at h
      simp only at h
      obtain ⟨a1, a2, a3⟩ := ol_b hb h1
      obtain ⟨b1, b2⟩ := adA_b hb (by omega) h
      exact ⟨by omega, b2 a3, fun z => absurd z q, fun _ => by omega⟩
theorem rdT_ok {L : List Int32} {hs : Hs} {gs : List Gl} (hb : ∀ b ∈ L, byt b) (hk : okH hs) (h : rdG L hs = some gs) : okF (rdT L hs gs) ∧ ∀ (g : Nat) (G : Gl), (rdT L hs gs).1[g]? = some G → closed G := by
  obtain ⟨h1, h2, h3, _⟩ := rdG_b hb h
  have mem : ∀ (g : Nat) (G : Gl), (rdT L hs gs).1[g]? = some G → okG G ∧ closed G := fun g G e => h2 G (List.mem_iff_getElem?.mpr ⟨g, e⟩)
  refine ⟨⟨h1, fun g G e => (mem g G e).1, fun g G e _ => (mem g G e).2, fun t ht => ?_, fun t ht => ?_⟩, fun g G e => (mem g G e).2⟩
  · show (if 2 ≤ t ∧ t < 7 then barL L hs t else []) = []
    rw [if_neg (by omega)]
  · show (if 2 ≤ t ∧ t < 7 then barL L hs t else []).length ≤ 20 ∧ ∀ b ∈ (if 2 ≤ t ∧ t < 7 then barL L hs t else []), byt b
    by_cases z : 2 ≤ t ∧ t < 7
    · rw [if_pos z, barL_len]
      refine ⟨hk.1 t z.1, fun b hb' => ?_⟩
      simp only [barL, List.mem_map] at hb'
      obtain ⟨k, _, rfl⟩ := hb'
      exact byt_getD hb _
    · rw [if_neg z]; simp
def xF (j : Nat) (S S2 : St) : Prop := (∀ r, r < 63 → ¬ (24 * j ≤ r ∧ r < 24 * j + 24) → ¬ (48 + 7 * j ≤ r ∧ r < 48 + 7 * j + 7) → S2.1 r = S.1 r) ∧ (∀ k p, k < 1000 → k ≠ 2 → ¬ (k = 0 ∧ 6 * j ≤ p ∧ p < 6 * j + 6) → ¬ (k = 1 ∧ p = j) → S2.2.1 k p = S.2.1 k p) ∧ (rowsLe S → rowsLe S2)
theorem xF.trans {j : Nat} {S S1 S2 : St} (h : xF j S S1) (h2 : xF j S1 S2) : xF j S S2 := ⟨fun r a b c => (h2.1 r a b c).trans (h.1 r a b c), fun k p a b c d => (h2.2.1 k p a b c d).trans (h.2.1 k p a b c d), fun z => h2.2.2 (h.2.2 z)⟩
theorem gF.xF {j : Nat} {S S2 : St} (h : gF j S S2) : xF j S S2 := ⟨fun r _ a _ => h.1 r a, h.2.1, h.2.2⟩
theorem hF.xF {j c : Nat} {S S2 : St} (h : hF c S S2) : xF j S S2 := ⟨fun r a _ _ => h.2.1 r (by omega) (by omega), fun k p a b _ _ => h.2.2.1 k p (by omega) b, fun z r hr => by
  by_cases h6 : r = 66
  · rw [h6]; exact h.2.2.2.1 (z 66 (by omega))
  · by_cases h7 : r = 67
    · rw [h7]; exact h.2.2.2.2 (z 67 (by omega))
    · rw [h.2.1 r h6 h7]; exact z r hr⟩
theorem eF.xF {j c : Nat} {S S2 : St} (h : eF c S S2) : xF j S S2 := ⟨fun r a _ _ => h.2.1 r (by omega), fun k p a _ _ _ => h.2.2.1 k p (by omega), fun z r hr => by
  by_cases h6 : r = 65
  · rw [h6]; exact h.2.2.2 (z 65 (by omega))
  · rw [h.2.1 r h6]; exact z r hr⟩
theorem sp_readPacked {S : St} {T0' : List (Nat × Nat × Nat)} {j : Nat} {B : List Int32} {P : Int32 → St → Prop} (hle : rowsLe S) (hj : j ≤ 1) (hr : S.1 62 = B) (hB : okB B) (hP : ∀ S2, xF j S S2 → ((rd B).1 = 0 → cF S2 j (rd B).2) → P (nI (rd B).1) S2) : wp_X5_readPacked T0' S 62 j P := by
  have hb := hB.2
  have hl1 := hB.1
  unfold wp_X5_readPacked wp_X5_readPacked_72 wp_X5_readPacked_74 wp_X5_readPacked_125 wp_X5_readPacked_126 wp_X5_readPacked_138
  refine sp_makeEmpty (fun S40 em n4 hn4 S42 e42 S43 e43 => ?_)
  have x40 : xF j S S40 := by
    refine ⟨fun r a _ c => by rw [em.2, if_neg c], fun k p a b c d => ?_, emp_le em⟩
    rw [em.1]
    show (stM S 1 j 0).2.1 k p = _
    rw [stM_get, if_neg d]
  have g40 : cGs S40 j [] := by
    refine ⟨?_, fun g G e => by simp at e⟩
    rw [em.1]
    show (stM S 1 j 0).2.1 1 j = _
    rw [stM_self]; rfl
  have t40 : ∀ t, t < 7 → S40.1 (48 + 7 * j + t) = [] := fun t ht => by rw [em.2, if_pos (by omega)]
  have r40 : S40.1 62 = B := by rw [x40.1 62 (by omega) (by omega) (by omega)]; exact hr
  have e43' : S43 = cuIni (stT S40 (S40.2.2.1 ++ [(n4, 5, 0)])) n4 62 (nI 0) (nI B.length) := by
    rw [e43, e42]
    have : rLen (stT S40 (S40.2.2.1 ++ [(n4, 5, 0)])) 62 = nI B.length := by unfold rLen; show nI (S40.1 62).length = _; rw [r40]
    rw [this]; rfl
  have u43 : cu S43 n4 B.length 0 := by rw [e43']; exact cu_ini
  have x43 : xF j S S43 := x40.trans (by rw [e43']; exact (gF_cui (j := j)).xF)
  have g43 : cGs S43 j [] := by rw [e43']; exact g40.cui
  have s43 : S43.1 = S40.1 := by rw [e43']; rfl
  have fin : ∀ (s : Nat) (F : Fo) S2, rd B = (s, F) → xF j S S2 → (s = 0 → cF S2 j F) → P (nI s) (stT S2 T0') := by
    intro s F S2 e x c
    have := hP (stT S2 T0') (x.trans (gF_T (j := j)).xF) (by rw [e]; exact fun z => c z)
    rw [e] at this; exact this
  refine sp_readHead u43 (by rw [s43]; exact r40) hB (fun p z hs S44 hh f44 u44 g66 g67 k20 k21 => ⟨fun _ n29 hn29 S47 e47 S48 e48 => ?_, fun q => absurd q (by decide)⟩) (fun S44 hh f44 => ⟨fun q => absurd rfl q, fun _ => fin 1 F0e S44 (by unfold rd; rw [hh]) (x43.trans f44.xF) (fun q => by omega)⟩)
  obtain ⟨d1, d2, d3, d4, d5⟩ := hd_ok hb hh
  have r44 : S44.1 62 = B := by rw [f44.2.1 62 (by omega) (by omega), s43]; exact r40
  have pl : fv_X2_place S47 n4 62 = nI p := by rw [e47]; exact u44.2.1
  rw [pl] at e48
  have s48 : S48.1 = S44.1 := by rw [e48, e47]; rfl
  have kk48 : ∀ k q, k ≠ 1000 + n29 → S48.2.1 k q = S44.2.1 k q := fun k q hk => by
    rw [e48, e47]
    unfold brIni cIni
    rw [stM_k hk, stM_k hk]
    show (zeroM _ n29).2.1 k q = _
    unfold zeroM
    rw [stM_k hk, stM_k hk, stM_k hk]; rfl
  have u48 : cu S48 n29 (8 * B.length) (8 * p) := by
    rw [e48]
    unfold brIni
    refine ⟨?_, ?_, ?_⟩
    · rw [stM_p (by omega), stM_self]
      have : rLen (cIni S47 n29 0 62) 62 = nI B.length := by unfold rLen; rw [e47]; show nI (S44.1 62).length = _; rw [r44]
      rw [this, show (8 : Int32) = nI 8 from rfl, pk_mul, Nat.mul_comm]
    · rw [stM_self, show (8 : Int32) = nI 8 from rfl, pk_mul, Nat.mul_comm]
    · rw [stM_p (by omega), stM_p (by omega)]
      show (zeroM _ n29).2.1 _ 2 = 0
      unfold zeroM
      rw [stM_self]
  have x48 : xF j S S48 := (x43.trans f44.xF).trans ((gF_k (j := j) s48 (fun k p h => kk48 k p (by omega))).xF)
  refine sp_expand u48 (by rw [s48]; exact r44) hB d1 (by rw [kk48 2 1 (by omega)]; exact k21) d2 (fun L S49 he f49 g65 => ⟨fun _ => ?_, fun q => absurd q (by decide)⟩) (fun S49 he f49 => ⟨fun q => absurd rfl q, fun _ => fin 2 F0e S49 (by unfold rd; rw [hh]; simp only; rw [he]) (x48.trans f49.xF) (fun q => by omega)⟩)
  have hLb := (ex_ok he d1).2
  have hLl := (ex_ok he d1).1
  have x49 : xF j S S49 := x48.trans f49.xF
  have k20' : S49.2.1 2 0 = nI (inH hs 0) := by rw [f49.2.2.1 2 0 (by omega), kk48 2 0 (by omega)]; exact k20
  have g66' : S49.1 66 = r66 hs := by rw [f49.2.1 66 (by omega), s48]; exact g66
  have g67' : S49.1 67 = r67 hs := by rw [f49.2.1 67 (by omega), s48]; exact g67
  have t49 : ∀ t, t < 7 → S49.1 (48 + 7 * j + t) = [] := fun t ht => by rw [f49.2.1 _ (by omega), s48, f44.2.1 _ (by omega) (by omega), s43]; exact t40 t ht
  have g49 : cGs S49 j [] := by
    refine ⟨?_, fun g G e => by simp at e⟩
    rw [f49.2.2.1 1 j (by omega), kk48 1 j (by omega), f44.2.2.1 1 j (by omega) (by omega)]
    exact g43.1
  have erd : rd B = match rdG L hs with | none => (3, F0e) | some gs => if (T0 gs).length = plH hs 0 ∧ (T1 gs gs.length).length = plH hs 1 then (0, rdT L hs gs) else (4, F0e) := by unfold rd; rw [hh]; simp only; rw [he]
  have o1 : slH hs 0 + slH hs 1 ≤ z := by
    have := offH_le (hs := hs) (t := 2) (by omega)
    have e2 : offH hs 2 = slH hs 0 + slH hs 1 := by simp [offH]
    omega
  -- tables and lengths
  have k74 : ∀ gs S', rdG L hs = some gs → xF j S S' → cGs S' j gs → S'.1 65 = L → S'.1 66 = r66 hs → S'.1 67 = r67 hs → (∀ t, t < 7 → S'.1 (48 + 7 * j + t) = []) → wp_X5_readBareTables S' j (fun S34 => wp_X7_makeTables S34 j (fun S36 => ((¬ (rLen S36 (rwId S36 j 0)) = (rGet S36 66 0) → (((0 : Int32) = 0 → P 4 (stT S36 T0')) ∧ (¬ (0 : Int32) = 0 → P 0 (stT S36 T0')))) ∧ ((rLen S36 (rwId S36 j 0)) = (rGet S36 66 0) → ((¬ (rLen S36 (rwId S36 j 1)) = (rGet S36 66 1) → (((0 : Int32) = 0 → P 4 (stT S36 T0')) ∧ (¬ (0 : Int32) = 0 → P 0 (stT S36 T0')))) ∧ ((rLen S36 (rwId S36 j 1)) = (rGet S36 66 1) → (((1 : Int32) = 0 → P 4 (stT S36 T0')) ∧ (¬ (1 : Int32) = 0 → P 0 (stT S36 T0'))))))))) := by
    intro gs S' hg x g k65 k66 k67 kt
    obtain ⟨ok, hcl⟩ := rdT_ok hLb d4 hg
    obtain ⟨q1, q2, q3, _⟩ := rdG_b hLb hg
    rw [hg] at erd
    simp only at erd
    refine sp_readBare hj k67 k65 d4.1 (by omega) (fun t _ ht => kt t ht) (fun S34 b34 => ?_)
    have l34 : rowsLe S34 := by
      intro r hr
      by_cases hh : 48 + 7 * j + 2 ≤ r ∧ r < 48 + 7 * j + 7
      · obtain ⟨t, rfl⟩ : ∃ t, r = 48 + 7 * j + t := ⟨r - (48 + 7 * j), by omega⟩
        rw [b34.2.2.1 t (by omega) (by omega), barL_len, cap_t hj (by omega) (by omega)]
        exact d4.1 t (by omega)
      · rw [b34.2.1 r hh]; exact x.2.2 hle r hr
    have x34 : xF j S S34 := ⟨fun r a b c => by rw [b34.2.1 r (by omega)]; exact x.1 r a b c, fun k p a b c d => by rw [b34.1]; exact x.2.1 k p a b c d, fun _ => l34⟩
    have c34 : cF S34 j (rdT L hs gs) := by
      refine ⟨by rw [b34.1]; exact g.1, fun gg G e => ?_, fun t t1 t2 => ?_⟩
      · have hgl := (List.getElem?_eq_some_iff.mp e).1
        have hgl' : gg < gs.length := hgl
        exact (g.2 gg G e).of (fun r a b => b34.2.1 r (by omega)) (by rw [b34.1])
      · rw [b34.2.2.1 t t1 t2]
        show _ = if 2 ≤ t ∧ t < 7 then barL L hs t else []
        rw [if_pos ⟨t1, t2⟩]
    have l66 : S34.1 66 = r66 hs := by rw [b34.2.1 66 (by omega)]; exact k66
    have t0l : (T0 gs).length ≤ 516 := T0_le ok
    have t1l : (T1 gs gs.length).length = 4 * gs.length := T1_len _ _
    have p0 := d4.2 0
    have p1 := d4.2 1
    refine sp_makeTables c34 ok hcl hj l34 ?_
    have eT : (rdT L hs gs).1 = gs := rfl
    rw [eT]
    have x36 : xF j S (stX (stX S34 (48 + 7 * j) (T0 gs)) (48 + 7 * j + 1) (T1 gs gs.length)) := ⟨fun r a b c => by rw [stX_ne (by omega), stX_ne (by omega)]; exact x34.1 r a b c, x34.2.1, fun _ => le_stX (le_stX l34 (by rw [cap480 hj]; exact t0l)) (by rw [cap481 hj]; omega)⟩
    have c36 : cF (stX (stX S34 (48 + 7 * j) (T0 gs)) (48 + 7 * j + 1) (T1 gs gs.length)) j (rdT L hs gs) := cF_X (cF_X c34 ok hj (by omega)) ok hj (by omega)
    have e0 : rLen (stX (stX S34 (48 + 7 * j) (T0 gs)) (48 + 7 * j + 1) (T1 gs gs.length)) (rwId (stX (stX S34 (48 + 7 * j) (T0 gs)) (48 + 7 * j + 1) (T1 gs gs.length)) j 0) = nI (T0 gs).length := by
      rw [show rwId (stX (stX S34 (48 + 7 * j) (T0 gs)) (48 + 7 * j + 1) (T1 gs gs.length)) j 0 = 48 + 7 * j from rwId_nI (i := 0) (by omega)]
      unfold rLen; rw [stX_ne (by omega), stX_at]
    have e1 : rLen (stX (stX S34 (48 + 7 * j) (T0 gs)) (48 + 7 * j + 1) (T1 gs gs.length)) (rwId (stX (stX S34 (48 + 7 * j) (T0 gs)) (48 + 7 * j + 1) (T1 gs gs.length)) j 1) = nI (T1 gs gs.length).length := by
      rw [show rwId (stX (stX S34 (48 + 7 * j) (T0 gs)) (48 + 7 * j + 1) (T1 gs gs.length)) j 1 = 48 + 7 * j + 1 from rwId_nI (i := 1) (by omega)]
      unfold rLen; rw [stX_at]
    have y0 : rGet (stX (stX S34 (48 + 7 * j) (T0 gs)) (48 + 7 * j + 1) (T1 gs gs.length)) 66 0 = nI (plH hs 0) := by
      rw [show (0 : Int32) = nI 0 from rfl, rGet_nI (by omega), stX_ne (by omega), stX_ne (by omega), l66, r66_get (by omega)]
    have y1 : rGet (stX (stX S34 (48 + 7 * j) (T0 gs)) (48 + 7 * j + 1) (T1 gs gs.length)) 66 1 = nI (plH hs 1) := by
      rw [show (1 : Int32) = nI 1 from rfl, rGet_nI (by omega), stX_ne (by omega), stX_ne (by omega), l66, r66_get (by omega)]
    rw [e0, e1, y0, y1]
    have no : ¬ ((T0 gs).length = plH hs 0 ∧ (T1 gs gs.length).length = plH hs 1) → (((0 : Int32) = 0 → P 4 (stT (stX (stX S34 (48 + 7 * j) (T0 gs)) (48 + 7 * j + 1) (T1 gs gs.length)) T0')) ∧ (¬ (0 : Int32) = 0 → P 0 (stT (stX (stX S34 (48 + 7 * j) (T0 gs)) (48 + 7 * j + 1) (T1 gs gs.length)) T0'))) := fun w => ⟨fun _ => fin 4 F0e _ (by rw [erd, if_neg w]) x36 (fun q => by omega), fun q => absurd rfl q⟩
    refine And.symm (pk_eq (T0 gs).length (plH hs 0) (fun w => And.symm (pk_eq (T1 gs gs.length).length (plH hs 1) (fun w2 => ⟨fun q => absurd q (by decide), fun _ => ?_⟩) (fun w2 => no (fun v => w2 v.2)) rfl)) (fun w => no (fun v => w v.1)) rfl)
    exact fin 0 (rdT L hs gs) _ (by rw [erd, if_pos ⟨w, w2⟩]) x36 (fun _ => c36)
  have i01 := inH_le hs 0
  rw [k20']
  refine pk_eq (inH hs 0) 0 (fun q => ?_) (fun q => ?_) rfl
  · exact k74 [] S49 (by unfold rdG; rw [if_pos q]) x49 g49 g65 g66' g67' t49
  · refine sp_readOutlines g49 hj (by rw [show (0 : Int32) = nI 0 from rfl, rGet_nI (by omega), g67', r67_get (by omega)]) g65 hLb (by omega) (fun gs S53 ho f53 c53 => ⟨fun w => absurd w (by decide), fun _ => ?_⟩) (fun S53 ho f53 => ⟨fun _ => fin 3 F0e S53 (by rw [erd]; unfold rdG; rw [if_neg q, ho]) (x49.trans f53.xF) (fun w => by omega), fun w => absurd rfl w⟩)
    have ob := ol_b hLb ho
    have k67 : S53.1 67 = r67 hs := by rw [f53.1 67 (by omega)]; exact g67'
    refine sp_readAdvances c53 ob.2.1 hj (by rw [show (0 : Int32) = nI 0 from rfl, rGet_nI (by omega), k67, r67_get (by omega)]) (by rw [show (1 : Int32) = nI 1 from rfl, rGet_nI (by omega), k67, r67_get (by omega)]) (by rw [f53.1 65 (by omega)]; exact g65) hLb (by omega) (fun g2 S56 ha f56 c56 => ⟨fun _ => ?_, fun w => absurd w (by decide)⟩) (fun S56 ha f56 => ⟨fun w => absurd rfl w, fun _ => fin 3 F0e S56 (by rw [erd]; unfold rdG; rw [if_neg q, ho]; simp only; rw [ha]) ((x49.trans f53.xF).trans f56.xF) (fun w => by omega)⟩)
    refine k74 g2 S56 (by unfold rdG; rw [if_neg q, ho]; exact ha) ((x49.trans f53.xF).trans f56.xF) c56 ?_ ?_ ?_ (fun t ht => ?_)
    · rw [f56.1 65 (by omega), f53.1 65 (by omega)]; exact g65
    · rw [f56.1 66 (by omega), f53.1 66 (by omega)]; exact g66'
    · rw [f56.1 67 (by omega)]; exact k67
    · rw [f56.1 _ (by omega), f53.1 _ (by omega)]; exact t49 t ht
