/-! the tables of the stream -/
def shG (G : Gl) : List Int32 := G.2.1.flatMap (fun s => shortB (nI s))
def offG (G : Gl) (p : Nat) : Nat := if G.2.2.2.2.getD p 0 = 1 then 0 else 128
def sbG (G : Gl) : List Int32 := (List.range G.2.1.sum).flatMap (fun p => [nI (offG G p + sgG G p)])
def dsG (G : Gl) : List Int32 := (List.range G.2.1.sum).flatMap (dtG G)
def cnG (G : Gl) : List Int32 := [nI G.2.1.length]
def adG (G : Gl) : List Int32 := shortB G.1
def S0 (gs : List Gl) : List Int32 := nI gs.length :: (gs.flatMap cnG ++ (gs.flatMap shG ++ (gs.flatMap sbG ++ gs.flatMap dsG)))
def S1 (gs : List Gl) : List Int32 := gs.flatMap adG
def strL (F : Fo) (t : Nat) : List Int32 := if t = 0 then S0 F.1 else if t = 1 then S1 F.1 else F.2 t
theorem short_small {n : Nat} (h : n < 253) : shortB (nI n) = [nI n] := by
  unfold shortB
  rw [if_neg (by show ¬ nI 253 ≤ nI n; exact nI_ge h (by omega))]
theorem nI_505 {n m : Nat} (h : n < 2 ^ 31) (hm : m < 2 ^ 31) : (nI m < nI n) ↔ m < n := by
  rw [← Int32.not_le]
  constructor
  · intro z; exact Classical.byContradiction fun q => z (nI_le (by omega) (by omega))
  · intro z; exact nI_ge z (by omega)
theorem shortB_nI {n : Nat} (h : n < 65536) : shortB (nI n) = if 253 ≤ n then (if 505 < n then (if 761 < n then [nI 253, nI (n / 256), nI (n % 256)] else [nI 254, nI (n - 506)]) else [nI 255, nI (n - 253)]) else [nI n] := by
  unfold shortB
  by_cases h1 : 253 ≤ n
  · rw [if_pos (show (253 : Int32) ≤ nI n from nI_le h1 (by omega)), if_pos h1]
    by_cases h2 : 505 < n
    · rw [if_pos (show (505 : Int32) < nI n from (nI_505 (m := 505) (by omega) (by omega)).mpr h2), if_pos h2]
      by_cases h3 : 761 < n
      · rw [if_pos (show (761 : Int32) < nI n from (nI_505 (m := 761) (by omega) (by omega)).mpr h3), if_pos h3, numB_two h]; rfl
      · rw [if_neg (show ¬ (761 : Int32) < nI n from fun z => h3 ((nI_505 (m := 761) (by omega) (by omega)).mp z)), if_neg h3, show nI n - 506 = nI (n - 506) from pk_sub (b := 506) (by omega)]; rfl
    · rw [if_neg (show ¬ (505 : Int32) < nI n from fun z => h2 ((nI_505 (m := 505) (by omega) (by omega)).mp z)), if_neg h2, show nI n - 253 = nI (n - 253) from pk_sub (b := 253) (by omega)]; rfl
  · rw [if_neg (show ¬ (253 : Int32) ≤ nI n from nI_ge (b := 253) (by omega) (by omega)), if_neg h1]
theorem shortB_len {n : Nat} (h : n < 65536) : (shortB (nI n)).length ≤ 3 := by
  rw [shortB_nI h]
  repeat' split
  all_goals simp
theorem shortB_byt {n : Nat} (h : n < 65536) : ∀ b ∈ shortB (nI n), byt b := by
  rw [shortB_nI h]
  intro b hb
  split at hb
  · split at hb
    · split at hb
      · simp at hb
        rcases hb with rfl | rfl | rfl
        · exact byt_nI (by omega)
        · exact byt_nI (by omega)
        · exact byt_nI (by omega)
      · simp at hb
        rcases hb with rfl | rfl
        · exact byt_nI (by omega)
        · exact byt_nI (by omega)
    · simp at hb
      rcases hb with rfl | rfl
      · exact byt_nI (by omega)
      · exact byt_nI (by omega)
  · simp at hb
    rw [hb]; exact byt_nI (by omega)
theorem fm_len {α : Type} {f : α → List Int32} {c : Nat} : ∀ gs : List α, (∀ G ∈ gs, (f G).length ≤ c) → (gs.flatMap f).length ≤ c * gs.length
  | [], _ => by simp
  | G :: gs, h => by
    have h1 := h G (by simp)
    have h2 := fm_len gs (fun x hx => h x (by simp [hx]))
    simp only [List.flatMap_cons, List.length_append, List.length_cons, Nat.mul_add]
    omega
theorem fm_take {α : Type} {gs : List α} {n : Nat} {G : α} (h : gs[n]? = some G) (f : α → List Int32) : (gs.take (n + 1)).flatMap f = (gs.take n).flatMap f ++ f G := by
  rw [List.take_add_one, h, List.flatMap_append]
  simp
theorem okG_mem {F : Fo} (hk : okF F) {G : Gl} (h : G ∈ F.1) : okG G := by
  obtain ⟨g, hg⟩ := List.mem_iff_getElem?.mp h
  exact hk.2.1 g G hg
theorem mem_le_sum : ∀ (l : List Nat) (s : Nat), s ∈ l → s ≤ l.sum
  | [], s, h => by simp at h
  | x :: t, s, h => by
    simp only [List.mem_cons] at h
    rcases h with rfl | h
    · simp
    · have := mem_le_sum t s h; simp; omega
theorem shG_len {G : Gl} (hk : okG G) : (shG G).length ≤ 4 := by
  have := fm_len (f := fun s => shortB (nI s)) (c := 1) G.2.1 (fun s hs => by
    have := mem_le_sum _ _ hs
    have := hk.1.2.1
    rw [short_small (by omega)]; simp)
  have := hk.1.1
  unfold shG
  omega
theorem sbG_len {G : Gl} (hk : okG G) : (sbG G).length ≤ 16 := by
  have := fm_len (f := fun p => [nI (offG G p + sgG G p)]) (c := 1) (List.range G.2.1.sum) (fun s hs => by simp)
  have h2 := hk.1.2.1
  rw [List.length_range] at this
  unfold sbG
  omega
theorem dsG_len {G : Gl} (hk : okG G) : (dsG G).length ≤ 64 := by
  have := fm_len (f := dtG G) (c := 4) (List.range G.2.1.sum) (fun s hs => dt_len _ _)
  have h2 := hk.1.2.1
  rw [List.length_range] at this
  unfold dsG
  omega
theorem adG_len {G : Gl} (hk : okG G) : (adG G).length ≤ 3 := by
  obtain ⟨a, ha, e⟩ := hk.2.2.2.2.1
  unfold adG
  rw [e]; exact shortB_len (by omega)
theorem fmT {f : Gl → List Int32} {c : Nat} {F : Fo} (hk : okF F) (hf : ∀ G, okG G → (f G).length ≤ c) (n : Nat) : ((F.1.take n).flatMap f).length ≤ c * n := by
  have h1 := fm_len (f := f) (c := c) (F.1.take n) (fun G hG => hf G (okG_mem hk (List.mem_of_mem_take hG)))
  have h2 : (F.1.take n).length ≤ n := by simp; omega
  exact Nat.le_trans h1 (Nat.mul_le_mul_left c h2)
theorem fmA {f : Gl → List Int32} {c : Nat} {F : Fo} (hk : okF F) (hf : ∀ G, okG G → (f G).length ≤ c) : (F.1.flatMap f).length ≤ c * F.1.length := fm_len F.1 (fun G hG => hf G (okG_mem hk hG))
theorem S0_len {F : Fo} (hk : okF F) : (S0 F.1).length ≤ 511 := by
  have h0 := hk.1
  have h1 := fmA (f := cnG) (c := 1) hk (fun G _ => by simp [cnG])
  have h2 := fmA (f := shG) hk (fun G h => shG_len h)
  have h3 := fmA (f := sbG) hk (fun G h => sbG_len h)
  have h4 := fmA (f := dsG) hk (fun G h => dsG_len h)
  unfold S0
  simp only [List.length_cons, List.length_append]
  omega
theorem S1_len {F : Fo} (hk : okF F) : (S1 F.1).length ≤ 18 := by
  have h0 := hk.1
  have h1 := fmA (f := adG) hk (fun G h => adG_len h)
  unfold S1
  omega
theorem dt_byt (a b : Nat) (ha : a ≤ 8000) (hb : b ≤ 8000) : ∀ x ∈ dt a b, byt x := by
  intro x hx
  unfold dt at hx
  split at hx
  · simp at hx; rw [hx]; exact byt_nI (by omega)
  · split at hx
    · simp at hx; rw [hx]; exact byt_nI (by omega)
    · split at hx
      · simp at hx; rw [hx]; exact byt_nI (by omega)
      · split at hx
        · simp at hx; rcases hx with rfl | rfl <;> exact byt_nI (by omega)
        · split at hx
          · simp at hx; rcases hx with rfl | rfl | rfl <;> exact byt_nI (by omega)
          · simp at hx; rcases hx with rfl | rfl | rfl | rfl <;> exact byt_nI (by omega)
theorem strL_byt {F : Fo} (hk : okF F) {t : Nat} (ht : t < 7) : ∀ b ∈ strL F t, byt b := by
  intro b hb
  unfold strL at hb
  split at hb
  · unfold S0 at hb
    simp only [List.mem_cons, List.mem_append, List.mem_flatMap] at hb
    have h6 := hk.1
    rcases hb with rfl | ⟨G, hG, hb⟩ | ⟨G, hG, hb⟩ | ⟨G, hG, hb⟩ | ⟨G, hG, hb⟩
    · exact byt_nI (by omega)
    · have kG := okG_mem hk hG
      have := kG.1.1
      simp [cnG] at hb; rw [hb]; exact byt_nI (by omega)
    · have kG := okG_mem hk hG
      simp only [shG, List.mem_flatMap] at hb
      obtain ⟨s, hs, hb⟩ := hb
      have := mem_le_sum _ _ hs
      have := kG.1.2.1
      exact shortB_byt (by omega) b hb
    · simp only [sbG, List.mem_flatMap, List.mem_singleton] at hb
      obtain ⟨p, _, hb⟩ := hb
      have := sgG_le G p
      have : offG G p ≤ 128 := by unfold offG; split <;> omega
      rw [hb]; exact byt_nI (by omega)
    · have kG := okG_mem hk hG
      simp only [dsG, List.mem_flatMap] at hb
      obtain ⟨p, _, hb⟩ := hb
      have hx := inS_stp kG.2.1 p
      have hy := inS_stp kG.2.2.1 p
      unfold inS at hx hy
      exact dt_byt _ _ (by omega) (by omega) b hb
  · split at hb
    · simp only [S1, List.mem_flatMap] at hb
      obtain ⟨G, hG, hb⟩ := hb
      obtain ⟨a, ha, e⟩ := (okG_mem hk hG).2.2.2.2.1
      unfold adG at hb
      rw [e] at hb
      exact shortB_byt (by omega) b hb
    · exact (hk.2.2.2.2 t ht).2 b hb
theorem strL_len {F : Fo} (hk : okF F) {t : Nat} (ht : t < 7) : (strL F t).length ≤ if t = 0 then 511 else 20 := by
  unfold strL
  split
  · exact S0_len hk
  · split
    · have := S1_len hk; omega
    · exact (hk.2.2.2.2 t ht).1
/-! the class makes them -/
def m3 (S : St) (r : Nat) (a b c : List Int32) : St := stX (stX (stX S r a) (r + 1) b) 63 c
theorem stX_comm {S : St} {r r' : Nat} {a b : List Int32} (h : r ≠ r') : stX (stX S r a) r' b = stX (stX S r' b) r a := by
  unfold stX
  congr 1
  funext q
  unfold va_up
  by_cases h1 : q = r
  · subst h1; simp [h]
  · simp [h1]
theorem m3_0 {S : St} {r : Nat} {a b c : List Int32} (h : r < 62) : (m3 S r a b c).1 r = a := by unfold m3; rw [stX_ne (by omega), stX_ne (by omega), stX_at]
theorem m3_1 {S : St} {r : Nat} {a b c : List Int32} (h : r < 62) : (m3 S r a b c).1 (r + 1) = b := by unfold m3; rw [stX_ne (by omega), stX_at]
theorem m3_2 {S : St} {r : Nat} {a b c : List Int32} : (m3 S r a b c).1 63 = c := by unfold m3; rw [stX_at]
theorem m3_app0 {S : St} {r : Nat} {a b c l : List Int32} (h : r < 62) (hl : a.length + l.length ≤ gw_cap r) : rApp (m3 S r a b c) r l = m3 S r (a ++ l) b c := by
  rw [rApp_fit (by rw [m3_0 h]; exact hl), m3_0 h]
  unfold m3
  rw [stX_comm (S := stX (stX S r a) (r + 1) b) (by omega), stX_swap (by omega)]
theorem m3_app1 {S : St} {r : Nat} {a b c l : List Int32} (h : r < 62) (hl : b.length + l.length ≤ gw_cap (r + 1)) : rApp (m3 S r a b c) (r + 1) l = m3 S r a (b ++ l) c := by
  rw [rApp_fit (by rw [m3_1 h]; exact hl), m3_1 h]
  unfold m3
  rw [stX_swap (by omega)]
theorem m3_app2 {S : St} {r : Nat} {a b c l : List Int32} (hl : c.length + l.length ≤ 384) : rApp (m3 S r a b c) 63 l = m3 S r a b (c ++ l) := by
  rw [rApp_fit (by rw [m3_2]; exact hl), m3_2]
  unfold m3
  rw [stX_stX]
theorem m3_cF {S : St} {j : Nat} {F : Fo} {a b c : List Int32} (hc : cF S j F) (hk : okF F) (hj : j ≤ 1) : cF (m3 S (48 + 7 * j) a b c) j F := cF_X (cF_X (cF_X hc hk hj (by omega)) hk hj (by omega)) hk hj (by omega)
theorem sp_addCounts {S : St} {j : Nat} {F : Fo} {P : St → Prop} (hc : cF S j F) (hk : okF F) (hj : j ≤ 1) (h : P (rApp S (48 + 7 * j) (nI F.1.length :: (F.1.flatMap cnG ++ F.1.flatMap shG)))) : wp_X9_addCounts S j (48 + 7 * j) P := by
  intro X10 X38 X55 x10 x38 x55 S18 e18
  have h6 := hk.1
  have cA : ∀ l, cF (rApp S (48 + 7 * j) l) j F := fun l => cF_X hc hk hj (by omega)
  have cnt : ∀ l, fv_X3_glyphCount (rApp S (48 + 7 * j) l) j = nI F.1.length := fun l => (cA l).1
  have l38 := up_loop (X := X38) (fun g => rApp S (48 + 7 * j) (nI F.1.length :: (F.1.flatMap cnG ++ (F.1.take g).flatMap shG))) (N := F.1.length) (x38 _ _ ⟨fun _ => ?_, fun z => absurd (by rw [cnt]; exact Int32.le_refl _) z⟩) (fun g hg hx => x38 _ _ ⟨fun z => absurd z (by rw [cnt]; exact nI_ge hg (by omega)), fun _ => ?_⟩) 0 (by omega)
  · have l10 := up_loop (X := X10) (fun g => rApp S (48 + 7 * j) (nI F.1.length :: (F.1.take g).flatMap cnG)) (N := F.1.length) (x10 _ _ ⟨fun _ => ?_, fun z => absurd (by rw [cnt]; exact Int32.le_refl _) z⟩) (fun g hg hx => x10 _ _ ⟨fun z => absurd z (by rw [cnt]; exact nI_ge hg (by omega)), fun _ S11 e11 x12 e12 => ?_⟩) 0 (by omega)
    · rw [e18]
      have e0 : fv_X3_glyphCount S j = nI F.1.length := hc.1
      rw [e0]
      simp only [List.take_zero, List.flatMap_nil] at l10
      rw [nI_0] at l10
      exact l10
    · rw [List.take_of_length_le (Nat.le_refl _)]
      simp only [List.take_zero, List.flatMap_nil, List.append_nil] at l38
      rw [nI_0] at l38
      exact l38
    · have eG := List.getElem?_eq_getElem hg
      have hG := (cA (nI F.1.length :: (F.1.take g).flatMap cnG)).2.1 g _ eG
      rw [e12, nI_1, e11, glId_nI (by omega)]
      have ec : fv_X4_contourCount (rApp S (48 + 7 * j) (nI F.1.length :: (F.1.take g).flatMap cnG)) (6 * j + g) = nI (F.1[g]).2.1.length := by
        show nI (_ : List Int32).length = _
        rw [hG.2.1, List.length_map]
      rw [ec]
      unfold rAdd
      rw [rApp_app]
      rw [fm_take eG] at hx
      exact hx
  · rw [List.take_of_length_le (Nat.le_refl _)]; exact h
  · have eG := List.getElem?_eq_getElem hg
    generalize hGG : F.1[g] = G at eG
    have kG := hk.2.1 g G eG
    have k1 := kG.1.1
    rw [glId_nI (by omega)]
    have hG : ∀ l, cG (rApp S (48 + 7 * j) l) (6 * j + g) G := fun l => (cA l).2.1 g G eG
    have cc : ∀ l, fv_X4_contourCount (rApp S (48 + 7 * j) l) (6 * j + g) = nI G.2.1.length := fun l => by
      show nI (_ : List Int32).length = _
      rw [(hG l).2.1, List.length_map]
    have l55 := up_loop (X := fun S' v => X55 S' (nI g) (6 * j + g) v) (fun c => rApp S (48 + 7 * j) (nI F.1.length :: (F.1.flatMap cnG ++ ((F.1.take g).flatMap shG ++ (G.2.1.take c).flatMap (fun s => shortB (nI s)))))) (N := G.2.1.length) (x55 _ _ _ _ ⟨fun _ x15 e15 => ?_, fun z => absurd (by rw [cc]; exact Int32.le_refl _) z⟩) (fun c hcl hx2 => x55 _ _ _ _ ⟨fun z => absurd z (by rw [cc]; exact nI_ge hcl (by omega)), fun _ S16 e16 x17 e17 => ?_⟩) 0 (by omega)
    · simp only [List.take_zero, List.flatMap_nil, List.append_nil] at l55
      rw [nI_0] at l55
      exact l55
    · rw [List.take_of_length_le (Nat.le_refl _), e15, nI_1]
      rw [fm_take eG] at hx
      exact hx
    · have es := List.getElem?_eq_getElem hcl
      have ez : ∀ l, fv_X4_contourSize (rApp S (48 + 7 * j) l) (6 * j + g) (nI c) = nI G.2.1[c] := fun l => by
        show rGet _ (4 * (6 * j + g)) (nI c) = _
        rw [rGet_nI (by omega), (hG l).2.1, List.getD_eq_getElem?_getD, List.getElem?_map, es]
        rfl
      rw [e17, nI_1, e16, ez]
      unfold rShort
      rw [rApp_app]
      rw [fm_take es] at hx2
      simpa using hx2
theorem sp_streamTables {S : St} {j : Nat} {F : Fo} {P : St → Prop} (hc : cF S j F) (hk : okF F) (hj : j ≤ 1) (h : P (m3 S (48 + 7 * j) (S0 F.1) (S1 F.1) (F.1.flatMap dsG))) : wp_X9_makeTables S j P := by
  intro X35 X55 X97 x35 x55 x97 S28 e28 S29 e29 S30 e30
  have h6 := hk.1
  rw [show rwId S j 0 = 48 + 7 * j from rwId_nI (i := 0) (by omega), show rwId S j 1 = 48 + 7 * j + 1 from rwId_nI (i := 1) (by omega)] at *
  have ck0 := cap480 hj
  have ck1 := cap481 hj
  have hr : 48 + 7 * j < 62 := by omega
  have e30' : S30 = m3 S (48 + 7 * j) [] [] [] := by rw [e30, e29, e28]; rfl
  rw [e30']
  have b1 := fmA (f := cnG) (c := 1) hk (fun G _ => by simp [cnG])
  have b2 := fmA (f := shG) hk (fun G h => shG_len h)
  have b4 := fmA (f := dsG) hk (fun G h => dsG_len h)
  have cA : ∀ a b c, cF (m3 S (48 + 7 * j) a b c) j F := fun a b c => m3_cF hc hk hj
  refine sp_addCounts (cA _ _ _) hk hj ?_
  rw [m3_app0 hr (by rw [ck0]; simp only [List.length_nil, List.length_cons, List.length_append]; omega), List.nil_append]
  generalize hbase : nI F.1.length :: (F.1.flatMap cnG ++ F.1.flatMap shG) = base
  have bl : base.length ≤ 31 := by rw [← hbase]; simp only [List.length_cons, List.length_append]; omega
  have eS0 : S0 F.1 = base ++ F.1.flatMap sbG ++ F.1.flatMap dsG := by rw [← hbase]; unfold S0; simp
  have cnt : ∀ a b c, fv_X3_glyphCount (m3 S (48 + 7 * j) a b c) j = nI F.1.length := fun a b c => (cA a b c).1
  have l35 := up_loop (X := fun S' v => X35 S' (48 + 7 * j) (48 + 7 * j + 1) v) (fun g => m3 S (48 + 7 * j) (base ++ (F.1.take g).flatMap sbG) ((F.1.take g).flatMap adG) ((F.1.take g).flatMap dsG)) (N := F.1.length) (x35 _ _ _ _ ⟨fun _ => ⟨by unfold neRow; omega, fun S18 e18 => ?_⟩, fun z => absurd (by rw [cnt]; exact Int32.le_refl _) z⟩) (fun g hg hx => x35 _ _ _ _ ⟨fun z => absurd z (by rw [cnt]; exact nI_ge hg (by omega)), fun _ => ?_⟩) 0 (by omega)
  · simp only [List.take_zero, List.flatMap_nil, List.append_nil] at l35
    rw [nI_0] at l35
    exact l35
  · rw [List.take_of_length_le (Nat.le_refl _)] at e18
    have b3 := fmA (f := sbG) hk (fun G h => sbG_len h)
    unfold rAddRow at e18
    rw [m3_2, m3_app0 hr (by rw [ck0]; simp only [List.length_append]; omega), ← eS0] at e18
    rw [e18]; exact h
  · have eG := List.getElem?_eq_getElem hg
    generalize hGG : F.1[g] = G at eG
    have kG := hk.2.1 g G eG
    have k2 := kG.1.2.1
    have t1 := fmT (f := sbG) hk (fun G h => sbG_len h) g
    have t2 := fmT (f := adG) hk (fun G h => adG_len h) g
    have t3 := fmT (f := dsG) hk (fun G h => dsG_len h) g
    rw [glId_nI (by omega)]
    have hG : ∀ a b c, cG (m3 S (48 + 7 * j) a b c) (6 * j + g) G := fun a b c => (cA a b c).2.1 g G eG
    have pc : ∀ a b c, fv_X4_pointCount (m3 S (48 + 7 * j) a b c) (6 * j + g) = nI G.2.1.sum := fun a b c => by
      show nI (_ : List Int32).length = _
      rw [(hG a b c).2.2.1, kG.1.2.2.1]
    have l55 := up_loop (X := fun S' v => X55 S' (48 + 7 * j) (48 + 7 * j + 1) (nI g) (6 * j + g) v) (fun p => m3 S (48 + 7 * j) (base ++ (F.1.take g).flatMap sbG ++ (List.range p).flatMap (fun p => [nI (offG G p + sgG G p)])) ((F.1.take g).flatMap adG) ((F.1.take g).flatMap dsG ++ (List.range p).flatMap (dtG G))) (N := G.2.1.sum) (x55 _ _ _ _ _ _ ⟨fun _ S20 e20 x21 e21 => ?_, fun z => absurd (by rw [pc]; exact Int32.le_refl _) z⟩) (fun p hp hx2 => x55 _ _ _ _ _ _ ⟨fun z => absurd z (by rw [pc]; exact nI_ge hp (by omega)), fun _ => ?_⟩) 0 (by omega)
    · simp only [List.range_zero, List.flatMap_nil, List.append_nil] at l55
      rw [nI_0] at l55
      exact l55
    · have ea : ∀ a b c, fv_X4_advance (m3 S (48 + 7 * j) a b c) (6 * j + g) = G.1 := fun a b c => (hG a b c).1
      have la := adG_len kG
      unfold rShort at e20
      rw [ea, m3_app1 hr (by rw [ck1]; show _ + (adG G).length ≤ _; omega)] at e20
      rw [e20, e21, nI_1]
      rw [fm_take eG, fm_take eG, fm_take eG, ← List.append_assoc] at hx
      exact hx
    · have f1 : ((List.range p).flatMap (fun p => [nI (offG G p + sgG G p)])).length ≤ 1 * p := by
        have := fm_len (f := fun p => [nI (offG G p + sgG G p)]) (c := 1) (List.range p) (fun s hs => by simp)
        simpa using this
      have f2 : ((List.range p).flatMap (dtG G)).length ≤ 4 * p := by
        have := fm_len (f := dtG G) (c := 4) (List.range p) (fun s hs => dt_len _ _)
        simpa using this
      have f3 : (dtG G p).length ≤ 4 := dt_len _ _
      have key : ∀ o : Nat, o = offG G p → X97 (m3 S (48 + 7 * j) (base ++ (F.1.take g).flatMap sbG ++ (List.range p).flatMap (fun p => [nI (offG G p + sgG G p)])) ((F.1.take g).flatMap adG) ((F.1.take g).flatMap dsG ++ (List.range p).flatMap (dtG G))) (48 + 7 * j) (48 + 7 * j + 1) (nI g) (6 * j + g) (nI p) (nI o) (stp G.2.2.2.1 p) (stp G.2.2.1 p) := by
        intro o eo
        refine x97 _ _ _ _ _ _ _ _ _ (sp_xStep (inS_stp kG.2.1 p) (inS_stp kG.2.2.1 p) (fun x27 e27 => ?_))
        rw [e27, nI_1]
        change X55 (rApp (rApp _ _ [nI (o + sgG G p)]) 63 (dtG G p)) _ _ _ _ _
        have hd : ((F.1.take g).flatMap dsG ++ (List.range p).flatMap (dtG G)).length + (dtG G p).length ≤ 384 := by simp only [List.length_append]; omega
        rw [m3_app0 hr (by rw [ck0]; simp only [List.length_append, List.length_singleton]; omega), m3_app2 hd, eo]
        rw [flat_succ, flat_succ] at hx2
        simpa using hx2
      rw [dx_nI (hG _ _ _) (by omega), dy_nI (hG _ _ _) (by omega)]
      refine sp_isOn (hG _ _ _) (by omega) (fun z => ⟨fun y => absurd y (by decide), fun _ => key 0 ?_⟩) (fun z => ⟨fun _ => key 128 ?_, fun y => absurd rfl y⟩)
      · unfold offG; rw [if_pos z]
      · unfold offG; rw [if_neg z]
