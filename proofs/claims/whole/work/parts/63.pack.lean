/-! the packed font -/
def heT (F : Fo) (t : Nat) : List Int32 := if hasT F t then (if t < 2 then nI (64 + t) :: (longB (nI (tabL F t).length) ++ longB (nI (strL F t).length)) else nI t :: longB (nI (strL F t).length)) else []
def heL (F : Fo) (t : Nat) : List Int32 := (List.range t).flatMap (heT F)
def sbT (F : Fo) (t : Nat) : List Int32 := if hasT F t then strL F t else []
def sbL (F : Fo) (t : Nat) : List Int32 := (List.range t).flatMap (sbT F)
def hdP (F : Fo) : List Int32 := [nI 119, nI 50, nI (cntT F 7)] ++ heL F 7 ++ longB (nI (sbL F 7).length)
def packL (F : Fo) : List Int32 := (cmpW (sbL F 7) (hdP F, 0, 0)).1
theorem tabL_516 {F : Fo} (hk : okF F) {t : Nat} (ht : t < 7) : (tabL F t).length ≤ 516 := by
  have := tabL_len hk ht
  split at this
  · exact this
  · split at this <;> omega
theorem strL_511 {F : Fo} (hk : okF F) {t : Nat} (ht : t < 7) : (strL F t).length ≤ 511 := by
  have := strL_len hk ht
  split at this <;> omega
theorem heT_len {F : Fo} (hk : okF F) {t : Nat} (ht : t < 7) : (heT F t).length ≤ 5 := by
  have h1 := longB_len (n := (tabL F t).length) (by have := tabL_516 hk ht; omega)
  have h2 := longB_len (n := (strL F t).length) (by have := strL_511 hk ht; omega)
  unfold heT
  split
  · split
    · simp only [List.length_cons, List.length_append]; omega
    · simp only [List.length_cons]; omega
  · simp
theorem heL_len {F : Fo} (hk : okF F) : ∀ t, t ≤ 7 → (heL F t).length ≤ 5 * t := by
  intro t
  induction t with
  | zero => intro _; simp [heL]
  | succ t ih =>
    intro ht
    have := ih (by omega)
    have := heT_len hk (t := t) (by omega)
    unfold heL at *
    rw [flat_succ, List.length_append]; omega
theorem sbL_len {F : Fo} (hk : okF F) : ∀ t, t ≤ 7 → (sbL F t).length ≤ if t = 0 then 0 else 491 + 20 * t := by
  intro t
  induction t with
  | zero => intro _; simp [sbL]
  | succ t ih =>
    intro ht
    have h1 := ih (by omega)
    have h2 : (sbT F t).length ≤ if t = 0 then 511 else 20 := by
      unfold sbT
      split
      · exact strL_len hk (by omega)
      · simp
    unfold sbL at *
    rw [flat_succ, List.length_append, if_neg (show ¬ t + 1 = 0 by omega)]
    by_cases h0 : t = 0
    · rw [if_pos h0] at h1 h2; omega
    · rw [if_neg h0] at h1 h2; omega
theorem sbL_631 {F : Fo} (hk : okF F) {t : Nat} (ht : t ≤ 7) : (sbL F t).length ≤ 631 := by
  have := sbL_len hk t ht
  split at this <;> omega
theorem sbL_byt {F : Fo} (hk : okF F) : ∀ b ∈ sbL F 7, byt b := by
  intro b hb
  simp only [sbL, List.mem_flatMap, List.mem_range] at hb
  obtain ⟨t, ht, hb⟩ := hb
  unfold sbT at hb
  split at hb
  · exact strL_byt hk ht b hb
  · simp at hb
theorem hdP_len {F : Fo} (hk : okF F) : (hdP F).length ≤ 40 := by
  have h1 := heL_len hk 7 (by omega)
  have h2 := longB_len (n := (sbL F 7).length) (by have := sbL_631 hk (t := 7) (by omega); omega)
  unfold hdP
  simp only [List.length_append, List.length_cons, List.length_nil]
  omega
theorem hdP_byt {F : Fo} (hk : okF F) : ∀ b ∈ hdP F, byt b := by
  intro b hb
  have hc := cntT_le F 7
  unfold hdP at hb
  simp only [List.mem_append, List.mem_cons, List.not_mem_nil, or_false] at hb
  rcases hb with ((rfl | rfl | rfl) | hb) | hb
  · exact byt_nI (by omega)
  · exact byt_nI (by omega)
  · exact byt_nI (by omega)
  · simp only [heL, List.mem_flatMap, List.mem_range] at hb
    obtain ⟨t, ht, hb⟩ := hb
    have l1 := tabL_516 hk ht
    have l2 := strL_511 hk ht
    unfold heT at hb
    split at hb
    · split at hb
      · simp only [List.mem_cons, List.mem_append] at hb
        rcases hb with rfl | hb | hb
        · exact byt_nI (by omega)
        · exact longB_byt (by omega) b hb
        · exact longB_byt (by omega) b hb
      · simp only [List.mem_cons] at hb
        rcases hb with rfl | hb
        · exact byt_nI (by omega)
        · exact longB_byt (by omega) b hb
    · simp at hb
  · exact longB_byt (by have := sbL_631 hk (t := 7) (by omega); omega) b hb
theorem hdP_okW {F : Fo} (hk : okF F) : okW (hdP F, 0, 0) := ⟨by show (0 : Nat) < 8; omega, by show (0 : Nat) < 2 ^ 0; decide, hdP_byt hk⟩
theorem packL_ok {F : Fo} (hk : okF F) : okB (packL F) := by
  have h1 := sbL_631 hk (t := 7) (by omega)
  have h2 := hdP_len hk
  obtain ⟨c1, c2⟩ := cmpW_ok (L := sbL F 7) (w := (hdP F, 0, 0)) (by omega) (hdP_okW hk)
  refine ⟨?_, c1.2.2⟩
  have e : wln (hdP F, 0, 0) = 8 * (hdP F).length := rfl
  rw [e] at c2
  unfold packL
  generalize cmpW (sbL F 7) (hdP F, 0, 0) = w at *
  unfold wln at c2
  omega
/-! the class writes it -/
theorem sp_writePacked {S : St} {T0' : List (Nat × Nat × Nat)} {j : Nat} {F : Fo} {P : St → Prop} (hc : cF S j F) (hk : okF F) (hcl : ∀ (g : Nat) (G : Gl), F.1[g]? = some G → closed G) (hj : j ≤ 1) (hle : rowsLe S)
    (hP : ∀ S2, (∀ k p, k < 1000 → S2.2.1 k p = S.2.1 k p) → (∀ r, r < 62 → r ≠ 48 + 7 * j → r ≠ 48 + 7 * j + 1 → S2.1 r = S.1 r) → S2.1 62 = packL F → rowsLe S2 → P S2) : wp_X6_writePacked T0' S j 62 P := by
  intro X65 X116 X128 X146 x65 x116 x128 x146
  have h6 := hk.1
  have hc7 := cntT_le F 7
  refine sp_makeTables hc hk hcl hj hle (fun x50 e50 x51 e51 => ?_)
  rw [show ∀ S : St, rwId S j 0 = 48 + 7 * j from fun S => rwId_nI (i := 0) (by omega)] at e50
  rw [show ∀ S : St, rwId S j 1 = 48 + 7 * j + 1 from fun S => rwId_nI (i := 1) (by omega)] at e51
  have e50' : x50 = nI (tabL F 0).length := by rw [e50]; unfold rLen; rw [stX_ne (by omega), stX_at]; rfl
  have e51' : x51 = nI (tabL F 1).length := by rw [e51]; unfold rLen; rw [stX_at]; rfl
  clear e50 e51
  have cb : cF (stX (stX S (48 + 7 * j) (T0 F.1)) (48 + 7 * j + 1) (T1 F.1 F.1.length)) j F := cF_X (cF_X hc hk hj (by omega)) hk hj (by omega)
  have lb : rowsLe (stX (stX S (48 + 7 * j) (T0 F.1)) (48 + 7 * j + 1) (T1 F.1 F.1.length)) := le_stX (le_stX hle (by rw [cap480 hj]; exact T0_le hk)) (by rw [cap481 hj, T1_len]; omega)
  refine sp_streamTables cb hk hj (fun S54 e54 S55 e55 S56 e56 S57 e57 => ?_)
  have cx : cF (m3 (stX (stX S (48 + 7 * j) (T0 F.1)) (48 + 7 * j + 1) (T1 F.1 F.1.length)) (48 + 7 * j) (S0 F.1) (S1 F.1) (F.1.flatMap dsG)) j F := m3_cF cb hk hj
  have lx : rowsLe (m3 (stX (stX S (48 + 7 * j) (T0 F.1)) (48 + 7 * j + 1) (T1 F.1 F.1.length)) (48 + 7 * j) (S0 F.1) (S1 F.1) (F.1.flatMap dsG)) := by
    have b4 := fmA (f := dsG) hk (fun G h => dsG_len h)
    refine le_stX (le_stX (le_stX lb (by rw [cap480 hj]; have := S0_len hk; omega)) (by rw [cap481 hj]; have := S1_len hk; omega)) (by show _ ≤ 384; omega)
  have rx : ∀ t, t < 7 → (m3 (stX (stX S (48 + 7 * j) (T0 F.1)) (48 + 7 * j + 1) (T1 F.1 F.1.length)) (48 + 7 * j) (S0 F.1) (S1 F.1) (F.1.flatMap dsG)).1 (48 + 7 * j + t) = strL F t := by
    intro t ht
    unfold strL
    split
    · rename_i z; rw [z]; exact m3_0 (r := 48 + 7 * j) (by omega)
    · split
      · rename_i z; rw [z, m3_1 (by omega)]
      · exact cx.2.2 t (by omega) ht
  have kx : ∀ k p, (m3 (stX (stX S (48 + 7 * j) (T0 F.1)) (48 + 7 * j + 1) (T1 F.1 F.1.length)) (48 + 7 * j) (S0 F.1) (S1 F.1) (F.1.flatMap dsG)).2.1 k p = S.2.1 k p := fun k p => rfl
  have ox : ∀ r, r < 62 → r ≠ 48 + 7 * j → r ≠ 48 + 7 * j + 1 → (m3 (stX (stX S (48 + 7 * j) (T0 F.1)) (48 + 7 * j + 1) (T1 F.1 F.1.length)) (48 + 7 * j) (S0 F.1) (S1 F.1) (F.1.flatMap dsG)).1 r = S.1 r := fun r h1 h2 h3 => by
    unfold m3
    rw [stX_ne (by omega), stX_ne h3, stX_ne h2, stX_ne h3, stX_ne h2]
  generalize m3 (stX (stX S (48 + 7 * j) (T0 F.1)) (48 + 7 * j + 1) (T1 F.1 F.1.length)) (48 + 7 * j) (S0 F.1) (S1 F.1) (F.1.flatMap dsG) = Sx at *
  have app62 : ∀ a b l, a.length + l.length ≤ 1500 → rApp (stX (stX Sx 64 b) 62 a) 62 l = stX (stX Sx 64 b) 62 (a ++ l) := fun a b l hl => by
    rw [rApp_fit (by rw [stX_at]; exact hl), stX_at, stX_stX]
  have app64 : ∀ a b l, b.length + l.length ≤ 1000 → rApp (stX (stX Sx 64 b) 62 a) 64 l = stX (stX Sx 64 (b ++ l)) 62 a := fun a b l hl => by
    rw [rApp_fit (by rw [stX_ne (by omega), stX_at]; exact hl), stX_ne (by omega), stX_at, stX_swap (by omega)]
  have cst : ∀ a b, cF (stX (stX Sx 64 b) 62 a) j F := fun a b => cF_X (cF_X cx hk hj (by omega)) hk hj (by omega)
  have rst : ∀ a b t, t < 7 → (stX (stX Sx 64 b) 62 a).1 (48 + 7 * j + t) = strL F t := fun a b t ht => by rw [stX_ne (by omega), stX_ne (by omega), rx t ht]
  have r64 : ∀ a b, (stX (stX Sx 64 b) 62 a).1 64 = b := fun a b => by rw [stX_ne (by omega), stX_at]
  have e57' : S57 = stX (stX Sx 64 []) 62 [nI 119, nI 50] := by
    rw [e57, e56, e55, e54]
    unfold rMake rAdd
    rw [app62 [] [] _ (by simp), app62 _ _ _ (by simp)]
    rfl
  rw [e57']
  refine sp_tableCount (cst _ _) hk (fun S60 e60 => ?_)
  have e60' : S60 = stX (stX Sx 64 []) 62 [nI 119, nI 50, nI (cntT F 7)] := by
    rw [e60]; unfold rAdd; rw [app62 _ _ _ (by simp)]; rfl
  rw [e60']
  have key : ∀ d, d ≤ 7 → X65 (stX (stX Sx 64 (sbL F (7 - d))) 62 ([nI 119, nI 50, nI (cntT F 7)] ++ heL F (7 - d))) x50 x51 (nI (7 - d)) := by
    intro d
    induction d with
    | zero =>
      intro _
      have l7 := sbL_631 hk (t := 7) (by omega)
      have lh := heL_len hk 7 (by omega)
      have ll := longB_len (n := (sbL F 7).length) (by omega)
      rw [Nat.sub_zero]
      refine x65 _ _ _ _ ⟨fun _ S32 e32 n164 hn S33 e33 S34 e34 => ?_, fun z => absurd (by decide) z⟩
      have e32' : S32 = stX (stX Sx 64 (sbL F 7)) 62 (hdP F) := by
        rw [e32]; unfold rLong rLen
        rw [r64, app62 _ _ _ (by simp only [List.length_append, List.length_cons, List.length_nil]; omega)]; rfl
      have s34 : S34.1 = S32.1 := by rw [e34, e33]; rfl
      have n34 : ∀ k p, k ≠ 1000 + n164 → S34.2.1 k p = S32.2.1 k p := fun k p hk => by
        rw [e34, e33]
        show (zeroM _ n164).2.1 k p = _
        unfold zeroM
        rw [stM_k hk, stM_k hk, stM_k hk]; rfl
      refine sp_compress (c := n164) (w := (hdP F, 0, 0)) (L := sbL F 7) (by rw [s34, e32', r64]) (by omega) (sbL_byt hk) ⟨by rw [s34, e32', stX_at], ?_, ?_⟩ (hdP_okW hk) ?_ (fun S35 f35 h35 => ?_)
      · rw [e34]
        show (zeroM S33 n164).2.1 _ _ = _
        unfold zeroM
        rw [stM_p (by omega), stM_p (by omega), stM_self]; rfl
      · rw [e34]
        show (zeroM S33 n164).2.1 _ _ = _
        unfold zeroM
        rw [stM_p (by omega), stM_self]; rfl
      · have := hdP_len hk
        show 8 * (hdP F).length + 0 + _ + _ < _
        omega
      · have l34 : rowsLe S34 := by
          intro r hr
          rw [s34, e32']
          exact le_stX (le_stX lx (by show _ ≤ 1000; omega)) (by show _ ≤ 1500; have := hdP_len hk; omega) r hr
        have pk := packL_ok hk
        refine hP (stT S35 T0') (fun k p hk1 => ?_) (fun r h1 h2 h3 => ?_) h35.1 (fun r hr => ?_)
        · show S35.2.1 k p = _
          rw [f35.2.2 k p (by omega), n34 k p (by omega), e32']
          exact kx k p
        · show S35.1 r = _
          rw [f35.2.1 r (by omega), s34, e32', stX_ne (by omega), stX_ne (by omega)]
          exact ox r h1 h2 h3
        · show (S35.1 r).length ≤ _
          by_cases h62 : r = 62
          · rw [h62, h35.1]; exact pk.1
          · rw [f35.2.1 r h62]; exact l34 r hr
    | succ d ih =>
      intro hd
      have ht : 7 - (d + 1) < 7 := by omega
      have hn : 7 - (d + 1) + 1 = 7 - d := by omega
      have l7 := sbL_631 hk (t := 7 - (d + 1)) (by omega)
      have l8 := sbL_631 hk (t := 7 - d) (by omega)
      have lh := heL_len hk (7 - (d + 1)) (by omega)
      have lt := tabL_516 hk ht
      have ls := strL_511 hk ht
      have ehe : heL F (7 - d) = heL F (7 - (d + 1)) ++ heT F (7 - (d + 1)) := by rw [← hn]; unfold heL; rw [flat_succ]
      have esb : sbL F (7 - d) = sbL F (7 - (d + 1)) ++ sbT F (7 - (d + 1)) := by rw [← hn]; unfold sbL; rw [flat_succ]
      have nx : ∀ S', S' = stX (stX Sx 64 (sbL F (7 - d))) 62 ([nI 119, nI 50, nI (cntT F 7)] ++ heL F (7 - d)) → X146 S' x50 x51 (nI (7 - (d + 1))) := fun S' e => x146 _ _ _ _ (fun x47 e47 => by
        rw [e47, nI_1, hn, e]; exact ih (by omega))
      generalize ht0 : 7 - (d + 1) = t at *
      refine x65 _ _ _ _ ⟨fun z => absurd z (nI_ge (b := 7) ht (by omega)), fun _ => ?_⟩
      refine sp_hasTable (cst _ _) hk ht (fun hb1 => ⟨fun z => absurd z (by decide), fun _ => ?_⟩) (fun hb0 => ⟨fun _ => nx _ ?_, fun z => absurd rfl z⟩)
      · have lg := longB_len (n := (tabL F t).length) (by omega)
        have lg2 := longB_len (n := (strL F t).length) (by omega)
        rw [rwId_nI ht]
        have esb' : sbT F t = strL F t := by unfold sbT; rw [if_pos hb1]
        rw [esb', ] at esb
        rw [esb, List.length_append] at l8
        have k128 : ∀ a, a.length ≤ 50 → a ++ longB (nI (strL F t).length) = [nI 119, nI 50, nI (cntT F 7)] ++ heL F (7 - d) → X128 (stX (stX Sx 64 (sbL F t)) 62 a) x50 x51 (nI t) (48 + 7 * j + t) := by
          intro a la ea
          refine x128 _ _ _ _ _ (fun S45 e45 => ⟨by unfold neRow; omega, fun S46 e46 => nx S46 ?_⟩)
          have e45' : S45 = stX (stX Sx 64 (sbL F t)) 62 ([nI 119, nI 50, nI (cntT F 7)] ++ heL F (7 - d)) := by
            rw [e45]; unfold rLong rLen
            rw [rst _ _ t ht, app62 _ _ _ (by omega), ea]
          rw [e46, e45']
          unfold rAddRow
          rw [rst _ _ t ht, app64 _ _ _ (by omega), esb]
        refine pk_le 2 t (fun h2 S41 e41 => ?_) (fun h2 S42 e42 => ?_) rfl
        · have e41' : S41 = stX (stX Sx 64 (sbL F t)) 62 ([nI 119, nI 50, nI (cntT F 7)] ++ heL F t ++ [nI t]) := by
            rw [e41]; unfold rAdd; rw [app62 _ _ _ (by simp only [List.length_append, List.length_cons, List.length_nil]; omega)]
          rw [e41']
          refine k128 _ (by simp only [List.length_append, List.length_cons, List.length_nil]; omega) ?_
          rw [ehe]; unfold heT; rw [if_pos hb1, if_neg (by omega)]; simp
        · have e42' : S42 = stX (stX Sx 64 (sbL F t)) 62 ([nI 119, nI 50, nI (cntT F 7)] ++ heL F t ++ [nI (64 + t)]) := by
            rw [e42]; unfold rAdd
            rw [app62 _ _ _ (by simp only [List.length_append, List.length_cons, List.length_nil]; omega), show nI t + 64 = nI (64 + t) by rw [Nat.add_comm]; exact nI_add t 64]
          have k116 : ∀ v, v = nI (tabL F t).length → X116 S42 x50 x51 (nI t) (48 + 7 * j + t) v := by
            intro v ev
            refine x116 _ _ _ _ _ _ (fun S44 e44 => ?_)
            have e44' : S44 = stX (stX Sx 64 (sbL F t)) 62 ([nI 119, nI 50, nI (cntT F 7)] ++ heL F t ++ [nI (64 + t)] ++ longB (nI (tabL F t).length)) := by
              rw [e44, e42']; unfold rLong
              rw [app62 _ _ _ (by simp only [List.length_append, List.length_cons, List.length_nil]; rw [ev]; omega), ev]
            rw [e44']
            refine k128 _ (by simp only [List.length_append, List.length_cons, List.length_nil]; omega) ?_
            rw [ehe]; unfold heT; rw [if_pos hb1, if_pos h2]; simp
          refine And.symm (pk_eq t 0 (fun t0 => k116 _ (by rw [t0]; exact e50')) (fun t0 => k116 _ (by rw [show t = 1 by omega]; exact e51')) rfl)
      · rw [ehe, esb]
        unfold heT sbT
        rw [hb0]; simp
  have := key 7 (Nat.le_refl 7)
  rw [Nat.sub_self] at this
  exact this
/-! the reference writes it -/
def kK (k p : Nat) : Prop := k = 29 ∨ k = 30 ∨ k = 31 ∨ (k = 9 ∧ (p = 0 ∨ p = 3 ∨ p = 4 ∨ p = 5 ∨ p = 6 ∨ p = 7))
theorem frK3 {S S1 : St} (h : fr (kL 29 3) S S1) : fr kK S S1 := h.mono (fun k p z => by unfold kL at z; unfold kK; omega)
theorem frK4 {S S1 : St} (h : fr (kL 30 4) S S1) : fr kK S S1 := h.mono (fun k p z => by unfold kL at z; unfold kK; omega)
theorem frK5 {S S1 : St} (h : fr (kL 31 5) S S1) : fr kK S S1 := h.mono (fun k p z => by unfold kL at z; unfold kK; omega)
theorem frKW {S S1 : St} (h : fr kW S S1) : fr kK S S1 := h.mono (fun k p z => by unfold kW at z; unfold kK; omega)
theorem sm_pack {S : St} {A : Ab} {P : Int32 → St → Prop} (hok : okA A) (hm : MA S A) (h1 : openF A.1 → P 0 (stM S 9 0 1))
    (h0 : ¬ openF A.1 → ∀ S2, mFr S S2 → S2.2.1 9 0 = 0 → MA S2 (A.1, packL A.1, A.2.2) → P (nI (packL A.1).length) S2) : wp_X11_pack S P := by
  intro X13 X57 X100 X126 x13 x57 x100 x126
  have hk := hok.1
  refine sm_open hm.1 hk (fun ho => ⟨fun z => absurd z (by decide), fun _ => x13 _ _ (fun S38 e38 => ?_)⟩) (fun ho => ⟨fun _ => x13 _ _ (fun S38 e38 => ?_), fun z => absurd rfl z⟩)
  · rw [e38, stM_self]
    exact ⟨fun z => absurd z (by decide), fun _ => h1 ho⟩
  refine ⟨fun _ S40 e40 S41 e41 => ?_, fun z => absurd (by rw [e38, stM_self]; decide) z⟩
  have hcl := closed_all hk ho
  generalize hF : A.1 = F at *
  have mFS : mF S F := by rw [← hF]; exact hm.1
  have f41 : fr kK S S41 := by
    rw [e41, e40, e38]
    exact fr_m (fr_m (fr_m (fr.refl S) (by unfold kK; omega)) (by unfold kK; omega)) (by unfold kK; omega)
  have z41 : S41.2.1 9 0 = 0 := by rw [e41, stM_p (by omega), e40, stM_p (by omega), e38, stM_self]
  have b41 : mL S41 29 3 [] := by
    rw [e41, e40]; exact ⟨by rw [stM_p (by omega), stM_self]; rfl, fun k hkk => by simp at hkk⟩
  have s41 : mL S41 30 4 [] := by
    rw [e41]; exact ⟨by rw [stM_self]; rfl, fun k hkk => by simp at hkk⟩
  have mk : ∀ {S'}, fr kK S S' → mF S' F := fun f => mFS.keep f (fun k p a b z => by unfold kK at z; omega) (fun z => by unfold kK at z; omega)
  have hc7 := cntT_le F 7
  have z3 : ∀ {S' S''}, S'.2.1 9 0 = 0 → fr (kL 29 3) S' S'' → S''.2.1 9 0 = 0 := fun h f => by rw [f.2.2 9 0 (by unfold kL; omega)]; exact h
  have z4 : ∀ {S' S''}, S'.2.1 9 0 = 0 → fr (kL 30 4) S' S'' → S''.2.1 9 0 = 0 := fun h f => by rw [f.2.2 9 0 (by unfold kL; omega)]; exact h
  have z5 : ∀ {S' S''}, S'.2.1 9 0 = 0 → fr (kL 31 5) S' S'' → S''.2.1 9 0 = 0 := fun h f => by rw [f.2.2 9 0 (by unfold kL; omega)]; exact h
  have s3 : ∀ {S' S'' L}, mL S' 30 4 L → fr (kL 29 3) S' S'' → mL S'' 30 4 L := fun h f => h.keep f (fun p z => by unfold kL at z; omega) (by unfold kL; omega)
  have s5 : ∀ {S' S'' L}, mL S' 30 4 L → fr (kL 31 5) S' S'' → mL S'' 30 4 L := fun h f => h.keep f (fun p z => by unfold kL at z; omega) (by unfold kL; omega)
  have b4 : ∀ {S' S'' L}, mL S' 29 3 L → fr (kL 30 4) S' S'' → mL S'' 29 3 L := fun h f => h.keep f (fun p z => by unfold kL at z; omega) (by unfold kL; omega)
  have b5 : ∀ {S' S'' L}, mL S' 29 3 L → fr (kL 31 5) S' S'' → mL S'' 29 3 L := fun h f => h.keep f (fun p z => by unfold kL at z; omega) (by unfold kL; omega)
  have p3 : ∀ {S' S'' L}, mL S' 31 5 L → fr (kL 29 3) S' S'' → mL S'' 31 5 L := fun h f => h.keep f (fun p z => by unfold kL at z; omega) (by unfold kL; omega)
  have key : ∀ d, d ≤ 7 → ∀ S', fr kK S S' → S'.2.1 9 0 = 0 → mL S' 29 3 ([nI 119, nI 50, nI (cntT F 7)] ++ heL F (7 - d)) → mL S' 30 4 (sbL F (7 - d)) → X57 S' (nI (7 - d)) := by
    intro d
    induction d with
    | zero =>
      intro _ S' f z hb hs
      have l7 := sbL_631 hk (t := 7) (by omega)
      have lh := heL_len hk 7 (by omega)
      rw [Nat.sub_zero] at hb hs ⊢
      refine x57 _ _ ⟨fun _ => ?_, fun z => absurd (by decide) z⟩
      refine sm_addLong (sbL F 7).length hs.1 (by omega) hb (by simp only [List.length_append, List.length_cons, List.length_nil]; omega) (fun S51 f51 h51 => ?_)
      have h51' : mL S51 29 3 (hdP F) := h51
      have lp := hdP_len hk
      refine sm_compress h51' (hdP_byt hk) (s3 hs f51) (by omega) (sbL_byt hk) (by omega) (fun S53 f53 h53 => ?_)
      have h53' : mL S53 29 3 (packL F) := h53
      rw [h53'.1]
      have fF : fr kK S S53 := (f.trans (frK3 f51)).trans (frKW f53)
      refine h0 ho S53 (fF.m (fun k p z => by unfold kK at z; omega)) ?_ (by rw [← hF]; exact MA_buf hm fF (fun k p z => by unfold kK at z; omega) (by rw [hF]; exact h53'))
      rw [f53.2.2 9 0 (by unfold kW; omega)]; exact z3 z f51
    | succ d ih =>
      intro hd S' f z hb hs
      have ht : 7 - (d + 1) < 7 := by omega
      have hn : 7 - (d + 1) + 1 = 7 - d := by omega
      have l7 := sbL_631 hk (t := 7 - (d + 1)) (by omega)
      have lq := sbL_len hk (7 - (d + 1)) (by omega)
      have lh := heL_len hk (7 - (d + 1)) (by omega)
      have lt := tabL_516 hk ht
      have ls := strL_511 hk ht
      have ehe : heL F (7 - d) = heL F (7 - (d + 1)) ++ heT F (7 - (d + 1)) := by rw [← hn]; unfold heL; rw [flat_succ]
      have esb : sbL F (7 - d) = sbL F (7 - (d + 1)) ++ sbT F (7 - (d + 1)) := by rw [← hn]; unfold sbL; rw [flat_succ]
      have nx : ∀ S'', fr kK S S'' → S''.2.1 9 0 = 0 → mL S'' 29 3 ([nI 119, nI 50, nI (cntT F 7)] ++ heL F (7 - d)) → mL S'' 30 4 (sbL F (7 - d)) → X126 S'' (nI (7 - (d + 1))) := fun S'' f z h1 h2 => x126 _ _ (fun x71 e71 => by
        rw [e71, nI_1, hn]; exact ih (by omega) S'' f z h1 h2)
      generalize ht0 : 7 - (d + 1) = t at *
      refine x57 _ _ ⟨fun z => absurd z (nI_ge (b := 7) ht (by omega)), fun _ => ?_⟩
      refine sm_has (mk f) hk ht (fun hb1 => ⟨fun z => absurd z (by decide), fun _ x58 e58 => ?_⟩) (fun hb0 => ⟨fun _ => nx S' f z ?_ ?_, fun z => absurd rfl z⟩)
      · have lg := longB_len (n := (tabL F t).length) (by omega)
        have lg2 := longB_len (n := (strL F t).length) (by omega)
        have esb' : sbT F t = strL F t := by unfold sbT; rw [if_pos hb1]
        rw [esb'] at esb
        refine sm_flowTable (mk f) hk ht hs (by split at lq <;> split <;> omega) (fun S59 f59 h59 => ?_)
        refine sm_layTable (mk (f.trans (frK4 f59))) hk hcl ht (fun S61 f61 h61 => ?_)
        have fa := (f.trans (frK4 f59)).trans (frK5 f61)
        have za := z5 (z4 z f59) f61
        have ba := b5 (b4 hb f59) f61
        have sa := s5 h59 f61
        rw [← esb] at sa
        have k100 : ∀ v m, v = nI m → m < 256 → m = (if t < 2 then 64 + t else t) → X100 S61 (nI t) x58 v := by
          intro v m ev hm1 hm2
          refine x100 _ _ _ _ (sm_addN m ev hm1 ba (by simp only [List.length_append, List.length_cons, List.length_nil]; omega) (fun S64 f64 h64 => ?_))
          have p64 := p3 h61 f64
          refine sm_addLong (tabL F t).length p64.1 (by omega) h64 (by simp only [List.length_append, List.length_cons, List.length_nil]; omega) (fun S66 f66 h66 => ?_)
          have fb := (fa.trans (frK3 f64)).trans (frK3 f66)
          have zb := z3 (z3 za f64) f66
          have sb := s3 (s3 sa f64) f66
          refine pk_le 2 t (fun h2 => nx S66 fb zb ?_ sb) (fun h2 => ?_) rfl
          · rw [ehe]; unfold heT
            rw [if_pos hb1, if_neg (by omega)]
            rw [hm2, if_neg (by omega)] at h66
            have : tabL F t = strL F t := by unfold tabL strL; rw [if_neg (by omega), if_neg (by omega), if_neg (by omega), if_neg (by omega)]
            rw [this] at h66
            simpa using h66
          · have ed : S66.2.1 9 4 - x58 = nI (strL F t).length := by
              rw [sb.1, e58, hs.1, esb, List.length_append, pk_sub (by omega)]
              congr 1; omega
            refine sm_addLong (strL F t).length ed (by omega) h66 (by simp only [List.length_append, List.length_cons, List.length_nil]; omega) (fun S69 f69 h69 => nx S69 (fb.trans (frK3 f69)) (z3 zb f69) ?_ (s3 sb f69))
            rw [ehe]; unfold heT
            rw [if_pos hb1, if_pos h2]
            rw [hm2, if_pos h2] at h69
            simpa using h69
        refine pk_le 2 t (fun h2 => k100 _ t rfl (by omega) (by rw [if_neg (by omega)])) (fun h2 => k100 _ (64 + t) (nI_add 64 t) (by omega) (by rw [if_pos h2])) rfl
      · rw [ehe]; unfold heT; rw [hb0]; simpa using hb
      · rw [esb]; unfold sbT; rw [hb0]; simpa using hs
  refine sm_addN 119 rfl (by omega) b41 (by simp) (fun S42 f42 h42 => ?_)
  refine sm_addN 50 rfl (by omega) h42 (by simp) (fun S44 f44 h44 => ?_)
  have f2 := (f41.trans (frK3 f42)).trans (frK3 f44)
  refine sm_tables (mk f2) hk ?_
  refine sm_addN (cntT F 7) rfl (by omega) h44 (by simp) (fun S48 f48 h48 => ?_)
  have := key 7 (Nat.le_refl 7) S48 (f2.trans (frK3 f48)) (z3 (z3 (z3 z41 f42) f44) f48) (by rw [Nat.sub_self]; simpa [heL] using h48) (by rw [Nat.sub_self]; simpa [sbL] using s3 (s3 (s3 s41 f42) f44) f48)
  rw [Nat.sub_self] at this
  exact this
theorem CA_to {S S2 : St} {A : Ab} {B' : List Int32} (hok : okA A) (hc : CA S A) (hn : ∀ k p, k < 9 → S2.2.1 k p = S.2.1 k p) (hr : ∀ r, r < 62 → r ≠ 48 + 7 * gw_fx S → r ≠ 48 + 7 * gw_fx S + 1 → S2.1 r = S.1 r) (hb : S2.1 62 = B') (hle : rowsLe S2) : CA S2 (A.1, B', A.2.2) := by
  obtain ⟨c1, c2, c3, c4, c5⟩ := hc
  have hj := gw_fx_le S
  have fx : gw_fx S2 = gw_fx S := fx_of (hn 3 1 (by omega))
  have sx : gw_sx S2 = gw_sx S := sx_of (hn 3 2 (by omega))
  refine ⟨hle, by rw [fx, sx]; exact c2, ?_, hb, by rw [hn 3 0 (by omega)]; exact c5⟩
  rw [fx]
  refine ⟨by rw [hn 1 _ (by omega)]; exact c3.1, fun g G e => ?_, fun t t1 t2 => by rw [hr _ (by omega) (by omega) (by omega)]; exact c3.2.2 t t1 t2⟩
  have hg := g_lt hok.1 e
  obtain ⟨a1, a2, a3, a4, a5⟩ := c3.2.1 g G e
  refine ⟨by rw [hn 0 _ (by omega)]; exact a1, by rw [hr _ (by omega) (by omega) (by omega)]; exact a2, by rw [hr _ (by omega) (by omega) (by omega)]; exact a3, by rw [hr _ (by omega) (by omega) (by omega)]; exact a4, by rw [hr _ (by omega) (by omega) (by omega)]; exact a5⟩
theorem op_pack {S : St} {Z : Int32 → Int32 → St → Prop} (h : Sim S) (hZ : ∀ k b S2, S2.2.1 9 0 = k → (k = 0 → S2.2.2.2 = b.toInt64) → Sim S2 → Z k b S2) : wp_L_pack S (fun k S1 => wp_X11_pack S1 (fun b S2 => Z k b S2)) := by
  obtain ⟨A, hk, hc, hm⟩ := h
  have hj := gw_fx_le S
  unfold wp_L_pack wp_X10_pack
  refine sp_refuse hk hc (fun ho => ?_) (fun ho => ⟨rfl, sm_pack hk hm (fun _ => hZ _ _ _ stM_self (fun z => absurd z (by decide)) (mo_thr hk hc hm)) (fun z => absurd ho z)⟩)
  refine sp_writePacked hc.2.2.1 hk.1 (closed_all hk.1 ho) hj hc.1 (fun S7 n7 r7 b7 l7 => ?_)
  have c7 := CA_to hk hc (fun k p h => n7 k p (by omega)) r7 b7 l7
  have m7 : MA S7 A := hm.cl (fun k p h1 h2 => n7 k p h2)
  have hlen : rLen S7 62 = nI (packL A.1).length := by unfold rLen; rw [b7]
  rw [hlen]
  refine sm_pack (A := A) hk (hm.cl (S1 := stO S7 (nI (packL A.1).length).toInt64) (fun k p h1 h2 => n7 k p h2)) (fun z => absurd z ho) (fun _ S2 f2 t2 hm2 => ?_)
  refine hZ _ _ _ t2 (fun _ => by rw [f2.2.1]; rfl) ⟨(A.1, packL A.1, A.2.2), ⟨hk.1, packL_ok hk.1⟩, ?_, hm2⟩
  exact CA.mo (S := stO S7 (nI (packL A.1).length).toInt64) c7 f2
