/-! the check, the fill, the plain font -/
def va32 (b : Int32) : Nat := b.toNatClampNeg
theorem byt_va {b : Int32} (h : byt b) : b = nI (va32 b) ∧ va32 b < 256 := by
  obtain ⟨n, hn, rfl⟩ := h
  unfold va32
  rw [nI_clamp (by omega)]
  exact ⟨rfl, hn⟩
def sumN (L : List Int32) : Nat → Nat
  | 0 => 0
  | n + 1 => sumN L n + va32 (L.getD n 0) * 2 ^ (24 - 8 * (n % 4))
def filN (n : Nat) : Nat := (4 - n % 4) % 4
theorem byt0 : byt 0 := ⟨0, by omega, rfl⟩
theorem byt_getD {L : List Int32} (h : ∀ b ∈ L, byt b) (k : Nat) : byt (L.getD k 0) := by
  by_cases hk : k < L.length
  · rw [List.getD_eq_getElem?_getD, List.getElem?_eq_getElem hk]; exact h _ (List.getElem_mem hk)
  · rw [getD_big (by omega)]; exact byt0
theorem shl_lit : ∀ k, k < 4 → ((((24 : Int32) - (nI k * 8)) &&& 31).toBitVec.smod 32).toNat = 24 - 8 * k := by decide +kernel
theorem sp_checkOf {S : St} {r : Nat} {L : List Int32} {P : Int32 → St → Prop} (hr : S.1 r = L) (hl : L.length < 2 ^ 30) (hb : ∀ b ∈ L, byt b) (h : P (nI (sumN L L.length)) S) : wp_X7_checkOf S r P := by
  intro X4 x4
  have hlen : rLen S r = nI L.length := by unfold rLen; rw [hr]
  have key : ∀ d, d ≤ L.length → X4 S (nI (sumN L (L.length - d))) (nI (L.length - d)) := by
    intro d
    induction d with
    | zero => intro _; exact x4 _ _ _ ⟨fun _ => h, fun z => absurd (by rw [hlen]; exact Int32.le_refl _) z⟩
    | succ d ih =>
      intro hd
      refine x4 _ _ _ ⟨fun z => absurd z (by rw [hlen]; exact nI_ge (by omega) (by omega)), fun _ x5 e5 x6 e6 => ?_⟩
      have hk4 : (L.length - (d + 1)) % 4 < 4 := Nat.mod_lt _ (by omega)
      obtain ⟨hv, hv2⟩ := byt_va (byt_getD hb (L.length - (d + 1)))
      have e1 : nI (L.length - (d + 1)) - nI (L.length - (d + 1)) / 4 * 4 = nI ((L.length - (d + 1)) % 4) := pk_rem (d := 4) (by omega) (by omega) (by omega)
      have e2 : 2 ^ (24 - 8 * ((L.length - (d + 1)) % 4)) ≤ 2 ^ 24 := Nat.pow_le_pow_right (by omega) (by omega)
      have e3 : va32 (L.getD (L.length - (d + 1)) 0) * 2 ^ (24 - 8 * ((L.length - (d + 1)) % 4)) < 2 ^ 32 := by
        have := Nat.mul_le_mul (show va32 (L.getD (L.length - (d + 1)) 0) ≤ 255 by omega) e2
        omega
      rw [e1, rGet_nI (by omega), hr, hv, pk_shlN _ _ (shl_lit _ hk4) e3, nI_add] at e5
      rw [e5, e6, nI_1, show L.length - (d + 1) + 1 = L.length - d by omega]
      have := ih (by omega)
      have es : sumN L (L.length - d) = sumN L (L.length - (d + 1)) + va32 (L.getD (L.length - (d + 1)) 0) * 2 ^ (24 - 8 * ((L.length - (d + 1)) % 4)) := by
        rw [show L.length - d = L.length - (d + 1) + 1 by omega]; rfl
      rw [es] at this
      exact this
  have := key L.length (Nat.le_refl _)
  rw [Nat.sub_self] at this
  exact this
theorem fill_lit : ∀ n, n < 521 → (-(nI n) - -(nI n) / 4 * 4 = 0 → n % 4 = 0) ∧ (0 ≤ (-(nI n) ^^^ 4) → n % 4 = 0 ∧ -(nI n) - -(nI n) / 4 * 4 = 0) ∧ (¬ (-(nI n) - -(nI n) / 4 * 4 = 0) → (-(nI n) - -(nI n) / 4 * 4) + 4 = nI ((4 - n % 4) % 4)) := by decide +kernel
theorem sp_fillOf {S : St} {r n : Nat} {P : Int32 → St → Prop} (hr : rLen S r = nI n) (hn : n < 521) (h : P (nI (filN n)) S) : wp_X7_fillOf S r P := by
  unfold wp_X7_fillOf wp_J9_floorMod_7cf53 wp_J9_floorMod_7cf53_18
  rw [hr]
  obtain ⟨f1, f2, f3⟩ := fill_lit n hn
  unfold filN at h
  have z0 : n % 4 = 0 → nI ((4 - n % 4) % 4) = 0 := fun z => by rw [z]; rfl
  refine ⟨by decide, fun x4 e4 => ⟨fun q => ?_, fun q => ⟨fun q2 => ?_, fun q2 => ?_⟩⟩⟩
  · obtain ⟨g1, g2⟩ := f2 q
    rw [e4, g2, ← z0 g1]; exact h
  · rw [q2]
    rw [← z0 (f1 (by rw [← e4]; exact q2))]; exact h
  · rw [e4]
    rw [f3 (by rw [← e4]; exact q2)]; exact h
def pad (L : List Int32) : List Int32 := L ++ List.replicate (filN L.length) 0
theorem pad_len (L : List Int32) : (pad L).length = L.length + filN L.length := by simp [pad]
theorem pad_mod (n : Nat) : (n + filN n) % 4 = 0 := by unfold filN; omega
theorem filN_lt (n : Nat) : filN n < 4 := by unfold filN; omega
def entL (F : Fo) (t b : Nat) : List Int32 := if hasT F t then nI t :: (numB ((nI (sumN (tabL F t) (tabL F t).length)).toInt64) 4 ++ numB ((nI b).toInt64) 2 ++ numB ((nI (tabL F t).length).toInt64) 2) else []
def begN (F : Fo) : Nat → Nat
  | 0 => 1 + 9 * cntT F 7
  | t + 1 => begN F t + (if hasT F t then (tabL F t).length + filN (tabL F t).length else 0)
def hdL (F : Fo) (t : Nat) : List Int32 := (List.range t).flatMap (fun u => entL F u (begN F u))
def bdT (F : Fo) (u : Nat) : List Int32 := if hasT F u then pad (tabL F u) else []
def bdL (F : Fo) (t : Nat) : List Int32 := (List.range t).flatMap (bdT F)
def plainL (F : Fo) : List Int32 := nI (cntT F 7) :: (hdL F 7 ++ bdL F 7)
theorem T0_le {F : Fo} (hk : okF F) : (T0 F.1).length ≤ 516 := by
  have := T0_len hk.2.1 F.1.length
  rw [List.take_of_length_le (Nat.le_refl _)] at this
  have := hk.1
  omega
theorem tabL_len {F : Fo} (hk : okF F) {t : Nat} (ht : t < 7) : (tabL F t).length ≤ if t = 0 then 516 else if t = 1 then 24 else 20 := by
  unfold tabL
  split
  · exact T0_le hk
  · split
    · rw [T1_len]; have := hk.1; omega
    · exact (hk.2.2.2.2 t ht).1
theorem byt_nI {n : Nat} (h : n < 256) : byt (nI n) := ⟨n, h, rfl⟩
theorem ab_byt {x : Int32} (h : inS x) (h2 : x.toInt.natAbs ≤ 255) : byt (ab x) := ⟨x.toInt.natAbs, by omega, ab_nI h⟩
theorem stB_byt {x : Int32} (h : inS x) : ∀ b ∈ stB x, byt b := by
  intro b hb
  unfold stB at hb
  split at hb
  · simp at hb
  · split at hb
    · rename_i h2; simp at hb; rw [hb]; exact ab_byt h h2
    · exact byt_numB b hb
theorem rl_bd : ∀ (n : Nat) (l : List Nat), l.length ≤ 16 → (∀ x ∈ l, x ≤ 55) → ∀ x ∈ rl n l, x < 256 := by
  intro n
  induction n with
  | zero => intro l _ _ x hx; simp [rl] at hx
  | succ n ih =>
    intro l hl hb x hx
    cases l with
    | nil => simp [rl] at hx
    | cons f t =>
      simp only [rl, List.mem_append] at hx
      have hf := hb f (by simp)
      have hr := run_le f t
      simp at hl
      rcases hx with hx | hx
      · unfold emit at hx
        split at hx
        · simp at hx; omega
        · rw [List.mem_replicate] at hx; omega
      · exact ih _ (by simp; omega) (fun y hy => hb y (by simp; exact Or.inr (List.mem_of_mem_drop hy))) x hx
theorem lasts_bd : ∀ (sz : List Nat) (a : Nat), ∀ x ∈ lasts a sz, x ≤ a + sz.sum
  | [], _, x, h => by simp [lasts] at h
  | s :: t, a, x, h => by
    simp only [lasts, List.mem_cons] at h
    rcases h with h | h
    · simp; omega
    · have := lasts_bd t (a + s) x h
      simp; omega
theorem plG_byt {G : Gl} (hk : okG G) : ∀ b ∈ plG G, byt b := by
  have k1 := hk.1.1
  have k2 := hk.1.2.1
  have hbody : ∀ b ∈ bodyG G, byt b := by
    intro b hb
    unfold bodyG at hb
    simp only [List.mem_append, List.mem_cons, List.mem_map, List.mem_flatMap] at hb
    rcases hb with (((hb | ⟨x, hx, rfl⟩) | ⟨x, hx, rfl⟩) | ⟨p, _, hp⟩) | ⟨p, _, hp⟩
    · rw [hb]; exact byt_nI (by omega)
    · exact byt_nI (by have := lasts_bd _ _ x hx; omega)
    · refine byt_nI (rl_bd 16 (flL G) (by rw [flL_len]; omega) (fun y hy => ?_) x hx)
      simp only [flL, List.mem_map] at hy
      obtain ⟨p, _, rfl⟩ := hy
      exact flG_le G p
    · exact stB_byt (inS_stp hk.2.1 p) b hp
    · exact stB_byt (inS_stp hk.2.2.1 p) b hp
  intro b hb
  unfold plG at hb
  split at hb
  · simp at hb
  · rcases List.mem_append.mp hb with h | h
    · exact hbody b h
    · rw [List.mem_replicate] at h; rw [h.2]; exact byt0
theorem tabL_byt {F : Fo} (hk : okF F) {t : Nat} (ht : t < 7) : ∀ b ∈ tabL F t, byt b := by
  intro b hb
  unfold tabL at hb
  split at hb
  · simp only [T0, List.mem_flatMap] at hb
    obtain ⟨G, hG, hb⟩ := hb
    obtain ⟨g, hg⟩ := List.mem_iff_getElem?.mp hG
    exact plG_byt (hk.2.1 g G hg) b hb
  · split at hb
    · simp only [T1, List.mem_flatMap] at hb
      obtain ⟨i, _, hb⟩ := hb
      unfold adB at hb
      rcases List.mem_append.mp hb with h | h
      · exact byt_numB b h
      · exact byt_numB b h
    · exact (hk.2.2.2.2 t ht).2 b hb
/-! lengths -/
theorem ent_len (F : Fo) (t b : Nat) : (entL F t b).length = if hasT F t then 9 else 0 := by
  unfold entL
  split <;> simp [numB_len]
theorem hdL_len (F : Fo) : ∀ t, (hdL F t).length = 9 * cntT F t := by
  intro t
  induction t with
  | zero => rfl
  | succ t ih =>
    unfold hdL at ih ⊢
    rw [flat_succ, List.length_append, ih, ent_len, cntT_succ]
    split <;> omega
theorem bdL_len (F : Fo) : ∀ t, (bdL F t).length + (1 + 9 * cntT F 7) = begN F t := by
  intro t
  induction t with
  | zero => simp [bdL, begN]
  | succ t ih =>
    unfold bdL at ih ⊢
    rw [flat_succ, List.length_append]
    simp only [begN]
    rw [← ih]
    unfold bdT
    split
    · rw [pad_len]; omega
    · simp
theorem begN_le {F : Fo} (hk : okF F) : begN F 7 ≤ 64 + 516 + 24 + 100 := by
  have h : ∀ t, t < 7 → (if hasT F t then (tabL F t).length + filN (tabL F t).length else 0) ≤ if t = 0 then 516 else if t = 1 then 24 else 20 := by
    intro t ht
    have h1 := tabL_len hk ht
    have h2 : filN (tabL F t).length = (4 - (tabL F t).length % 4) % 4 := rfl
    split
    · split at h1
      · rename_i z; simp [z]; rw [← z]; omega
      · split at h1
        · rename_i z1 z; simp [z]; rw [← z]; omega
        · rename_i z1 z; simp [z, z1]; omega
    · omega
  have h0 := h 0 (by omega)
  have h1 := h 1 (by omega)
  have h2 := h 2 (by omega)
  have h3 := h 3 (by omega)
  have h4 := h 4 (by omega)
  have h5 := h 5 (by omega)
  have h6 := h 6 (by omega)
  have hc := cntT_le F 7
  simp only [begN]
  simp at h0 h1 h2 h3 h4 h5 h6
  omega
theorem begN_mono (F : Fo) : ∀ d t, begN F t ≤ begN F (t + d) := by
  intro d
  induction d with
  | zero => intro t; exact Nat.le_refl _
  | succ d ih =>
    intro t
    have := ih t
    rw [show t + (d + 1) = t + d + 1 by omega]
    simp only [begN]
    omega
theorem begN_b {F : Fo} (hk : okF F) {t : Nat} (ht : t ≤ 7) : begN F t ≤ 704 := by
  have := begN_mono F (7 - t) t
  rw [show t + (7 - t) = 7 by omega] at this
  have := begN_le hk
  omega
theorem cnt_mono (F : Fo) : ∀ d t, cntT F t ≤ cntT F (t + d) := by
  intro d
  induction d with
  | zero => intro t; exact Nat.le_refl _
  | succ d ih =>
    intro t
    have := ih t
    rw [show t + (d + 1) = t + d + 1 by omega, cntT_succ]
    omega
/-! the class writes the plain font -/
theorem sp_writePlain {S : St} {j : Nat} {F : Fo} {P : St → Prop} (hc : cF S j F) (hk : okF F) (hcl : ∀ (g : Nat) (G : Gl), F.1[g]? = some G → closed G) (hj : j ≤ 1) (hle : rowsLe S) (h : P (stX (stX (stX S (48 + 7 * j) (T0 F.1)) (48 + 7 * j + 1) (T1 F.1 F.1.length)) 62 (plainL F))) : wp_X7_writePlain S j 62 P := by
  intro X28 X97 X105 X140 x28 x97 x105 x140
  refine sp_makeTables hc hk hcl hj hle (fun S58 e58 => ?_)
  have hc7 := cntT_le F 7
  generalize hB : stX (stX S (48 + 7 * j) (T0 F.1)) (48 + 7 * j + 1) (T1 F.1 F.1.length) = Sb at *
  have cb : cF Sb j F := by rw [← hB]; exact cF_X (cF_X hc hk hj (by omega)) hk hj (by omega)
  have lb : rowsLe Sb := by
    rw [← hB]
    refine le_stX (le_stX hle (by rw [cap480 hj]; exact T0_le hk)) (by rw [cap481 hj, T1_len]; have := hk.1; omega)
  have rows : ∀ l t, t < 7 → (stX Sb 62 l).1 (48 + 7 * j + t) = tabL F t := by
    intro l t ht
    rw [stX_ne (by omega)]
    unfold tabL
    split
    · rename_i z; rw [z, ← hB, stX_ne (by omega), Nat.add_zero, stX_at]
    · split
      · rename_i z; rw [z, ← hB, stX_at]
      · exact cb.2.2 t (by omega) ht
  have cl : ∀ l, cF (stX Sb 62 l) j F := fun l => cF_X cb hk hj (by omega)
  have app : ∀ a b, a.length + b.length ≤ 1500 → rApp (stX Sb 62 a) 62 b = stX Sb 62 (a ++ b) := fun a b hl => by
    rw [rApp_fit (by rw [stX_at]; exact hl), stX_at, stX_stX]
  have rw7 : ∀ (S' : St) t, t < 7 → rwId S' j (nI t) = 48 + 7 * j + t := fun S' t ht => rwId_nI ht
  have h105 : ∀ d, d ≤ 7 → X105 (stX Sb 62 (nI (cntT F 7) :: (hdL F 7 ++ bdL F (7 - d)))) (nI (7 - d)) := by
    intro d
    induction d with
    | zero => intro _; exact x105 _ _ ⟨fun _ => h, fun z => absurd (by decide) z⟩
    | succ d ih =>
      intro hd
      have ht : 7 - (d + 1) < 7 := by omega
      have hn : 7 - (d + 1) + 1 = 7 - d := by omega
      have hbl := bdL_len F (7 - (d + 1))
      have hb := begN_b hk (t := 7 - (d + 1)) (by omega)
      have hbs := begN_b hk (t := 7 - d) (by omega)
      have hbl2 := bdL_len F (7 - d)
      have hhl := hdL_len F 7
      have ebd : bdL F (7 - d) = bdL F (7 - (d + 1)) ++ bdT F (7 - (d + 1)) := by
        rw [← hn]; unfold bdL; rw [flat_succ]
      have nx : ∀ S', S' = stX Sb 62 (nI (cntT F 7) :: (hdL F 7 ++ bdL F (7 - d))) → X140 S' (nI (7 - (d + 1))) := fun S' e => x140 _ _ (fun x55 e55 => by
        rw [e55, nI_1, hn, e]; exact ih (by omega))
      refine x105 _ _ ⟨fun z => absurd z (nI_ge (b := 7) ht (by omega)), fun _ => ?_⟩
      refine sp_hasTable (cl _) hk ht (fun hb1 => ⟨fun z => absurd z (by decide), fun _ => ?_⟩) (fun hb0 => ⟨fun _ => nx _ ?_, fun z => absurd rfl z⟩)
      · rw [rw7 _ _ ht]
        refine ⟨show 48 + 7 * j + (7 - (d + 1)) ≠ 62 by omega, fun S51 e51 => ?_⟩
        have ebt : bdT F (7 - (d + 1)) = pad (tabL F (7 - (d + 1))) := by unfold bdT; rw [if_pos hb1]
        have hpl := pad_len (tabL F (7 - (d + 1)))
        rw [ebd, List.length_append, ebt] at hbl2
        have e51' : S51 = stX Sb 62 (nI (cntT F 7) :: (hdL F 7 ++ bdL F (7 - (d + 1))) ++ tabL F (7 - (d + 1))) := by
          rw [e51]; unfold rAddRow; rw [rows _ _ ht, app _ _ (by simp only [List.length_cons, List.length_append]; omega)]
        rw [rw7 _ _ ht]
        have htl := tabL_len hk ht
        have htl2 : (tabL F (7 - (d + 1))).length < 521 := by split at htl; omega; split at htl <;> omega
        refine sp_fillOf (n := (tabL F (7 - (d + 1))).length) (by unfold rLen; rw [e51', rows _ _ ht]) htl2 (fun S54 e54 => nx S54 ?_)
        rw [e54]; unfold rZeros
        have hfl := filN_lt (tabL F (7 - (d + 1))).length
        rw [nI_clamp (by omega), e51', app _ _ (by simp only [List.length_cons, List.length_append, List.length_replicate]; omega), ebd, ebt]
        unfold pad
        simp
      · rw [ebd]
        unfold bdT
        rw [hb0]; simp
  have h28 : ∀ d, d ≤ 7 → X28 (stX Sb 62 (nI (cntT F 7) :: hdL F (7 - d))) (nI (begN F (7 - d))) (nI (7 - d)) := by
    intro d
    induction d with
    | zero =>
      intro _
      refine x28 _ _ _ ⟨fun _ => ?_, fun z => absurd (by decide) z⟩
      have := h105 7 (Nat.le_refl 7)
      rw [Nat.sub_self] at this
      simpa [bdL, nI_0] using this
    | succ d ih =>
      intro hd
      have ht : 7 - (d + 1) < 7 := by omega
      have hn : 7 - (d + 1) + 1 = 7 - d := by omega
      have hhl := hdL_len F (7 - (d + 1))
      have hcm := cnt_mono F (7 - (7 - (d + 1))) (7 - (d + 1))
      rw [show 7 - (d + 1) + (7 - (7 - (d + 1))) = 7 by omega] at hcm
      have hb := begN_b hk (t := 7 - (d + 1)) (by omega)
      have ehd : hdL F (7 - d) = hdL F (7 - (d + 1)) ++ entL F (7 - (d + 1)) (begN F (7 - (d + 1))) := by
        rw [← hn]; unfold hdL; rw [flat_succ]
      have ebn : begN F (7 - d) = begN F (7 - (d + 1)) + (if hasT F (7 - (d + 1)) then (tabL F (7 - (d + 1))).length + filN (tabL F (7 - (d + 1))).length else 0) := by
        rw [← hn]; rfl
      have nx : ∀ S' v, S' = stX Sb 62 (nI (cntT F 7) :: hdL F (7 - d)) → v = nI (begN F (7 - d)) → X97 S' v (nI (7 - (d + 1))) := fun S' v e ev => x97 _ _ _ (fun x46 e46 => by
        rw [e46, nI_1, hn, e, ev]; exact ih (by omega))
      refine x28 _ _ _ ⟨fun z => absurd z (nI_ge (b := 7) ht (by omega)), fun _ => ?_⟩
      refine sp_hasTable (cl _) hk ht (fun hb1 => ⟨fun z => absurd z (by decide), fun _ S37 e37 => ?_⟩) (fun hb0 => ⟨fun _ => nx _ _ ?_ ?_, fun z => absurd rfl z⟩)
      · rw [rw7 _ _ ht]
        have htl := tabL_len hk ht
        have htl2 : (tabL F (7 - (d + 1))).length < 521 := by split at htl; omega; split at htl <;> omega
        have bnd : (nI (cntT F 7) :: hdL F (7 - (d + 1))).length ≤ 64 := by rw [List.length_cons]; omega
        generalize hA : nI (cntT F 7) :: hdL F (7 - (d + 1)) = LA at *
        have e37' : S37 = stX Sb 62 (LA ++ [nI (7 - (d + 1))]) := by
          rw [e37]; unfold rAdd; rw [app _ _ (by simp; omega)]
        rw [e37']
        refine sp_checkOf (rows _ _ ht) (by omega) (tabL_byt hk ht) ⟨by unfold nnB; decide, fun S40 e40 => ⟨by unfold nnB; decide, fun S41 e41 => ⟨by unfold nnB; decide, fun S42 e42 => ?_⟩⟩⟩
        have e40' : S40 = stX Sb 62 (LA ++ [nI (7 - (d + 1))] ++ numB ((nI (sumN (tabL F (7 - (d + 1))) (tabL F (7 - (d + 1))).length)).toInt64) 4) := by
          rw [e40]; unfold rNum; rw [show (4 : Int32).toNatClampNeg = 4 from rfl, app _ _ (by simp [numB_len]; omega)]
        have e41' : S41 = stX Sb 62 (LA ++ [nI (7 - (d + 1))] ++ numB ((nI (sumN (tabL F (7 - (d + 1))) (tabL F (7 - (d + 1))).length)).toInt64) 4 ++ numB ((nI (begN F (7 - (d + 1)))).toInt64) 2) := by
          rw [e41]; unfold rNum; rw [e40', show (2 : Int32).toNatClampNeg = 2 from rfl, app _ _ (by simp [numB_len]; omega)]
        have er : ∀ l, rLen (stX Sb 62 l) (48 + 7 * j + (7 - (d + 1))) = nI (tabL F (7 - (d + 1))).length := fun l => by unfold rLen; rw [rows _ _ ht]
        have e42' : S42 = stX Sb 62 (nI (cntT F 7) :: hdL F (7 - d)) := by
          rw [e42]; unfold rNum
          rw [e41', er, show (2 : Int32).toNatClampNeg = 2 from rfl, app _ _ (by simp [numB_len]; omega), ehd]
          unfold entL
          rw [if_pos hb1, ← List.cons_append, hA]
          simp
        refine sp_fillOf (n := (tabL F (7 - (d + 1))).length) (by rw [e42', er]) htl2 (fun x45 e45 => nx _ _ e42' ?_)
        rw [e45, e42', er, nI_add, nI_add, ebn, if_pos hb1]
      · rw [ehd]; unfold entL; rw [hb0]; simp
      · rw [ebn, hb0]; simp
  have c58 : cF S58 j F := by rw [e58]; exact cl []
  refine sp_tableCount c58 hk (fun S61 e61 => ?_)
  have e61' : S61 = stX Sb 62 [nI (cntT F 7)] := by
    rw [e61, e58]
    show rApp (stX Sb 62 []) 62 _ = _
    rw [app _ _ (by simp)]; rfl
  refine sp_tableCount (by rw [e61']; exact cl _) hk (fun x64 e64 => ?_)
  have e64' : x64 = nI (begN F 0) := by
    rw [e64]; simp only [lit32, pk_mul, nI_add, begN]
  rw [e64', e61']
  exact h28 7 (Nat.le_refl 7)
