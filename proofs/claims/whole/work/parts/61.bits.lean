/-! bits: bytes that are full, and what is begun -/
abbrev Wr : Type := List Int32 × Nat × Nat
def pushB (w : Wr) (b : Nat) : Wr := if w.2.2 = 7 then (w.1 ++ [nI (2 * w.2.1 + b)], 0, 0) else (w.1, 2 * w.2.1 + b, w.2.2 + 1)
def pushs (w : Wr) (bs : List Nat) : Wr := bs.foldl pushB w
def wln (w : Wr) : Nat := 8 * w.1.length + w.2.2
def okW (w : Wr) : Prop := w.2.2 < 8 ∧ w.2.1 < 2 ^ w.2.2 ∧ ∀ b ∈ w.1, byt b
def bitsOf (v : Nat) : Nat → List Nat
  | 0 => []
  | n + 1 => (v / 2 ^ n % 2) :: bitsOf v n
theorem bitsOf_len (v : Nat) : ∀ n, (bitsOf v n).length = n
  | 0 => rfl
  | n + 1 => by simp [bitsOf, bitsOf_len v n]
theorem bitsOf_le (v : Nat) : ∀ n, ∀ b ∈ bitsOf v n, b ≤ 1
  | 0, b, h => by simp [bitsOf] at h
  | n + 1, b, h => by
    simp only [bitsOf, List.mem_cons] at h
    rcases h with h | h
    · omega
    · exact bitsOf_le v n b h
theorem pushs_app (w : Wr) (a b : List Nat) : pushs w (a ++ b) = pushs (pushs w a) b := List.foldl_append
theorem wln_push {w : Wr} {b : Nat} (h : okW w) : wln (pushB w b) = wln w + 1 := by
  unfold pushB wln
  split
  · simp; omega
  · simp; omega
theorem okW_push {w : Wr} {b : Nat} (h : okW w) (hb : b ≤ 1) : okW (pushB w b) := by
  obtain ⟨h1, h2, h3⟩ := h
  unfold pushB
  split
  · rename_i z
    rw [z] at h2
    refine ⟨by simp, by simp, fun x hx => ?_⟩
    simp only [List.mem_append, List.mem_singleton] at hx
    rcases hx with hx | hx
    · exact h3 x hx
    · rw [hx]; exact byt_nI (by omega)
  · refine ⟨by show w.2.2 + 1 < 8; omega, ?_, h3⟩
    show 2 * w.2.1 + b < 2 ^ (w.2.2 + 1)
    rw [Nat.pow_succ]; omega
theorem okW_pushs {bs : List Nat} : ∀ {w : Wr}, okW w → (∀ b ∈ bs, b ≤ 1) → okW (pushs w bs) ∧ wln (pushs w bs) = wln w + bs.length := by
  induction bs with
  | nil => intro w h _; exact ⟨h, rfl⟩
  | cons b t ih =>
    intro w h hb
    have h1 := okW_push h (hb b (by simp))
    have h2 := ih h1 (fun x hx => hb x (by simp [hx]))
    refine ⟨h2.1, ?_⟩
    show wln (pushs (pushB w b) t) = _
    rw [h2.2, wln_push h]; simp; omega
/-! the class's bit writer at c, over the buffer -/
def cW (S : St) (c : Nat) (w : Wr) : Prop := S.1 62 = w.1 ∧ S.2.1 (1000 + c) 0 = nI w.2.1 ∧ S.2.1 (1000 + c) 1 = nI w.2.2
def cwF (c : Nat) (S S2 : St) : Prop := S2.2.2 = S.2.2 ∧ (∀ q, q ≠ 62 → S2.1 q = S.1 q) ∧ ∀ k p, k ≠ 1000 + c → S2.2.1 k p = S.2.1 k p
theorem cwF.refl (c : Nat) (S : St) : cwF c S S := ⟨rfl, fun _ _ => rfl, fun _ _ _ => rfl⟩
theorem cwF.trans {c : Nat} {S S1 S2 : St} (h : cwF c S S1) (h2 : cwF c S1 S2) : cwF c S S2 := ⟨h2.1.trans h.1, fun q hq => (h2.2.1 q hq).trans (h.2.1 q hq), fun k p hk => (h2.2.2 k p hk).trans (h.2.2 k p hk)⟩
theorem shl31 : ∀ i, i < 32 → ((nI i &&& 31).toBitVec.smod 32).toNat = i := by decide +kernel
theorem bit_nI {v i : Nat} (hv : v < 2 ^ 31) (hi : i < 31) : (nI v >>> (nI i &&& 31)) &&& 1 = nI (v / 2 ^ i % 2) := by
  rw [pk_shrN hv _ i (shl31 i (by omega)), pk_andN (Nat.lt_of_le_of_lt (Nat.div_le_self _ _) (by omega)) 1 (by decide)]
theorem sp_addBits {S : St} {c v n : Nat} {w : Wr} {P : St → Prop} (hw : cW S c w) (ho : okW w) (hv : v < 2 ^ 31) (hn : n ≤ 31) (hc : wln w + n < 12000) (hP : ∀ S2, cwF c S S2 → cW S2 c (pushs w (bitsOf v n)) → P S2) : wp_X1_addBits S c 62 (nI v) (nI n) P := by
  intro X4 X64 x4 x64 x18 e18
  rw [e18]
  refine dn_loop (X := X4) (fun m S' => cwF c S S' ∧ ∃ w', cW S' c w' ∧ okW w' ∧ pushs w' (bitsOf v m) = pushs w (bitsOf v n) ∧ wln w' + m = wln w + n) (N := n) (fun S' ⟨f, w', h1, h2, h3, h4⟩ => x4 _ _ ⟨fun _ => hP S' f ?_, fun z => absurd (by decide) z⟩) (fun m S' hm ⟨f, w', h1, h2, h3, h4⟩ hx => x4 _ _ ⟨fun z => absurd z (nI_pos (by omega)), fun _ S11 e11 S12 e12 => ?_⟩) n S (Nat.le_refl n) ⟨cwF.refl c S, w, hw, ho, rfl, rfl⟩
  · rw [← h3]; exact h1
  · have hb : v / 2 ^ m % 2 ≤ 1 := by omega
    have hh : w'.2.1 < 256 := Nat.lt_of_lt_of_le h2.2.1 (Nat.pow_le_pow_right (n := 2) (by omega) (show w'.2.2 ≤ 8 by have := h2.1; omega))
    have hn8 := h2.1
    have e12' : S12 = stM (stM S' (1000 + c) 0 (nI (2 * w'.2.1 + v / 2 ^ m % 2))) (1000 + c) 1 (nI (w'.2.2 + 1)) := by
      rw [e12, e11, h1.2.1, bit_nI hv (by omega), stM_p (by omega), h1.2.2, nI_1]
      simp only [lit32, pk_mul, nI_add]
      rw [Nat.mul_comm w'.2.1 2]
    have f12 : cwF c S' S12 := by
      rw [e12']; exact ⟨rfl, fun _ _ => rfl, fun k p hk => by rw [stM_k hk, stM_k hk]⟩
    have hwl := wln_push (w := w') (b := v / 2 ^ m % 2) h2
    have hok := okW_push (w := w') (b := v / 2 ^ m % 2) h2 hb
    have g0 : S12.2.1 (1000 + c) 0 = nI (2 * w'.2.1 + v / 2 ^ m % 2) := by rw [e12', stM_p (by omega), stM_self]
    have g1 : S12.2.1 (1000 + c) 1 = nI (w'.2.2 + 1) := by rw [e12', stM_self]
    have gr : S12.1 62 = w'.1 := by rw [f12.2.1 62 |> fun _ => (by rw [e12'] : S12.1 = (stM (stM S' (1000 + c) 0 (nI (2 * w'.2.1 + v / 2 ^ m % 2))) (1000 + c) 1 (nI (w'.2.2 + 1))).1)]; exact h1.1
    have fin : ∀ S3, cwF c S' S3 → cW S3 c (pushB w' (v / 2 ^ m % 2)) → X64 S3 (nI m) := fun S3 f3 h => x64 _ _ (fun x17 e17 => by
      rw [e17]
      refine hx S3 ⟨f.trans f3, _, h, hok, ?_, by omega⟩
      rw [← h3]; rfl)
    refine And.symm (pk_eq (w'.2.2 + 1) 8 (fun z S14 e14 S15 e15 S16 e16 => ?_) (fun z => ?_) g1)
    · have e14' : S14 = stX S12 62 (w'.1 ++ [nI (2 * w'.2.1 + v / 2 ^ m % 2)]) := by
        rw [e14]; unfold rAdd
        rw [rApp_fit (by rw [gr]; unfold wln at h4 hc; show _ + 1 ≤ 1500; omega), gr, g0]
      refine fin S16 ⟨by rw [e16, e15, e14']; exact f12.1, fun q hq => by rw [e16, e15, e14']; show (stX S12 62 _).1 q = _; rw [stX_ne hq]; exact f12.2.1 q hq, fun k p hk => by rw [e16, e15, e14', stM_k hk, stM_k hk]; exact f12.2.2 k p hk⟩ ?_
      unfold pushB
      rw [if_pos (show w'.2.2 = 7 by omega)]
      refine ⟨by rw [e16, e15, e14']; exact (stX_at : (stX S12 62 (w'.1 ++ [nI (2 * w'.2.1 + v / 2 ^ m % 2)])).1 62 = _), by rw [e16, stM_p (by omega), e15, stM_self]; rfl, by rw [e16, stM_self]; rfl⟩
    · refine fin S12 f12 ?_
      unfold pushB
      rw [if_neg (show ¬ w'.2.2 = 7 by omega)]
      exact ⟨gr, g0, g1⟩
/-! gamma numbers -/
def gam (v : Nat) : List Nat := bitsOf 0 (Nat.log2 v) ++ bitsOf v (Nat.log2 v + 1)
theorem gam_len (v : Nat) : (gam v).length = 2 * Nat.log2 v + 1 := by unfold gam; rw [List.length_append, bitsOf_len, bitsOf_len]; omega
theorem gam_le (v : Nat) : ∀ b ∈ gam v, b ≤ 1 := fun b hb => by
  unfold gam at hb
  rcases List.mem_append.mp hb with h | h
  · exact bitsOf_le _ _ b h
  · exact bitsOf_le _ _ b h
theorem log2_le {v : Nat} (h1 : 1 ≤ v) (h : v < 1024) : Nat.log2 v ≤ 9 := by
  have := (Nat.log2_lt (n := v) (k := 10) (by omega)).mpr (by omega)
  omega
theorem log2_half {m : Nat} (h : 2 ≤ m) : Nat.log2 m = Nat.log2 (m / 2) + 1 := by
  rw [Nat.log2_def, if_pos h]
theorem sp_addGamma {S : St} {c v : Nat} {w : Wr} {P : St → Prop} (hw : cW S c w) (ho : okW w) (h1 : 1 ≤ v) (hv : v < 1024) (hc : wln w + 19 < 12000) (hP : ∀ S2, cwF c S S2 → cW S2 c (pushs w (gam v)) → P S2) : wp_X1_addGamma S c 62 (nI v) P := by
  intro X6 x6 x16 e16
  have hl := log2_le h1 hv
  have fin : X6 S (nI (Nat.log2 v)) 0 := by
    refine x6 _ _ _ ⟨fun _ => ?_, fun z => absurd (by decide) z⟩
    have o1 := okW_pushs (bs := bitsOf 0 (Nat.log2 v)) ho (bitsOf_le _ _)
    rw [bitsOf_len] at o1
    refine sp_addBits (v := 0) hw ho (by omega) (by omega) (by omega) (fun S10 f10 h10 => ?_)
    rw [nI_1]
    refine sp_addBits h10 o1.1 (by omega) (by omega) (by omega) (fun S12 f12 h12 => hP S12 (f10.trans f12) ?_)
    rw [← pushs_app] at h12
    exact h12
  have key : ∀ m i : Nat, m < 1024 → (m = 0 → i = Nat.log2 v) → (1 ≤ m → i + Nat.log2 m + 1 = Nat.log2 v) → X6 S (nI i) (nI m) := by
    intro m
    induction m using Nat.strongRecOn with
    | ind m ih =>
      intro i hm h0 h2
      by_cases z : m = 0
      · rw [h0 z, z]; exact fin
      · refine x6 _ _ _ ⟨fun q => absurd q (nI_ge (b := m) (a := 0) (by omega) (by omega)), fun _ x14 e14 x15 e15 => ?_⟩
        rw [e14, e15, nI_1, dv2 (by omega)]
        refine ih (m / 2) (by omega) (i + 1) (by omega) (fun q => ?_) (fun q => ?_)
        · have hm1 : m = 1 := by omega
          have := h2 (by omega)
          rw [hm1, show Nat.log2 1 = 0 by decide] at this; omega
        · have := h2 (by omega)
          rw [log2_half (by omega)] at this; omega
  rw [e16, dv2 (by omega)]
  refine key (v / 2) 0 (by omega) (fun q => ?_) (fun q => ?_)
  · have hv1 : v = 1 := by omega
    rw [hv1]; decide
  · rw [log2_half (show 2 ≤ v by omega)]; omega
def fillN (n : Nat) : Nat := if n = 0 then 0 else 8 - n
theorem sp_fillByte {S : St} {c : Nat} {w : Wr} {P : St → Prop} (hw : cW S c w) (ho : okW w) (hc : wln w + 8 < 12000) (hP : ∀ S2, cwF c S S2 → cW S2 c (pushs w (bitsOf 0 (fillN w.2.2))) → P S2) : wp_X1_fillByte S c 62 P := by
  unfold wp_X1_fillByte wp_X1_fillByte_19
  have h8 := ho.1
  refine pk_le w.2.2 0 (fun z => ?_) (fun z => ?_) hw.2.2
  · unfold fillN at hP; rw [if_pos (by omega)] at hP
    exact hP S (cwF.refl c S) hw
  · unfold fillN at hP; rw [if_neg (by omega)] at hP
    rw [hw.2.2, show (8 : Int32) - nI w.2.2 = nI (8 - w.2.2) from pk_sub (a := 8) (by omega)]
    exact sp_addBits (v := 0) hw ho (by omega) (by omega) (by omega) hP
/-! the reference's -/
def mW (S : St) (w : Wr) : Prop := mL S 29 3 w.1 ∧ S.2.1 9 6 = nI w.2.1 ∧ S.2.1 9 7 = nI w.2.2
def kW (k p : Nat) : Prop := k = 29 ∨ (k = 9 ∧ (p = 3 ∨ p = 6 ∨ p = 7))
theorem fr_m {K : Nat → Nat → Prop} {S S1 : St} {k p : Nat} {v : Int32} (h : fr K S S1) (hK : K k p) : fr K S (stM S1 k p v) := ⟨h.1, h.2.1, fun k' p' hn => by rw [stM_get, if_neg (fun z => hn (by rw [z.1, z.2]; exact hK))]; exact h.2.2 k' p' hn⟩
theorem sm_bit {S : St} {w : Wr} {b : Nat} {P : St → Prop} (hw : mW S w) (ho : okW w) (hb : b ≤ 1) (hc : wln w < 11990) (hP : ∀ S2, fr kW S S2 → mW S2 (pushB w b) → P S2) : wp_X11_bit S (nI b) P := by
  have hn8 := ho.1
  have hh : w.2.1 < 256 := Nat.lt_of_lt_of_le ho.2.1 (Nat.pow_le_pow_right (n := 2) (by omega) (show w.2.2 ≤ 8 by omega))
  intro S8 e8 S9 e9
  have e9' : S9 = stM (stM S 9 6 (nI (2 * w.2.1 + b))) 9 7 (nI (w.2.2 + 1)) := by
    rw [e9, e8, hw.2.1, stM_p (by omega), hw.2.2, nI_1]
    simp only [lit32, pk_mul, nI_add]
  have f9 : fr kW S S9 := by
    rw [e9']; exact fr_m (fr_m (fr.refl S) (by unfold kW; omega)) (by unfold kW; omega)
  have g6 : S9.2.1 9 6 = nI (2 * w.2.1 + b) := by rw [e9', stM_p (by omega), stM_self]
  have g7 : S9.2.1 9 7 = nI (w.2.2 + 1) := by rw [e9', stM_self]
  have gL : mL S9 29 3 w.1 := by
    rw [e9']
    refine ⟨by rw [stM_p (by omega), stM_p (by omega)]; exact hw.1.1, fun k hk => by rw [stM_k (by omega), stM_k (by omega)]; exact hw.1.2 k hk⟩
  refine And.symm (pk_eq (w.2.2 + 1) 8 (fun z => ?_) (fun z => ?_) g7)
  · have h128 : w.2.1 < 128 := by
      have := ho.2.1
      rw [show w.2.2 = 7 by omega] at this; omega
    refine sm_addN (2 * w.2.1 + b) g6 (by omega) gL (by unfold wln at hc; omega) (fun S11 f11 h11 S13 e13 S14 e14 => ?_)
    have f11' : fr kW S9 S11 := f11.mono (fun k p z => by unfold kL at z; unfold kW; omega)
    refine hP S14 ?_ ?_
    · rw [e14, e13]; exact fr_m (fr_m (f9.trans f11') (by unfold kW; omega)) (by unfold kW; omega)
    · unfold pushB
      rw [if_pos (show w.2.2 = 7 by omega), e14, e13]
      refine ⟨⟨by rw [stM_p (by omega), stM_p (by omega)]; exact h11.1, fun k hk => by rw [stM_k (by omega), stM_k (by omega)]; exact h11.2 k hk⟩, by rw [stM_p (by omega), stM_self]; rfl, by rw [stM_self]; rfl⟩
  · refine hP S9 f9 ?_
    unfold pushB
    rw [if_neg (show ¬ w.2.2 = 7 by omega)]
    exact ⟨gL, g6, g7⟩
theorem sm_bits {S : St} {v n : Nat} {w : Wr} {P : St → Prop} (hw : mW S w) (ho : okW w) (hv : v < 2 ^ 31) (hn : n ≤ 31) (hc : wln w + n < 11990) (hP : ∀ S2, fr kW S S2 → mW S2 (pushs w (bitsOf v n)) → P S2) : wp_X11_bits S (nI v) (nI n) P := by
  intro X4 x4 x18 e18
  rw [e18]
  refine dn_loop (X := X4) (fun m S' => fr kW S S' ∧ ∃ w', mW S' w' ∧ okW w' ∧ pushs w' (bitsOf v m) = pushs w (bitsOf v n) ∧ wln w' + m = wln w + n) (N := n) (fun S' ⟨f, w', h1, h2, h3, h4⟩ => x4 _ _ ⟨fun _ => hP S' f ?_, fun z => absurd (by decide) z⟩) (fun m S' hm ⟨f, w', h1, h2, h3, h4⟩ hx => x4 _ _ ⟨fun z => absurd z (nI_pos (by omega)), fun _ => ?_⟩) n S (Nat.le_refl n) ⟨fr.refl S, w, hw, ho, rfl, rfl⟩
  · rw [← h3]; exact h1
  · rw [bit_nI hv (by omega)]
    refine sm_bit h1 h2 (by omega) (by omega) (fun S7 f7 h7 x9 e9 => ?_)
    rw [e9]
    have hwl := wln_push (w := w') (b := v / 2 ^ m % 2) h2
    refine hx S7 ⟨f.trans f7, _, h7, okW_push h2 (by omega), ?_, by omega⟩
    rw [← h3]; rfl
theorem sm_gamma {S : St} {v : Nat} {w : Wr} {P : St → Prop} (hw : mW S w) (ho : okW w) (h1 : 1 ≤ v) (hv : v < 1024) (hc : wln w + 19 < 11990) (hP : ∀ S2, fr kW S S2 → mW S2 (pushs w (gam v)) → P S2) : wp_X11_gamma S (nI v) P := by
  intro X2 x2
  have hl := log2_le h1 hv
  have sl := Nat.log2_self_le (n := v) (by omega)
  have su := Nat.lt_log2_self (n := v)
  have key : ∀ d i : Nat, i + d = Nat.log2 v → X2 S (nI i) := by
    intro d
    induction d with
    | zero =>
      intro i hi
      have ei : i = Nat.log2 v := by omega
      subst ei
      have e1 : v / 2 ^ Nat.log2 v = 1 := by
        have p := Nat.two_pow_pos (Nat.log2 v)
        have h3 : v < 2 ^ Nat.log2 v * 2 := by rw [← Nat.pow_succ]; exact su
        have h4 : v / 2 ^ Nat.log2 v < 2 := Nat.div_lt_of_lt_mul h3
        have h5 : 1 ≤ v / 2 ^ Nat.log2 v := (Nat.le_div_iff_mul_le p).mpr (by omega)
        omega
      refine x2 _ _ ⟨fun _ => ?_, fun z => absurd ?_ z⟩
      · have o1 := okW_pushs (bs := bitsOf 0 (Nat.log2 v)) ho (bitsOf_le _ _)
        rw [bitsOf_len] at o1
        refine sm_bits (v := 0) hw ho (by omega) (by omega) (by omega) (fun S10 f10 h10 => ?_)
        rw [nI_1]
        refine sm_bits h10 o1.1 (by omega) (by omega) (by omega) (fun S12 f12 h12 => hP S12 (f10.trans f12) ?_)
        rw [← pushs_app] at h12
        exact h12
      · rw [pk_shrN (by omega) _ (Nat.log2 v) (shl31 _ (by omega)), e1]; decide
    | succ d ih =>
      intro i hi
      have e2 : 2 ≤ v / 2 ^ i := by
        have p := Nat.two_pow_pos i
        refine (Nat.le_div_iff_mul_le p).mpr ?_
        have h3 : 2 * 2 ^ i = 2 ^ (i + 1) := by rw [Nat.pow_succ]; omega
        rw [h3]
        exact Nat.le_trans (Nat.pow_le_pow_right (by omega) (by omega)) sl
      have e3 : v / 2 ^ i ≤ v := Nat.div_le_self _ _
      refine x2 _ _ ⟨fun z => absurd z ?_, fun _ x12 e12 => ?_⟩
      · rw [pk_shrN (by omega) _ i (shl31 _ (by omega))]
        exact nI_ge (b := v / 2 ^ i) (a := 1) (by omega) (by omega)
      · rw [e12, nI_1]; exact ih (i + 1) (by omega)
  exact key (Nat.log2 v) 0 (by omega)
