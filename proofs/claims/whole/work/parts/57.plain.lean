/-! the reference writes the plain font -/
def kP (k p : Nat) : Prop := k = 29 ∨ k = 31 ∨ (k = 9 ∧ (p = 0 ∨ p = 3 ∨ p = 5))
theorem frB {S S1 : St} (h : fr (kL 29 3) S S1) : fr kP S S1 := h.mono (fun k p z => by unfold kL at z; unfold kP; omega)
theorem frP {S S1 : St} (h : fr (kL 31 5) S S1) : fr kP S S1 := h.mono (fun k p z => by unfold kL at z; unfold kP; omega)
theorem mF.kP {S S1 : St} {F : Fo} (h : mF S F) (hf : fr kP S S1) : mF S1 F := h.keep hf (fun k p a b z => by unfold Pilot.CFontPackerLaw_law_r1315_7517bb.kP at z; omega) (fun z => by unfold Pilot.CFontPackerLaw_law_r1315_7517bb.kP at z; omega)
theorem sm_addFour {S : St} {B : List Int32} {v : Int64} {P : St → Prop} (h : mL S 29 3 B) (hl : B.length + 4 ≤ 1500) (hP : ∀ S2, fr (kL 29 3) S S2 → mL S2 29 3 (B ++ numB v 4) → P S2) : wp_X11_addFour S v P := by
  intro X2 x2
  refine dn_loop (X := X2) (fun m S' => fr (kL 29 3) S S' ∧ mL S' 29 3 (B ++ (numB v 4).take (4 - m))) (N := 4) (fun S' ⟨f, hl'⟩ => x2 _ _ ⟨fun _ => hP S' f ?_, fun z => absurd (by decide) z⟩) (fun m S' hm ⟨f, hl'⟩ hk => x2 _ _ ⟨fun z => absurd z (nI_pos (by omega)), fun _ => ?_⟩) 4 S (Nat.le_refl 4) ⟨fr.refl _, by simpa using h⟩
  · rw [Nat.sub_zero, List.take_of_length_le (by rw [numB_len]; exact Nat.le_refl 4)] at hl'; exact hl'
  · refine sm_add hl' (by simp [numB_len]; omega) (fun S15 f15 h15 x17 e17 => ?_)
    rw [e17]
    refine hk S15 ⟨f.trans f15, ?_⟩
    have : (((v >>> ((8 * nI m).toInt64 &&& 63)) &&& 255).toInt32) = numByte v m := rfl
    rw [this, and255 (byt_numByte v m), List.append_assoc, numB_take hm] at h15
    exact h15
theorem getD_pad {L : List Int32} {m k : Nat} : (L ++ List.replicate m 0).getD k 0 = L.getD k 0 := by
  simp only [List.getD_eq_getElem?_getD, List.getElem?_append]
  split
  · rfl
  · rename_i h
    rw [List.getElem?_eq_none (l := L) (by omega)]
    by_cases h2 : k - L.length < m
    · rw [List.getElem?_replicate, if_pos h2]; rfl
    · rw [List.getElem?_replicate, if_neg h2]
theorem sumN_cong {L M : List Int32} (h : ∀ k, L.getD k 0 = M.getD k 0) : ∀ n, sumN L n = sumN M n := by
  intro n
  induction n with
  | zero => rfl
  | succ n ih => simp only [sumN, ih, h]
theorem sumN_ext (L : List Int32) : ∀ m, sumN L (L.length + m) = sumN L L.length := by
  intro m
  induction m with
  | zero => rfl
  | succ m ih =>
    rw [show L.length + (m + 1) = L.length + m + 1 by omega]
    simp only [sumN, ih]
    rw [getD_big (by omega)]
    simp [va32]
theorem sumN_pad (L : List Int32) : sumN (pad L) (pad L).length = sumN L L.length := by
  rw [pad_len, sumN_cong (L := pad L) (M := L) (fun k => getD_pad), sumN_ext]
theorem sumN_bd {L : List Int32} (hb : ∀ b ∈ L, byt b) : ∀ n, sumN L n ≤ n * 2 ^ 32 := by
  intro n
  induction n with
  | zero => simp [sumN]
  | succ n ih =>
    simp only [sumN]
    have h1 := (byt_va (byt_getD hb n)).2
    have e2 : 2 ^ (24 - 8 * (n % 4)) ≤ 2 ^ 24 := Nat.pow_le_pow_right (by omega) (by omega)
    have := Nat.mul_le_mul (show va32 (L.getD n 0) ≤ 255 by omega) e2
    omega
theorem sumN_four {L : List Int32} {k : Nat} (hk : k % 4 = 0) : sumN L (k + 4) = sumN L k + (((va32 (L.getD k 0) * 256 + va32 (L.getD (k + 1) 0)) * 256 + va32 (L.getD (k + 2) 0)) * 256 + va32 (L.getD (k + 3) 0)) := by
  simp only [sumN]
  rw [hk, show (k + 1) % 4 = 1 by omega, show (k + 2) % 4 = 2 by omega, show (k + 3) % 4 = 3 by omega]
  simp only [Nat.mul_zero, Nat.sub_zero, Nat.mul_one]
  rw [show 24 - 8 = 16 from rfl, show 24 - 8 * 2 = 8 from rfl, show 24 - 8 * 3 = 0 from rfl]
  omega
theorem four_sum {T : Nat} (hT : T < 2 ^ 62) : numB (lN T - lN T / 4294967296 * 4294967296) 4 = numB ((nI T).toInt64) 4 := by
  have e1 : (lN T - lN T / 4294967296 * 4294967296).toInt = (T : Int) % 4294967296 := by
    have eT : (lN T).toInt = (T : Int) := lg_ofNat_toInt (by omega)
    rw [Jvm.Kit.i64_rem_nonneg (by rw [eT]; omega), eT]
    rfl
  have e2 : ∃ q : Int, ((nI T).toInt64).toInt = (T : Int) - 4294967296 * q := by
    rw [Int32.toInt_toInt64]
    have : (nI T).toInt = (T : Int).bmod (2 ^ 32) := Int32.toInt_ofNat
    rw [this]
    refine ⟨(T : Int).bdiv (2 ^ 32), ?_⟩
    rw [Int.bmod_eq_self_sub_mul_bdiv]
    rfl
  obtain ⟨q, e2⟩ := e2
  rw [numB4, numB4]
  simp only [numByte_eq _ (show 3 < 8 by omega), numByte_eq _ (show 2 < 8 by omega), numByte_eq _ (show 1 < 8 by omega), numByte_eq _ (show 0 < 8 by omega), e1, e2]
  congr 1
  · congr 2; omega
  congr 1
  · congr 2; omega
  congr 1
  · congr 2; omega
  congr 1
  congr 2; omega
theorem four_two {b n : Nat} (hb : b < 10000) (hn : n < 65536) : numB ((nI b).toInt64 * 65536 + (nI n).toInt64) 4 = numB ((nI b).toInt64) 2 ++ numB ((nI n).toInt64) 2 := by
  have e1 : ((nI b).toInt64 * 65536 + (nI n).toInt64).toInt = (b : Int) * 65536 + n := by
    rw [nI_l (by omega), nI_l (by omega), show (65536 : Int64) = lN 65536 from rfl, lN_mul, lN_add, lN_toInt (by omega)]
    omega
  have e2 : ((nI b).toInt64).toInt = (b : Int) := by rw [Int32.toInt_toInt64, nI_toInt (by omega)]
  have e3 : ((nI n).toInt64).toInt = (n : Int) := by rw [Int32.toInt_toInt64, nI_toInt (by omega)]
  rw [numB4, numB2, numB2]
  simp only [numByte_eq _ (show 3 < 8 by omega), numByte_eq _ (show 2 < 8 by omega), numByte_eq _ (show 1 < 8 by omega), numByte_eq _ (show 0 < 8 by omega), e1, e2, e3]
  simp only [List.cons_append, List.nil_append]
  congr 1
  · congr 2; omega
  congr 1
  · congr 2; omega
  congr 1
  · congr 2; omega
  congr 1
  congr 2; omega
theorem mod4 {n : Nat} (h : n < 2 ^ 31) : nI n - nI n / 4 * 4 = nI (n % 4) := pk_rem (d := 4) h (by omega) (by omega)
theorem sm_plain {S : St} {A : Ab} {P : Int32 → St → Prop} (hok : okA A) (hm : MA S A) (h1 : openF A.1 → P 0 (stM S 9 0 1))
    (h0 : ¬ openF A.1 → ∀ S2, mFr S S2 → S2.2.1 9 0 = 0 → MA S2 (A.1, plainL A.1, A.2.2) → P (nI (plainL A.1).length) S2) : wp_X11_plain S P := by
  intro X13 X50 X74 X97 X205 X213 X232 X251 X275 x13 x50 x74 x97 x205 x213 x232 x251 x275
  have hk := hok.1
  refine sm_open hm.1 hk (fun ho => ⟨fun z => absurd z (by decide), fun _ => x13 _ _ (fun S49 e49 => ?_)⟩) (fun ho => ⟨fun _ => x13 _ _ (fun S49 e49 => ?_), fun z => absurd rfl z⟩)
  · rw [e49, stM_self]
    exact ⟨fun z => absurd z (by decide), fun _ => h1 ho⟩
  refine ⟨fun _ S51 e51 => ?_, fun z => absurd (by rw [e49, stM_self]; decide) z⟩
  have hcl : ∀ (g : Nat) (G : Gl), A.1.1[g]? = some G → closed G := fun g G e => by
    by_cases hl : g + 1 < A.1.1.length
    · exact hk.2.2.1 g G e hl
    · refine closed_of (hk.2.1 g G e) (fun z => ho ⟨G, ?_, z⟩)
      have := (List.getElem?_eq_some_iff.mp e).1
      rw [List.getLast?_eq_getElem?, show A.1.1.length - 1 = g by omega]
      exact e
  generalize hF : A.1 = F at *
  have f51 : fr kP S S51 := by
    rw [e51, e49]
    exact ⟨rfl, rfl, fun k p hn => by rw [stM_get, if_neg (fun z => hn (by unfold kP; omega)), stM_get, if_neg (fun z => hn (by unfold kP; omega))]⟩
  have z51 : S51.2.1 9 0 = 0 := by rw [e51, stM_p (by omega), e49, stM_self]
  have m51 : mL S51 29 3 [] := by
    rw [e51]; exact ⟨by rw [stM_self]; rfl, fun k hkk => by simp at hkk⟩
  have mFS : mF S F := by rw [← hF]; exact hm.1
  -- K: frame, error stays
  have mk : ∀ {S'}, fr kP S S' → mF S' F := fun f => mFS.kP f
  have hc7 := cntT_le F 7
  have e0 : ∀ {S' S''}, S'.2.1 9 0 = 0 → fr (kL 29 3) S' S'' → S''.2.1 9 0 = 0 := fun h f => by rw [f.2.2 9 0 (by unfold kL; omega)]; exact h
  have e0p : ∀ {S' S''}, S'.2.1 9 0 = 0 → fr (kL 31 5) S' S'' → S''.2.1 9 0 = 0 := fun h f => by rw [f.2.2 9 0 (by unfold kL; omega)]; exact h
  -- the tables, one behind the other
  have h213 : ∀ d, d ≤ 7 → ∀ S', fr kP S S' → S'.2.1 9 0 = 0 → mL S' 29 3 (nI (cntT F 7) :: (hdL F 7 ++ bdL F (7 - d))) → X213 S' (nI (7 - d)) := by
    intro d
    induction d with
    | zero =>
      intro _ S' f z hL
      refine x213 _ _ ⟨fun _ => ?_, fun z => absurd (by decide) z⟩
      rw [hL.1]
      refine h0 ho S' (f.m (fun k p z => by unfold kP at z; omega)) z ?_
      have := MA_buf hm f (fun k p z => by unfold kP at z; omega) hL
      rw [hF] at this
      exact this
    | succ d ih =>
      intro hd S' f z hL
      have ht : 7 - (d + 1) < 7 := by omega
      have hn : 7 - (d + 1) + 1 = 7 - d := by omega
      have hbs := begN_b hk (t := 7 - d) (by omega)
      have hbl2 := bdL_len F (7 - d)
      have hhl := hdL_len F 7
      have ebd : bdL F (7 - d) = bdL F (7 - (d + 1)) ++ bdT F (7 - (d + 1)) := by
        rw [← hn]; unfold bdL; rw [flat_succ]
      have nx : ∀ S'', fr kP S S'' → S''.2.1 9 0 = 0 → mL S'' 29 3 (nI (cntT F 7) :: (hdL F 7 ++ bdL F (7 - d))) → X275 S'' (nI (7 - (d + 1))) := fun S'' f z h => x275 _ _ (fun x e => by
        rw [e, nI_1, hn]; exact ih (by omega) S'' f z h)
      refine x213 _ _ ⟨fun z => absurd z (nI_ge (b := 7) ht (by omega)), fun _ => ?_⟩
      refine sm_has (mk f) hk ht (fun hb1 => ⟨fun z => absurd z (by decide), fun _ => ?_⟩) (fun hb0 => ⟨fun _ => nx _ f z ?_, fun z => absurd rfl z⟩)
      · have ebt : bdT F (7 - (d + 1)) = pad (tabL F (7 - (d + 1))) := by unfold bdT; rw [if_pos hb1]
        rw [ebd, List.length_append, ebt] at hbl2
        rw [ebd, ebt] at nx
        have hpl := pad_len (tabL F (7 - (d + 1)))
        have hpm := pad_mod (tabL F (7 - (d + 1))).length
        have hpb : ∀ b ∈ pad (tabL F (7 - (d + 1))), byt b := fun b hb => by
          rcases List.mem_append.mp hb with h | h
          · exact tabL_byt hk ht b h
          · rw [List.mem_replicate] at h; rw [h.2]; exact byt0
        have htl := tabL_len hk ht
        have htl2 : (tabL F (7 - (d + 1))).length < 521 := by split at htl; omega; split at htl <;> omega
        have hfl := filN_lt (tabL F (7 - (d + 1))).length
        refine sm_layTable (mk f) hk hcl ht (fun S84 f84 h84 => ?_)
        have cp : ∀ i, i ≤ (pad (tabL F (7 - (d + 1)))).length → ∀ S'', fr kP S S'' → S''.2.1 9 0 = 0 → mL S'' 31 5 (pad (tabL F (7 - (d + 1)))) → mL S'' 29 3 (nI (cntT F 7) :: (hdL F 7 ++ bdL F (7 - (d + 1))) ++ (pad (tabL F (7 - (d + 1)))).take ((pad (tabL F (7 - (d + 1)))).length - i)) → X251 S'' (nI (7 - (d + 1))) (nI ((pad (tabL F (7 - (d + 1)))).length - i)) := by
          intro i
          induction i with
          | zero =>
            intro _ S'' f z hp hb
            rw [Nat.sub_zero, List.take_of_length_le (Nat.le_refl _)] at hb
            refine x251 _ _ _ ⟨fun _ => nx _ f z (by simpa using hb), fun z => absurd (by rw [hp.1]; exact Int32.le_refl _) z⟩
          | succ i ihi =>
            intro hi S'' f z hp hb
            have hlt : (pad (tabL F (7 - (d + 1)))).length - (i + 1) < (pad (tabL F (7 - (d + 1)))).length := by omega
            refine x251 _ _ _ ⟨fun z => absurd z (by rw [hp.1]; exact nI_ge hlt (by omega)), fun _ => ⟨pk_in _ _ (show _ < 1100 by omega) rfl (by decide), ?_⟩⟩
            rw [nI_clamp (by omega), hp.2 _ hlt]
            refine sm_add hb (by simp only [List.length_append, List.length_cons, List.length_take]; omega) (fun S90 f90 h90 x92 e92 => ?_)
            rw [e92, nI_1, show (pad (tabL F (7 - (d + 1)))).length - (i + 1) + 1 = (pad (tabL F (7 - (d + 1)))).length - i by omega]
            refine ihi (by omega) S90 (f.trans (frB f90)) (e0 z f90) (hp.keep f90 (fun p z => by unfold kL at z; omega) (by unfold kL; omega)) ?_
            rw [and255 (byt_getD hpb _), List.append_assoc] at h90
            rw [show (pad (tabL F (7 - (d + 1)))).length - i = (pad (tabL F (7 - (d + 1)))).length - (i + 1) + 1 by omega, List.take_add_one, List.getElem?_eq_getElem hlt]
            rw [List.getD_eq_getElem?_getD, List.getElem?_eq_getElem hlt] at h90
            exact h90
        have pd : ∀ i, i ≤ filN (tabL F (7 - (d + 1))).length → ∀ S'', fr kP S S'' → S''.2.1 9 0 = 0 → mL S'' 29 3 (nI (cntT F 7) :: (hdL F 7 ++ bdL F (7 - (d + 1)))) → mL S'' 31 5 (tabL F (7 - (d + 1)) ++ List.replicate (filN (tabL F (7 - (d + 1))).length - i) 0) → X232 S'' (nI (7 - (d + 1))) := by
          intro i
          induction i with
          | zero =>
            intro _ S'' f z hb hp
            rw [Nat.sub_zero] at hp
            refine x232 _ _ ?_
            unfold st_X11_plain_232
            rw [hp.1, List.length_append, List.length_replicate, mod4 (by omega)]
            refine ⟨fun _ => ?_, fun z => absurd (by rw [hpm]; rfl) z⟩
            have := cp (pad (tabL F (7 - (d + 1)))).length (Nat.le_refl _) S'' f z hp (by rw [Nat.sub_self]; simpa using hb)
            rw [Nat.sub_self] at this
            exact this
          | succ i ihi =>
            intro hi S'' f z hb hp
            refine x232 _ _ ?_
            unfold st_X11_plain_232
            have hfd : filN (tabL F (7 - (d + 1))).length = (4 - (tabL F (7 - (d + 1))).length % 4) % 4 := rfl
            rw [hp.1, List.length_append, List.length_replicate, mod4 (by omega)]
            refine ⟨fun z => absurd z (nI_ne0 (by omega) (by omega)), fun _ => ?_⟩
            refine sm_lay hp (by simp only [List.length_append, List.length_replicate]; omega) (fun S87 f87 h87 => ihi (by omega) S87 (f.trans (frP f87)) (e0p z f87) (hb.keep f87 (fun p z => by unfold kL at z; omega) (by unfold kL; omega)) ?_)
            rw [and255 byt0, List.append_assoc, ← List.replicate_succ', show filN (tabL F (7 - (d + 1))).length - (i + 1) + 1 = filN (tabL F (7 - (d + 1))).length - i by omega] at h87
            exact h87
        exact pd (filN (tabL F (7 - (d + 1))).length) (Nat.le_refl _) S84 (f.trans (frP f84)) (e0p z f84) (hL.keep f84 (fun p z => by unfold kL at z; omega) (by unfold kL; omega)) (by rw [Nat.sub_self]; simpa using h84)
      · rw [ebd]; unfold bdT; rw [hb0]; simpa using hL
  -- the entries
  have h50 : ∀ d, d ≤ 7 → ∀ S', fr kP S S' → S'.2.1 9 0 = 0 → mL S' 29 3 (nI (cntT F 7) :: hdL F (7 - d)) → X50 S' (nI (begN F (7 - d))) (nI (7 - d)) := by
    intro d
    induction d with
    | zero =>
      intro _ S' f z hL
      refine x50 _ _ _ ⟨fun _ => ?_, fun z => absurd (by decide) z⟩
      have := h213 7 (Nat.le_refl 7) S' f z (by rw [Nat.sub_self]; simpa [bdL] using hL)
      rw [Nat.sub_self, nI_0] at this
      exact this
    | succ d ih =>
      intro hd S' f z hL
      have ht : 7 - (d + 1) < 7 := by omega
      have hn : 7 - (d + 1) + 1 = 7 - d := by omega
      have hhl := hdL_len F (7 - (d + 1))
      have hcm := cnt_mono F (7 - (7 - (d + 1))) (7 - (d + 1))
      rw [show 7 - (d + 1) + (7 - (7 - (d + 1))) = 7 by omega] at hcm
      have hb := begN_b hk (t := 7 - (d + 1)) (by omega)
      have ehd : hdL F (7 - d) = hdL F (7 - (d + 1)) ++ entL F (7 - (d + 1)) (begN F (7 - (d + 1))) := by
        rw [← hn]; unfold hdL; rw [flat_succ]
      have ebn : begN F (7 - d) = begN F (7 - (d + 1)) + (if hasT F (7 - (d + 1)) then (tabL F (7 - (d + 1))).length + filN (tabL F (7 - (d + 1))).length else 0) := by
        rw [← hn]; rfl
      have nx : ∀ S'' v, fr kP S S'' → S''.2.1 9 0 = 0 → mL S'' 29 3 (nI (cntT F 7) :: hdL F (7 - d)) → v = nI (begN F (7 - d)) → X205 S'' v (nI (7 - (d + 1))) := fun S'' v f z h ev => x205 _ _ _ (fun x e => by
        rw [e, nI_1, hn, ev]; exact ih (by omega) S'' f z h)
      refine x50 _ _ _ ⟨fun z => absurd z (nI_ge (b := 7) ht (by omega)), fun _ => ?_⟩
      refine sm_has (mk f) hk ht (fun hb1 => ⟨fun z => absurd z (by decide), fun _ => ?_⟩) (fun hb0 => ⟨fun _ => nx _ _ f z ?_ ?_, fun z => absurd rfl z⟩)
      · have hpl := pad_len (tabL F (7 - (d + 1)))
        have hpm := pad_mod (tabL F (7 - (d + 1))).length
        have hpb : ∀ b ∈ pad (tabL F (7 - (d + 1))), byt b := fun b hb => by
          rcases List.mem_append.mp hb with h | h
          · exact tabL_byt hk ht b h
          · rw [List.mem_replicate] at h; rw [h.2]; exact byt0
        have htl := tabL_len hk ht
        have htl2 : (tabL F (7 - (d + 1))).length < 521 := by split at htl; omega; split at htl <;> omega
        have hfl := filN_lt (tabL F (7 - (d + 1))).length
        have bnd : (nI (cntT F 7) :: hdL F (7 - (d + 1))).length ≤ 64 := by rw [List.length_cons]; omega
        have sbd := sumN_bd hpb
        refine sm_layTable (mk f) hk hcl ht (fun S63 f63 h63 x65 e65 => ?_)
        rw [h63.1] at e65
        have sm : ∀ i, 4 * i ≤ (pad (tabL F (7 - (d + 1)))).length → ∀ S'', fr kP S S'' → S''.2.1 9 0 = 0 → mL S'' 31 5 (pad (tabL F (7 - (d + 1)))) → mL S'' 29 3 (nI (cntT F 7) :: hdL F (7 - (d + 1))) → X97 S'' (nI (begN F (7 - (d + 1)))) (nI (7 - (d + 1))) x65 (lN (sumN (pad (tabL F (7 - (d + 1)))) ((pad (tabL F (7 - (d + 1)))).length - 4 * i))) (nI ((pad (tabL F (7 - (d + 1)))).length - 4 * i)) := by
          intro i
          induction i with
          | zero =>
            intro _ S'' f z hp hL'
            rw [Nat.mul_zero, Nat.sub_zero]
            refine x97 _ _ _ _ _ _ ⟨fun _ => ?_, fun z => absurd (by rw [hp.1]; exact Int32.le_refl _) z⟩
            have hs := sbd (pad (tabL F (7 - (d + 1)))).length
            refine sm_add hL' (by omega) (fun S70 f70 h70 => ?_)
            rw [and255 (byt_nI (by omega))] at h70
            refine sm_addFour h70 (by rw [List.length_append]; simp only [List.length_singleton]; omega) (fun S72 f72 h72 => ?_)
            rw [four_sum (by omega), sumN_pad] at h72
            rw [e65]
            refine sm_addFour h72 (by simp only [List.length_append, numB_len, List.length_singleton]; omega) (fun S74 f74 h74 x76 e76 => ?_)
            rw [four_two (by omega) (by omega)] at h74
            have f2 := (f.trans (frB f70)).trans ((frB f72).trans (frB f74))
            have hp4 : mL S74 31 5 (pad (tabL F (7 - (d + 1)))) := hp.keep ((f70.trans f72).trans f74) (fun p z => by unfold kL at z; omega) (by unfold kL; omega)
            refine nx S74 x76 f2 (e0 (e0 (e0 z f70) f72) f74) ?_ ?_
            · rw [ehd]
              unfold entL
              rw [if_pos hb1]
              simpa using h74
            · rw [e76, hp4.1, nI_add, ebn, if_pos hb1, hpl]
          | succ i ihi =>
            intro hi S'' f z hp hL'
            generalize hK : (pad (tabL F (7 - (d + 1)))).length - 4 * (i + 1) = K
            have hK4 : K % 4 = 0 := by omega
            have hKl : K + 3 < (pad (tabL F (7 - (d + 1)))).length := by omega
            refine x97 _ _ _ _ _ _ ⟨fun z => absurd z (by rw [hp.1]; exact nI_ge (by omega) (by omega)), fun _ => ?_⟩
            rw [show nI K + 1 = nI (K + 1) from nI_add K 1, show nI K + 2 = nI (K + 2) from nI_add K 2, show nI K + 3 = nI (K + 3) from nI_add K 3, show nI K + 4 = nI (K + 4) from nI_add K 4]
            rw [nI_clamp (by omega), nI_clamp (by omega), nI_clamp (by omega), nI_clamp (by omega), hp.2 K (by omega), hp.2 (K + 1) (by omega), hp.2 (K + 2) (by omega), hp.2 (K + 3) (by omega)]
            have iv : ∀ q, ((pad (tabL F (7 - (d + 1)))).getD q 0).toInt64 = lN (va32 ((pad (tabL F (7 - (d + 1)))).getD q 0)) := fun q => by
              obtain ⟨w1, w2⟩ := byt_va (byt_getD hpb q)
              conv => lhs; rw [w1]
              exact nI_l (by omega)
            refine ⟨pk_in _ _ (show _ < 1100 by omega) rfl (by decide), pk_in _ _ (show _ < 1100 by omega) rfl (by decide), pk_in _ _ (show _ < 1100 by omega) rfl (by decide), pk_in _ _ (show _ < 1100 by omega) rfl (by decide), fun x77 e77 x78 e78 => ?_⟩
            rw [iv, iv, iv, iv, show (256 : Int64) = lN 256 from rfl, lN_mul, lN_add, lN_mul, lN_add, lN_mul, lN_add, lN_add, ← sumN_four hK4] at e77
            rw [e77, e78]
            have := ihi (by omega) S'' f z hp hL'
            rw [show (pad (tabL F (7 - (d + 1)))).length - 4 * i = K + 4 by omega] at this
            exact this
        have pd : ∀ i, i ≤ filN (tabL F (7 - (d + 1))).length → ∀ S'', fr kP S S'' → S''.2.1 9 0 = 0 → mL S'' 29 3 (nI (cntT F 7) :: hdL F (7 - (d + 1))) → mL S'' 31 5 (tabL F (7 - (d + 1)) ++ List.replicate (filN (tabL F (7 - (d + 1))).length - i) 0) → X74 S'' (nI (begN F (7 - (d + 1)))) (nI (7 - (d + 1))) x65 := by
          intro i
          induction i with
          | zero =>
            intro _ S'' f z hb hp
            rw [Nat.sub_zero] at hp
            refine x74 _ _ _ _ ?_
            unfold st_X11_plain_74
            rw [hp.1, List.length_append, List.length_replicate, mod4 (by omega)]
            refine ⟨fun _ => ?_, fun z => absurd (by rw [hpm]; rfl) z⟩
            have := sm ((pad (tabL F (7 - (d + 1)))).length / 4) (by omega) S'' f z hp hb
            rw [show (pad (tabL F (7 - (d + 1)))).length - 4 * ((pad (tabL F (7 - (d + 1)))).length / 4) = 0 by omega] at this
            exact this
          | succ i ihi =>
            intro hi S'' f z hb hp
            refine x74 _ _ _ _ ?_
            unfold st_X11_plain_74
            have hfd : filN (tabL F (7 - (d + 1))).length = (4 - (tabL F (7 - (d + 1))).length % 4) % 4 := rfl
            rw [hp.1, List.length_append, List.length_replicate, mod4 (by omega)]
            refine ⟨fun z => absurd z (nI_ne0 (by omega) (by omega)), fun _ => ?_⟩
            refine sm_lay hp (by simp only [List.length_append, List.length_replicate]; omega) (fun S87 f87 h87 => ihi (by omega) S87 (f.trans (frP f87)) (e0p z f87) (hb.keep f87 (fun p z => by unfold kL at z; omega) (by unfold kL; omega)) ?_)
            rw [and255 byt0, List.append_assoc, ← List.replicate_succ', show filN (tabL F (7 - (d + 1))).length - (i + 1) + 1 = filN (tabL F (7 - (d + 1))).length - i by omega] at h87
            exact h87
        exact pd (filN (tabL F (7 - (d + 1))).length) (Nat.le_refl _) S63 (f.trans (frP f63)) (e0p z f63) (hL.keep f63 (fun p z => by unfold kL at z; omega) (by unfold kL; omega)) (by rw [Nat.sub_self]; simpa using h63)
      · rw [ehd]; unfold entL; rw [hb0]; simpa using hL
      · rw [ebn, hb0]; simp
  refine sm_tables (mk f51) hk (fun x54 e54 => ?_)
  refine sm_tables (mk f51) hk ?_
  refine sm_add m51 (by simp) (fun S57 f57 h57 => ?_)
  rw [and255 (byt_nI (by omega))] at h57
  have e54' : x54 = nI (begN F 0) := by rw [e54]; simp only [lit32, pk_mul, nI_add, begN]
  rw [e54']
  exact h50 7 (Nat.le_refl 7) S57 (f51.trans (frB f57)) (e0 z51 f57) (by rw [Nat.sub_self]; simpa [hdL] using h57)
theorem closed_all {F : Fo} (hk : okF F) (ho : ¬ openF F) : ∀ (g : Nat) (G : Gl), F.1[g]? = some G → closed G := fun g G e => by
  by_cases hl : g + 1 < F.1.length
  · exact hk.2.2.1 g G e hl
  · refine closed_of (hk.2.1 g G e) (fun z => ho ⟨G, ?_, z⟩)
    have := (List.getElem?_eq_some_iff.mp e).1
    rw [List.getLast?_eq_getElem?, show F.1.length - 1 = g by omega]
    exact e
theorem plainL_len {F : Fo} (hk : okF F) : (plainL F).length ≤ 1500 := by
  have h1 := hdL_len F 7
  have h2 := bdL_len F 7
  have h3 := begN_b hk (t := 7) (by omega)
  unfold plainL
  simp only [List.length_cons, List.length_append]
  omega
theorem plainL_byt {F : Fo} (hk : okF F) : ∀ b ∈ plainL F, byt b := by
  intro b hb
  have hc := cntT_le F 7
  unfold plainL at hb
  simp only [List.mem_cons, List.mem_append] at hb
  rcases hb with hb | hb | hb
  · rw [hb]; exact byt_nI (by omega)
  · simp only [hdL, List.mem_flatMap, List.mem_range] at hb
    obtain ⟨t, ht, hb⟩ := hb
    unfold entL at hb
    split at hb
    · simp only [List.mem_cons, List.mem_append] at hb
      rcases hb with hb | (hb | hb) | hb
      · rw [hb]; exact byt_nI (by omega)
      · exact byt_numB b hb
      · exact byt_numB b hb
      · exact byt_numB b hb
    · simp at hb
  · simp only [bdL, List.mem_flatMap, List.mem_range] at hb
    obtain ⟨t, ht, hb⟩ := hb
    unfold bdT at hb
    split at hb
    · rcases List.mem_append.mp hb with h | h
      · exact tabL_byt hk ht b h
      · rw [List.mem_replicate] at h; rw [h.2]; exact byt0
    · simp at hb
/-- rows 0 and 1 of the font are free -/
theorem CA_free {S : St} {A : Ab} {r : Nat} {l : List Int32} (hok : okA A) (hc : CA S A) (hr : r = 48 + 7 * gw_fx S ∨ r = 48 + 7 * gw_fx S + 1 ∨ 63 ≤ r) (hl : l.length ≤ gw_cap r) : CA (stX S r l) A := by
  obtain ⟨c1, c2, c3, c4, c5⟩ := hc
  have hj := gw_fx_le S
  have fx : gw_fx (stX S r l) = gw_fx S := rfl
  refine ⟨le_stX c1 hl, c2, ?_, by rw [stX_ne (by omega)]; exact c4, c5⟩
  rw [fx]
  exact cF_X c3 hok.1 hj (by omega)
theorem op_plain {S : St} {Z : Int32 → Int32 → St → Prop} (h : Sim S) (hZ : ∀ k b S2, S2.2.1 9 0 = k → (k = 0 → S2.2.2.2 = b.toInt64) → Sim S2 → Z k b S2) : wp_L_plain S (fun k S1 => wp_X11_plain S1 (fun b S2 => Z k b S2)) := by
  obtain ⟨A, hk, hc, hm⟩ := h
  have hj := gw_fx_le S
  unfold wp_L_plain wp_X10_plain
  refine sp_refuse hk hc (fun ho => ?_) (fun ho => ⟨rfl, sm_plain hk hm (fun _ => hZ _ _ _ stM_self (fun z => absurd z (by decide)) (mo_thr hk hc hm)) (fun z => absurd ho z)⟩)
  refine sp_writePlain hc.2.2.1 hk.1 (closed_all hk.1 ho) hj hc.1 ?_
  have h1 : CA (stX S (48 + 7 * gw_fx S) (T0 A.1.1)) A := CA_free hk hc (Or.inl rfl) (by rw [cap480 hj]; exact T0_le hk.1)
  have h2 : CA (stX (stX S (48 + 7 * gw_fx S) (T0 A.1.1)) (48 + 7 * gw_fx S + 1) (T1 A.1.1 A.1.1.length)) A := CA_free hk h1 (Or.inr (Or.inl rfl)) (by rw [cap481 hj, T1_len]; have := hk.1.1; omega)
  have h3 := CA_buf hk h2 (plainL_len hk.1) rfl
  have hlen : rLen (stX (stX (stX S (48 + 7 * gw_fx S) (T0 A.1.1)) (48 + 7 * gw_fx S + 1) (T1 A.1.1 A.1.1.length)) 62 (plainL A.1)) 62 = nI (plainL A.1).length := by unfold rLen; rw [stX_at]
  rw [hlen]
  refine sm_plain (A := A) hk (hm.cl (fun _ _ _ _ => rfl)) (fun z => absurd z ho) (fun _ S2 f2 t2 hm2 => ?_)
  refine hZ _ _ _ t2 (fun _ => by rw [f2.2.1]; rfl) ⟨(A.1, plainL A.1, A.2.2), ⟨hk.1, plainL_len hk.1, plainL_byt hk.1⟩, ?_, hm2⟩
  exact CA.mo (S := stO (stX (stX (stX S (48 + 7 * gw_fx S) (T0 A.1.1)) (48 + 7 * gw_fx S + 1) (T1 A.1.1 A.1.1.length)) 62 (plainL A.1)) (nI (plainL A.1).length).toInt64) h3 f2
