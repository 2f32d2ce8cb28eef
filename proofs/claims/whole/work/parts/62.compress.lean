/-! the longest row of the same bytes -/
def smF (L : List Int32) (d : Nat) : Nat → Nat → Nat
  | 0, _ => 0
  | f + 1, k => if L.getD k 0 = L.getD (k - d) 0 then 1 + smF L d f (k + 1) else 0
def same (L : List Int32) (k d : Nat) : Nat := smF L d (L.length - k) k
theorem smF_le (L : List Int32) (d : Nat) : ∀ f k, smF L d f k ≤ f
  | 0, k => Nat.le_refl 0
  | f + 1, k => by
    simp only [smF]
    have := smF_le L d f (k + 1)
    split <;> omega
theorem same_le (L : List Int32) (k d : Nat) : same L k d ≤ L.length - k := smF_le L d _ _
theorem sp_same {S : St} {r k d : Nat} {L : List Int32} {P : Int32 → St → Prop} (hr : S.1 r = L) (hl : L.length ≤ gw_cap r) (h1 : 1 ≤ d) (hd : d ≤ k) (hk : k ≤ L.length) (h : P (nI (same L k d)) S) : wp_X8_sameFrom S r (nI k) (nI d) P := by
  intro X22 X26 X63 x22 x26 x63
  have hc := cap_le r
  have key : ∀ f i, k + i + f = L.length → i + smF L d f (k + i) = same L k d → X26 S (nI i) := by
    intro f
    induction f with
    | zero =>
      intro i hi e
      refine x26 _ _ ⟨fun _ => x63 _ _ ?_, fun z => absurd ?_ z⟩
      · simp only [smF, Nat.add_zero] at e
        rw [← e] at h; exact h
      · rw [hr, nI_add]; exact nI_le (by omega) (by omega)
    | succ f ih =>
      intro i hi e
      refine x26 _ _ ⟨fun z => absurd z (by rw [hr, nI_add]; exact nI_ge (by omega) (by omega)), fun _ => ?_⟩
      rw [hr, nI_add, pk_sub (by omega), nI_clamp (by omega), nI_clamp (by omega)]
      refine ⟨pk_in _ _ (show k + i < L.length by omega) rfl (by omega), pk_in _ _ (show k + i - d < L.length by omega) rfl (by omega), fun z => x63 _ _ ?_, fun z x9 e9 => ?_⟩
      · simp only [smF] at e
        rw [if_neg z, Nat.add_zero] at e
        rw [← e] at h; exact h
      · simp only [smF] at e
        rw [if_pos z] at e
        rw [e9, nI_1]
        refine ih (i + 1) (by omega) ?_
        rw [show k + (i + 1) = k + i + 1 by omega]; omega
  refine ⟨fun z => absurd z (by rw [lit32]; exact fun q => absurd ((nI_505 (by omega) (by omega)).mp q) (by show ¬ d < 1; omega)), fun _ => ⟨fun z => absurd ((nI_505 (by omega) (by omega)).mp z) (by omega), fun _ => ⟨fun _ => ?_, fun z => absurd (by rw [hr]; exact nI_le hl (by omega)) z⟩⟩⟩
  exact key (L.length - k) 0 (by omega) (by simp [same])
theorem sp_same0 {S : St} {r k : Nat} {P : Int32 → St → Prop} (h : P 0 S) : wp_X8_sameFrom S r (nI k) (nI 0) P := by
  intro X22 X26 X63 x22 x26 x63
  exact ⟨fun _ => x22 _ h, fun z => absurd (by decide) z⟩
theorem sm_alike {S : St} {k d : Nat} {L : List Int32} {P : Int32 → St → Prop} (hm : mL S 30 4 L) (hl : L.length ≤ 1100) (h1 : 1 ≤ d) (hd : d ≤ k) (hk : k ≤ L.length) (h : P (nI (same L k d)) S) : wp_X11_alike S (nI k) (nI d) P := by
  intro X2 X39 x2 x39
  have key : ∀ f i, k + i + f = L.length → i + smF L d f (k + i) = same L k d → X2 S (nI i) := by
    intro f
    induction f with
    | zero =>
      intro i hi e
      refine x2 _ _ ⟨fun _ => x39 _ _ ?_, fun z => absurd ?_ z⟩
      · simp only [smF, Nat.add_zero] at e
        rw [← e] at h; exact h
      · rw [hm.1, nI_add]; exact nI_le (by omega) (by omega)
    | succ f ih =>
      intro i hi e
      refine x2 _ _ ⟨fun z => absurd z (by rw [hm.1, nI_add]; exact nI_ge (by omega) (by omega)), fun _ => ?_⟩
      rw [nI_add, pk_sub (by omega), nI_clamp (by omega), nI_clamp (by omega), hm.2 _ (show k + i < L.length by omega), hm.2 _ (show k + i - d < L.length by omega)]
      refine ⟨pk_in _ _ (show k + i < 1100 by omega) rfl (by decide), pk_in _ _ (show k + i - d < 1100 by omega) rfl (by decide), fun z => x39 _ _ ?_, fun z x9 e9 => ?_⟩
      · simp only [smF] at e
        rw [if_neg z, Nat.add_zero] at e
        rw [← e] at h; exact h
      · simp only [smF] at e
        rw [if_pos z] at e
        rw [e9, nI_1]
        refine ih (i + 1) (by omega) ?_
        rw [show k + (i + 1) = k + i + 1 by omega]; omega
  exact key (L.length - k) 0 (by omega) (by simp [same])
/-! the best distance -/
def bst (L : List Int32) (k : Nat) : Nat → Nat × Nat
  | 0 => (0, 0)
  | d + 1 => if (bst L k d).1 < same L k (d + 1) then (same L k (d + 1), d + 1) else bst L k d
theorem bst_spec (L : List Int32) (k : Nat) : ∀ D, (∀ e, 1 ≤ e → e ≤ D → same L k e ≤ (bst L k D).1) ∧ ((bst L k D).1 = 0 → (bst L k D).2 = 0) ∧ (0 < (bst L k D).1 → 1 ≤ (bst L k D).2 ∧ (bst L k D).2 ≤ D ∧ same L k (bst L k D).2 = (bst L k D).1 ∧ ∀ e, 1 ≤ e → e < (bst L k D).2 → same L k e < (bst L k D).1) := by
  intro D
  induction D with
  | zero => exact ⟨fun e h1 h2 => by omega, fun _ => rfl, fun z => by simp [bst] at z⟩
  | succ D ih =>
    obtain ⟨i1, i2, i3⟩ := ih
    simp only [bst]
    split
    · rename_i z
      refine ⟨fun e h1 h2 => ?_, fun q => ?_, fun q => ⟨by simp, Nat.le_refl _, rfl, fun e h1 h2 => ?_⟩⟩
      · by_cases he : e = D + 1
        · subst he; exact Nat.le_refl _
        · have := i1 e h1 (by omega)
          show same L k e ≤ same L k (D + 1)
          omega
      · have : same L k (D + 1) = 0 := q
        omega
      · have := i1 e h1 (by simp at h2; omega)
        show same L k e < same L k (D + 1)
        omega
    · rename_i z
      refine ⟨fun e h1 h2 => ?_, i2, fun q => ?_⟩
      · by_cases he : e = D + 1
        · subst he; omega
        · exact i1 e h1 (by omega)
      · obtain ⟨j1, j2, j3, j4⟩ := i3 q
        exact ⟨j1, by omega, j3, j4⟩
theorem bst_le (L : List Int32) (k D : Nat) : (bst L k D).1 ≤ L.length - k := by
  induction D with
  | zero => simp [bst]
  | succ D ih =>
    simp only [bst]
    split
    · exact same_le L k (D + 1)
    · exact ih
theorem bst_full (L : List Int32) (k : Nat) {D : Nat} (h : L.length - k ≤ (bst L k D).1) : ∀ n, bst L k (D + n) = bst L k D := by
  intro n
  induction n with
  | zero => rfl
  | succ n ih =>
    rw [show D + (n + 1) = D + n + 1 by omega]
    simp only [bst]
    rw [ih, if_neg (by have := same_le L k (D + n + 1); omega)]
theorem sp_best {S : St} {k : Nat} {L : List Int32} {P : Int32 → St → Prop} (hr : S.1 64 = L) (hl : L.length ≤ 1000) (hk : k < L.length) (h : P (nI (bst L k k).2) S) : wp_X6_bestDistance S (nI k) P := by
  intro X7 X50 X56 x7 x50 x56
  have hlen : rLen S 64 = nI L.length := by unfold rLen; rw [hr]
  have key : ∀ f d, d + f = k → X7 S (nI (bst L k d).1) (nI (bst L k d).2) (nI (d + 1)) := by
    intro f
    induction f with
    | zero =>
      intro d hd
      have : d = k := by omega
      subst this
      exact x7 _ _ _ _ ⟨fun _ => x56 _ _ h, fun z => absurd ((nI_505 (by omega) (by omega)).mpr (by omega)) z⟩
    | succ f ih =>
      intro d hd
      have hb := bst_le L k d
      refine x7 _ _ _ _ ⟨fun z => absurd ((nI_505 (by omega) (by omega)).mp z) (by omega), fun _ => ?_⟩
      rw [hlen, pk_sub (by omega)]
      refine pk_le (L.length - k) (bst L k d).1 (fun z => x56 _ _ ?_) (fun z => ?_) rfl
      · have := bst_full L k z f.succ
        rw [show d + f.succ = k by omega] at this
        rw [← this]; exact h
      · refine sp_same (L := L) hr (by show _ ≤ 1000; exact hl) (by omega) (by omega) (by omega) ?_
        have hs := same_le L k (d + 1)
        refine pk_le (same L k (d + 1)) (bst L k d).1 (fun q => x50 _ _ _ _ (fun x e => ?_)) (fun q => x50 _ _ _ _ (fun x e => ?_)) rfl
        · have := ih (d + 1) (by omega)
          simp only [bst] at this
          rw [if_neg (by omega)] at this
          rw [e, nI_1]; exact this
        · have := ih (d + 1) (by omega)
          simp only [bst] at this
          rw [if_pos q] at this
          rw [e, nI_1]; exact this
  exact key k 0 (by omega)
/-! the compressed stream -/
def stpK (L : List Int32) (k : Nat) : Nat := if 3 ≤ (bst L k k).1 then k + (bst L k k).1 else k + 1
def stpB (L : List Int32) (k : Nat) : List Nat := if 3 ≤ (bst L k k).1 then [1] ++ (gam ((bst L k k).1 - 2) ++ gam (bst L k k).2) else [0] ++ bitsOf (va32 (L.getD k 0)) 8
theorem bits01 : bitsOf 0 1 = [0] := rfl
theorem bits11 : bitsOf 1 1 = [1] := rfl
def comp (L : List Int32) : Nat → Nat → Wr → Wr
  | 0, _, w => w
  | f + 1, k, w => if L.length ≤ k then w else comp L f (stpK L k) (pushs w (stpB L k))
theorem stpC_ok {L : List Int32} {k : Nat} {w : Wr} (ho : okW w) (hl : L.length ≤ 1000) (hk : k < L.length) : okW (pushs w (stpB L k)) ∧ k < stpK L k ∧ stpK L k ≤ L.length ∧ wln (pushs w (stpB L k)) ≤ wln w + 13 * (stpK L k - k) := by
  have hb := bst_le L k k
  by_cases z : 3 ≤ (bst L k k).1
  · have e1 : stpK L k = k + (bst L k k).1 := by unfold stpK; rw [if_pos z]
    have e2 : stpB L k = [1] ++ (gam ((bst L k k).1 - 2) ++ gam (bst L k k).2) := by unfold stpB; rw [if_pos z]
    rw [e1, e2]
    obtain ⟨j1, j2, j3, j4⟩ := (bst_spec L k k).2.2 (by omega)
    have hg1 := log2_le (v := (bst L k k).1 - 2) (by omega) (by omega)
    have hg2 := log2_le (v := (bst L k k).2) (by omega) (by omega)
    have := okW_pushs (bs := [1] ++ (gam ((bst L k k).1 - 2) ++ gam (bst L k k).2)) ho (fun b hb => by
      simp only [List.mem_append, List.mem_singleton] at hb
      rcases hb with hb | hb | hb
      · omega
      · exact gam_le _ b hb
      · exact gam_le _ b hb)
    refine ⟨this.1, by omega, by omega, ?_⟩
    rw [this.2]
    simp only [List.length_append, gam_len, List.length_singleton]
    omega
  · have e1 : stpK L k = k + 1 := by unfold stpK; rw [if_neg z]
    have e2 : stpB L k = [0] ++ bitsOf (va32 (L.getD k 0)) 8 := by unfold stpB; rw [if_neg z]
    rw [e1, e2]
    have := okW_pushs (bs := [0] ++ bitsOf (va32 (L.getD k 0)) 8) ho (fun b hb => by
      simp only [List.mem_append, List.mem_singleton] at hb
      rcases hb with hb | hb
      · omega
      · exact bitsOf_le _ _ b hb)
    refine ⟨this.1, by omega, by omega, ?_⟩
    rw [this.2]
    simp only [List.length_append, bitsOf_len, List.length_singleton]
    omega
theorem comp_ok {L : List Int32} (hl : L.length ≤ 1000) : ∀ f k w, okW w → k ≤ L.length → okW (comp L f k w) ∧ wln (comp L f k w) ≤ wln w + 13 * (L.length - k) := by
  intro f
  induction f with
  | zero => intro k w ho _; exact ⟨ho, by show wln w ≤ _; omega⟩
  | succ f ih =>
    intro k w ho hk
    simp only [comp]
    split
    · exact ⟨ho, by omega⟩
    · obtain ⟨s1, s2, s3, s4⟩ := stpC_ok ho hl (show k < L.length by omega)
      obtain ⟨t1, t2⟩ := ih _ _ s1 s3
      exact ⟨t1, by omega⟩
def cmpW (L : List Int32) (w : Wr) : Wr := pushs (comp L L.length 0 w) (bitsOf 0 (fillN (comp L L.length 0 w).2.2))
theorem fillN_le {n : Nat} : fillN n ≤ 8 := by unfold fillN; split <;> omega
theorem cmpW_ok {L : List Int32} {w : Wr} (hl : L.length ≤ 1000) (ho : okW w) : okW (cmpW L w) ∧ wln (cmpW L w) ≤ wln w + 13 * L.length + 8 := by
  obtain ⟨c1, c2⟩ := comp_ok hl L.length 0 w ho (by omega)
  have := okW_pushs (bs := bitsOf 0 (fillN (comp L L.length 0 w).2.2)) c1 (bitsOf_le _ _)
  rw [bitsOf_len] at this
  have hf := fillN_le (n := (comp L L.length 0 w).2.2)
  unfold cmpW
  exact ⟨this.1, by rw [this.2]; omega⟩
theorem sp_compress {S : St} {c : Nat} {w : Wr} {L : List Int32} {P : St → Prop} (hr : S.1 64 = L) (hl : L.length ≤ 640) (hb : ∀ b ∈ L, byt b) (hw : cW S c w) (ho : okW w) (hc : wln w + 13 * L.length + 60 < 11990) (hP : ∀ S2, cwF c S S2 → cW S2 c (cmpW L w) → P S2) : wp_X6_compressStream S c 62 P := by
  intro X2 X86 x2 x86
  have key : ∀ f k w' S', L.length ≤ k + f → k ≤ L.length → cwF c S S' → cW S' c w' → okW w' → wln w' + 13 * (L.length - k) ≤ wln w + 13 * L.length → comp L f k w' = comp L L.length 0 w → X2 S' (nI k) := by
    intro f
    induction f with
    | zero =>
      intro k w' S' hf hk fS hw' ho' hc' e
      have r64 : S'.1 64 = L := by rw [fS.2.1 64 (by omega), hr]
      have hlen : rLen S' 64 = nI L.length := by unfold rLen; rw [r64]
      refine x2 _ _ ⟨fun _ => ?_, fun z => absurd (by rw [hlen]; exact nI_le (by omega) (by omega)) z⟩
      refine sp_fillByte hw' ho' (by omega) (fun S2 f2 h2 => hP S2 (fS.trans f2) ?_)
      simp only [comp] at e
      unfold cmpW
      rw [← e]; exact h2
    | succ f ih =>
      intro k w' S' hf hk fS hw' ho' hc' e
      have r64 : S'.1 64 = L := by rw [fS.2.1 64 (by omega), hr]
      have hlen : rLen S' 64 = nI L.length := by unfold rLen; rw [r64]
      simp only [comp] at e
      refine x2 _ _ ⟨fun z => ?_, fun z => ?_⟩
      · have hkl : L.length ≤ k := by rw [hlen] at z; exact (nI_leI (by omega) (by omega)).mp z
        rw [if_pos hkl] at e
        refine sp_fillByte hw' ho' (by omega) (fun S2 f2 h2 => hP S2 (fS.trans f2) ?_)
        unfold cmpW
        rw [← e]; exact h2
      · have hkl : k < L.length := by
          rw [hlen] at z
          exact Classical.byContradiction fun y => z (nI_le (by omega) (by omega))
        rw [if_neg (by omega)] at e
        obtain ⟨s1, s2, s3, s4⟩ := stpC_ok (w := w') ho' (show L.length ≤ 1000 by omega) hkl
        have hbl := bst_le L k k
        obtain ⟨q1, q2, q3⟩ := bst_spec L k k
        have nx : ∀ S3, cwF c S' S3 → cW S3 c (pushs w' (stpB L k)) → X86 S3 (nI (stpK L k)) := fun S3 f3 h3 => x86 _ _ (ih _ _ S3 (by omega) s3 (fS.trans f3) h3 s1 (by omega) e)
        refine sp_best r64 (by omega) hkl ?_
        have same2 : ∀ Q : Int32 → St → Prop, Q (nI (bst L k k).1) S' → wp_X8_sameFrom S' 64 (nI k) (nI (bst L k k).2) Q := by
          intro Q hQ
          by_cases z0 : (bst L k k).1 = 0
          · rw [q2 z0]
            rw [z0] at hQ
            exact sp_same0 hQ
          · obtain ⟨j1, j2, j3, j4⟩ := q3 (by omega)
            refine sp_same r64 (by show _ ≤ 1000; omega) j1 j2 (by omega) ?_
            rw [j3]; exact hQ
        refine same2 _ (pk_lt (bst L k k).1 3 (fun z3 => ?_) (fun z3 => ?_) rfl)
        · have hv := byt_va (byt_getD hb k)
          have est : stpK L k = k + 1 := by unfold stpK; rw [if_neg (by omega)]
          have est2 : stpB L k = [0] ++ bitsOf (va32 (L.getD k 0)) 8 := by unfold stpB; rw [if_neg (by omega)]
          rw [est, est2] at nx
          have o1 := okW_pushs (bs := bitsOf 0 1) ho' (bitsOf_le _ _)
          refine sp_addBits (v := 0) (n := 1) hw' ho' (by omega) (by omega) (by omega) (fun S29 f29 h29 => ?_)
          have r29 : S29.1 64 = L := by rw [f29.2.1 64 (by omega), r64]
          rw [rGet_nI (by omega), r29, hv.1]
          refine sp_addBits (n := 8) h29 o1.1 (by omega) (by omega) (by rw [o1.2]; show _ + 1 + 8 < _; omega) (fun S31 f31 h31 x33 e33 => ?_)
          rw [e33, nI_1]
          refine nx S31 (f29.trans f31) ?_
          rw [pushs_app]
          rw [bits01] at h31
          exact h31
        · have est : stpK L k = k + (bst L k k).1 ∧ stpB L k = [1] ++ (gam ((bst L k k).1 - 2) ++ gam (bst L k k).2) := by unfold stpK stpB; rw [if_pos (by omega), if_pos (by omega)]; exact ⟨rfl, rfl⟩
          rw [est.1, est.2] at nx
          obtain ⟨j1, j2, j3, j4⟩ := q3 (by omega)
          have o1 := okW_pushs (bs := bitsOf 1 1) ho' (bitsOf_le _ _)
          rw [bitsOf_len] at o1
          have hg1 := log2_le (v := (bst L k k).1 - 2) (by omega) (by omega)
          have o2 := okW_pushs (bs := gam ((bst L k k).1 - 2)) o1.1 (gam_le _)
          rw [gam_len] at o2
          refine sp_addBits (v := 1) (n := 1) hw' ho' (by omega) (by omega) (by omega) (fun S34 f34 h34 => ?_)
          rw [show nI (bst L k k).1 - 2 = nI ((bst L k k).1 - 2) from pk_sub (b := 2) (by omega)]
          refine sp_addGamma h34 o1.1 (by omega) (by omega) (by omega) (fun S36 f36 h36 => ?_)
          refine sp_addGamma h36 o2.1 (by omega) (by omega) (by omega) (fun S38 f38 h38 x40 e40 => ?_)
          rw [e40, nI_add]
          refine nx S38 ((f34.trans f36).trans f38) ?_
          rw [pushs_app, pushs_app]
          rw [bits11] at h38
          exact h38
  exact key L.length 0 w S (by omega) (by omega) (cwF.refl c S) hw ho (by omega) rfl
/-! the reference compresses -/
theorem sm_compress {S : St} {B L : List Int32} {P : St → Prop} (hB : mL S 29 3 B) (hBb : ∀ b ∈ B, byt b) (hL : mL S 30 4 L) (hl : L.length ≤ 640) (hb : ∀ b ∈ L, byt b) (hc : 8 * B.length + 13 * L.length + 60 < 11980) (hP : ∀ S2, fr kW S S2 → mL S2 29 3 (cmpW L (B, 0, 0)).1 → P S2) : wp_X11_compress S P := by
  intro X12 X27 X54 X67 X118 X121 x12 x27 x54 x67 x118 x121 S45 e45 S46 e46
  have f46 : fr kW S S46 := by
    rw [e46, e45]; exact fr_m (fr_m (fr.refl S) (by unfold kW; omega)) (by unfold kW; omega)
  have w46 : mW S46 (B, 0, 0) := by
    rw [e46, e45]
    refine ⟨⟨by rw [stM_p (by omega), stM_p (by omega)]; exact hB.1, fun k hk => by rw [stM_k (by omega), stM_k (by omega)]; exact hB.2 k hk⟩, by rw [stM_p (by omega), stM_self]; rfl, by rw [stM_self]; rfl⟩
  have o46 : okW (B, 0, 0) := ⟨by show (0 : Nat) < 8; omega, by show (0 : Nat) < 2 ^ 0; decide, hBb⟩
  have wB : wln (B, 0, 0) = 8 * B.length := rfl
  have mk : ∀ {S'}, fr kW S S' → mL S' 30 4 L := fun f => hL.keep f (fun p z => by unfold kW at z; omega) (fun z => by unfold kW at z; omega)
  have fill : ∀ n w' S', fr kW S S' → mW S' w' → okW w' → wln w' + n < 11980 → fillN w'.2.2 = n → pushs w' (bitsOf 0 n) = cmpW L (B, 0, 0) → X121 S' := by
    intro n
    induction n with
    | zero =>
      intro w' S' f hw ho hc' hn e
      have h8 := ho.1
      have h0 : w'.2.2 = 0 := by unfold fillN at hn; split at hn <;> omega
      refine x121 _ ⟨fun _ => hP S' f ?_, fun z => absurd (by rw [hw.2.2, h0]; decide) z⟩
      rw [← e]; exact hw.1
    | succ n ih =>
      intro w' S' f hw ho hc' hn e
      have h8 := ho.1
      have h0 : w'.2.2 ≠ 0 ∧ 8 - w'.2.2 = n + 1 := by unfold fillN at hn; split at hn <;> omega
      refine x121 _ ⟨fun z => absurd z (by rw [hw.2.2]; exact nI_ge (a := 0) (by omega) (by omega)), fun _ => ?_⟩
      refine sm_bit (b := 0) hw ho (by omega) (by omega) (fun S2 f2 h2 => ih (pushB w' 0) S2 (f.trans f2) h2 (okW_push ho (by omega)) (by rw [wln_push ho]; omega) ?_ ?_)
      · unfold pushB fillN
        by_cases h7 : w'.2.2 = 7
        · rw [if_pos h7]; simp; omega
        · rw [if_neg h7]; simp; omega
      · rw [← e]
        simp only [bitsOf]
        rw [Nat.zero_div]
        rfl
  have key : ∀ f k w' S', L.length ≤ k + f → k ≤ L.length → fr kW S S' → mW S' w' → okW w' → wln w' + 13 * (L.length - k) ≤ 8 * B.length + 13 * L.length → comp L f k w' = comp L L.length 0 (B, 0, 0) → X12 S' (nI k) := by
    intro f
    induction f with
    | zero =>
      intro k w' S' hf hk fS hw' ho' hc' e
      refine x12 _ _ ⟨fun _ => ?_, fun z => absurd (by rw [(mk fS).1]; exact nI_le (by omega) (by omega)) z⟩
      simp only [comp] at e
      have hfl := fillN_le (n := w'.2.2)
      refine fill (fillN w'.2.2) w' S' fS hw' ho' (by omega) rfl ?_
      unfold cmpW; rw [← e]
    | succ f ih =>
      intro k w' S' hf hk fS hw' ho' hc' e
      simp only [comp] at e
      have hmL := mk fS
      refine x12 _ _ ⟨fun z => ?_, fun z => ?_⟩
      · have hkl : L.length ≤ k := by rw [hmL.1] at z; exact (nI_leI (by omega) (by omega)).mp z
        rw [if_pos hkl] at e
        have hfl := fillN_le (n := w'.2.2)
        refine fill (fillN w'.2.2) w' S' fS hw' ho' (by omega) rfl ?_
        unfold cmpW; rw [← e]
      · have hkl : k < L.length := by
          rw [hmL.1] at z
          exact Classical.byContradiction fun y => z (nI_le (by omega) (by omega))
        rw [if_neg (by omega)] at e
        obtain ⟨s1, s2, s3, s4⟩ := stpC_ok (w := w') ho' (show L.length ≤ 1000 by omega) hkl
        have hbl := bst_le L k k
        obtain ⟨q1, q2, q3⟩ := bst_spec L k k
        have nx : ∀ S3, fr kW S' S3 → mW S3 (pushs w' (stpB L k)) → X118 S3 (nI (stpK L k)) := fun S3 f3 h3 => x118 _ _ (ih _ _ S3 (by omega) s3 (fS.trans f3) h3 s1 (by omega) e)
        have scan : ∀ m n d, m ≤ k → n ≤ L.length → (∀ e, m < e → e ≤ k → same L k e ≤ n) → (n = 0 ∨ (m < d ∧ d ≤ k ∧ same L k d = n ∧ ∀ e, m < e → e < d → same L k e < n)) → d ≤ k → X27 S' (nI k) (nI n) (nI d) (nI m) := by
          intro m
          induction m with
          | zero =>
            intro n d _ hn1 h1 h2 hdk
            have en : n = (bst L k k).1 := by
              rcases h2 with h2 | ⟨a1, a2, a3, a4⟩
              · rcases Nat.eq_zero_or_pos (bst L k k).1 with y | y
                · omega
                · obtain ⟨j1, j2, j3, j4⟩ := q3 y
                  have := h1 _ j1 j2
                  omega
              · have hb1 := q1 d a1 a2
                rcases Nat.eq_zero_or_pos (bst L k k).1 with y | y
                · omega
                · obtain ⟨j1, j2, j3, j4⟩ := q3 y
                  have := h1 _ j1 j2
                  omega
            refine x27 _ _ _ _ _ ⟨fun _ => ?_, fun z => absurd (by decide) z⟩
            refine pk_le n 2 (fun z2 => ?_) (fun z2 => ?_) rfl
            · have hv := byt_va (byt_getD hb k)
              have est : stpK L k = k + 1 := by unfold stpK; rw [if_neg (by omega)]
              have est2 : stpB L k = [0] ++ bitsOf (va32 (L.getD k 0)) 8 := by unfold stpB; rw [if_neg (by omega)]
              rw [est, est2] at nx
              rw [nI_clamp (by omega), hmL.2 k hkl, hv.1]
              refine ⟨pk_in _ _ (show k < 1100 by omega) rfl (by decide), ?_⟩
              refine sm_bits (n := 9) hw' ho' (by omega) (by omega) (by omega) (fun S3 f3 h3 x29 e29 => ?_)
              rw [e29, nI_1]
              refine nx S3 f3 ?_
              have e9 : bitsOf (va32 (L.getD k 0)) 9 = [0] ++ bitsOf (va32 (L.getD k 0)) 8 := by
                show (va32 (L.getD k 0) / 2 ^ 8 % 2) :: bitsOf (va32 (L.getD k 0)) 8 = _
                rw [show va32 (L.getD k 0) / 2 ^ 8 % 2 = 0 by omega]; rfl
              rw [e9] at h3
              exact h3
            · have est : stpK L k = k + (bst L k k).1 ∧ stpB L k = [1] ++ (gam ((bst L k k).1 - 2) ++ gam (bst L k k).2) := by unfold stpK stpB; rw [if_pos (by omega), if_pos (by omega)]; exact ⟨rfl, rfl⟩
              rw [est.1, est.2] at nx
              obtain ⟨j1, j2, j3, j4⟩ := q3 (by omega)
              have ed : d = (bst L k k).2 := by
                rcases h2 with h2 | ⟨a1, a2, a3, a4⟩
                · omega
                · rcases Nat.lt_trichotomy d (bst L k k).2 with y | y | y
                  · have := j4 d a1 y; omega
                  · exact y
                  · have := a4 _ j1 y; omega
              rw [en, ed]
              have o1 := okW_push (b := 1) ho' (by omega)
              have o1w := wln_push (b := 1) ho'
              have hg1 := log2_le (v := (bst L k k).1 - 2) (by omega) (by omega)
              have o2 := okW_pushs (bs := gam ((bst L k k).1 - 2)) o1 (gam_le _)
              rw [gam_len] at o2
              refine sm_bit (b := 1) hw' ho' (by omega) (by omega) (fun S34 f34 h34 => ?_)
              rw [show nI (bst L k k).1 - 2 = nI ((bst L k k).1 - 2) from pk_sub (b := 2) (by omega)]
              refine sm_gamma h34 o1 (by omega) (by omega) (by omega) (fun S36 f36 h36 => ?_)
              refine sm_gamma h36 o2.1 (by omega) (by omega) (by omega) (fun S38 f38 h38 x40 e40 => ?_)
              rw [e40, nI_add]
              refine nx S38 ((f34.trans f36).trans f38) ?_
              rw [pushs_app, pushs_app]
              exact h38
          | succ m ihm =>
            intro n d hm hn1 h1 h2 hdk
            have hs := same_le L k (m + 1)
            refine x27 _ _ _ _ _ ⟨fun z => absurd ((nI_505 (n := 1) (by omega) (by omega)).mp z) (by omega), fun _ => ?_⟩
            refine sm_alike hmL (by omega) (by omega) hm (by omega) ?_
            refine pk_lt (same L k (m + 1)) n (fun z => ?_) (fun z => ?_) rfl
            · refine x54 _ _ _ _ _ _ (pk_lt (same L k (m + 1)) n (fun _ => x67 _ _ _ _ _ (fun x e => ?_)) (fun y => by omega) rfl)
              rw [e, pk_m1]
              refine ihm n d (by omega) hn1 (fun e' a b => ?_) ?_ hdk
              · by_cases he : e' = m + 1
                · subst he; omega
                · exact h1 e' (by omega) b
              · rcases h2 with h2 | ⟨a1, a2, a3, a4⟩
                · exact Or.inl h2
                · refine Or.inr ⟨by omega, a2, a3, fun e' b c => ?_⟩
                  by_cases he : e' = m + 1
                  · subst he; exact z
                  · exact a4 e' (by omega) c
            · refine x54 _ _ _ _ _ _ (pk_lt (same L k (m + 1)) n (fun y => by omega) (fun _ => x67 _ _ _ _ _ (fun x e => ?_)) rfl)
              rw [e, pk_m1]
              refine ihm (same L k (m + 1)) (m + 1) (by omega) (by omega) (fun e' a b => ?_) (Or.inr ⟨by omega, hm, rfl, fun e' a b => by omega⟩) hm
              by_cases he : e' = m + 1
              · subst he; exact Nat.le_refl _
              · have := h1 e' (by omega) b
                omega
        exact scan k 0 0 (Nat.le_refl k) (by omega) (fun e a b => by omega) (Or.inl rfl) (by omega)
  exact key L.length 0 (B, 0, 0) S46 (by omega) (by omega) f46 w46 o46 (by rw [wB]; omega) rfl
