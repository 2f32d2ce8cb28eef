/-! lists in the reference's arrays: array kk, its length at pp -/
def mL (S : St) (kk pp : Nat) (L : List Int32) : Prop := S.2.1 9 pp = nI L.length ∧ ∀ k, k < L.length → S.2.1 kk k = L.getD k 0
def fr (K : Nat → Nat → Prop) (S S2 : St) : Prop := S2.1 = S.1 ∧ S2.2.2 = S.2.2 ∧ ∀ k p, ¬ K k p → S2.2.1 k p = S.2.1 k p
def kL (kk pp : Nat) (k p : Nat) : Prop := k = kk ∨ (k = 9 ∧ p = pp)
theorem fr.refl {K : Nat → Nat → Prop} (S : St) : fr K S S := ⟨rfl, rfl, fun _ _ _ => rfl⟩
theorem fr.trans {K : Nat → Nat → Prop} {S S1 S2 : St} (h : fr K S S1) (h2 : fr K S1 S2) : fr K S S2 := ⟨h2.1.trans h.1, h2.2.1.trans h.2.1, fun k p a => (h2.2.2 k p a).trans (h.2.2 k p a)⟩
theorem fr.mono {K K2 : Nat → Nat → Prop} {S S1 : St} (h : fr K S S1) (hK : ∀ k p, K k p → K2 k p) : fr K2 S S1 := ⟨h.1, h.2.1, fun k p a => h.2.2 k p (fun z => a (hK k p z))⟩
theorem fr.m {K : Nat → Nat → Prop} {S S1 : St} (h : fr K S S1) (hK : ∀ k p, K k p → 9 ≤ k ∧ k < 1000) : mFr S S1 := ⟨h.1, h.2.1, fun k p a => h.2.2 k p (fun z => by have := hK k p z; omega)⟩
theorem mL.keep {K : Nat → Nat → Prop} {S S1 : St} {kk pp : Nat} {L : List Int32} (h : mL S kk pp L) (hf : fr K S S1) (h1 : ∀ p, ¬ K kk p) (h2 : ¬ K 9 pp) : mL S1 kk pp L := ⟨by rw [hf.2.2 9 pp h2]; exact h.1, fun k hk => by rw [hf.2.2 kk k (h1 k)]; exact h.2 k hk⟩
theorem mL_push {S : St} {kk pp : Nat} {L : List Int32} {b : Int32} (h : mL S kk pp L) (hk : kk ≠ 9) (hl : L.length < 2 ^ 30) : mL (stM (stM S kk (S.2.1 9 pp).toNatClampNeg b) 9 pp (S.2.1 9 pp + 1)) kk pp (L ++ [b]) ∧ fr (kL kk pp) S (stM (stM S kk (S.2.1 9 pp).toNatClampNeg b) 9 pp (S.2.1 9 pp + 1)) := by
  rw [h.1, nI_clamp (by omega), nI_1]
  refine ⟨⟨by rw [stM_self]; simp, fun k hkk => ?_⟩, rfl, rfl, fun k p hn => ?_⟩
  · rw [stM_k hk, stM_get, getD_app1]
    simp at hkk
    by_cases hke : k = L.length
    · simp [hke]
    · rw [if_neg (by omega), if_pos (by omega)]; exact h.2 k (by omega)
  · unfold kL at hn
    rw [stM_get, if_neg (fun z => hn (Or.inr z)), stM_k (fun z => hn (Or.inl z))]
theorem and255 {b : Int32} (h : byt b) : b &&& 255 = b := by
  obtain ⟨n, hn, rfl⟩ := h
  rw [pk_andN (by omega) 8 (by decide), Nat.mod_eq_of_lt (by omega)]
theorem byt_and (b : Int32) : byt (b &&& 255) := by
  obtain ⟨j, hj, e⟩ := pk_andE b (m := 255) 8 (by decide)
  exact ⟨j, hj, e⟩
theorem byt_numByte (a : Int64) (k : Nat) : byt (numByte a k) := by
  unfold numByte
  generalize (a >>> ((8 * nI k).toInt64 &&& 63)) = x
  refine ⟨x.toBitVec.toNat % 256, Nat.mod_lt _ (by omega), ?_⟩
  have : x &&& 255 = lN (x.toBitVec.toNat % 256) := by
    apply Int64.toBitVec_inj.mp
    apply BitVec.eq_of_toNat_eq
    rw [Int64.toBitVec_and, BitVec.toNat_and]
    have e1 : (255 : Int64).toBitVec.toNat = 2 ^ 8 - 1 := by decide
    rw [e1, Nat.and_two_pow_sub_one_eq_mod]
    show _ = (x.toBitVec.toNat % 256) % 2 ^ 64
    omega
  rw [this, lN_i]
theorem byt_numB {a : Int64} {N : Nat} : ∀ b ∈ numB a N, byt b := by
  intro b hb
  unfold numB at hb
  rw [List.mem_map] at hb
  obtain ⟨i, _, rfl⟩ := hb
  exact byt_numByte _ _
theorem sm_add {S : St} {B : List Int32} {b : Int32} {P : St → Prop} (h : mL S 29 3 B) (hl : B.length < 1500) (hP : ∀ S2, fr (kL 29 3) S S2 → mL S2 29 3 (B ++ [b &&& 255]) → P S2) : wp_X11_add S b P := by
  have hp := mL_push (b := b &&& 255) h (by omega) (by omega)
  refine ⟨pk_in B.length _ (show B.length < 1500 from hl) h.1 (by decide), fun S3 e3 S4 e4 => ?_⟩
  have : S4 = stM (stM S 29 (S.2.1 9 3).toNatClampNeg (b &&& 255)) 9 3 (S.2.1 9 3 + 1) := by rw [e4, e3, stM_k (k' := 9) (by omega)]
  rw [this]
  exact hP _ hp.2 hp.1
/-- a loop that counts down from N - 1 to 0 -/
theorem dn_loop {X : St → Int32 → Prop} (I : Nat → St → Prop) {N : Nat} (hend : ∀ S, I 0 S → X S (-1)) (hstep : ∀ m S, m < N → I (m + 1) S → (∀ S', I m S' → X S' (nI m + (-1))) → X S (nI m)) : ∀ m S, m ≤ N → I m S → X S (nI m - 1) := by
  intro m
  induction m with
  | zero => intro S _ h; exact hend S h
  | succ m ih =>
    intro S hm h
    rw [nI_pred]
    refine hstep m S (by omega) h (fun S' h' => ?_)
    rw [← Int32.sub_eq_add_neg]
    exact ih S' (by omega) h'
theorem numB_getD {a : Int64} {N i : Nat} (h : i < N) : (numB a N).getD i 0 = numByte a (N - 1 - i) := by
  unfold numB
  rw [List.getD_eq_getElem?_getD, List.getElem?_map, List.getElem?_range h]
  rfl
theorem numB_take {a : Int64} {m N : Nat} (h : m < N) : (numB a N).take (N - (m + 1)) ++ [numByte a m] = (numB a N).take (N - m) := by
  have := numB_succ (a := a) (m := m + 1) (j := N - (m + 1)) (by omega)
  rw [show m + 1 + (N - (m + 1)) = N by omega, show N - (m + 1) + 1 = N - m by omega, show m + 1 - 1 = m by omega] at this
  exact this
/-! put -/
def badN (n : Int32) : Prop := n < 1 ∨ ¬ n ≤ 8
theorem goodN {n : Int32} (h : ¬ badN n) : ∃ N, 1 ≤ N ∧ N ≤ 8 ∧ n = nI N := by
  unfold badN at h
  have h1 : ¬ n < 1 := fun z => h (Or.inl z)
  have h2 : n ≤ 8 := Classical.byContradiction fun z => h (Or.inr z)
  obtain ⟨N, hN, e⟩ := nI_of3 (a := n) (n := 8) (by omega) (fun z => h1 (Int32.lt_trans z (by decide))) h2
  refine ⟨N, ?_, hN, e⟩
  rcases Nat.eq_zero_or_pos N with z | z
  · rw [e, z] at h1; exact absurd (by decide) h1
  · exact z
theorem okB_app {B : List Int32} {a : Int64} {N : Nat} (h : okB B) (hl : B.length + N ≤ 1500) : okB (B ++ numB a N) := by
  refine ⟨by simp [numB_len]; exact hl, fun b hb => ?_⟩
  rcases List.mem_append.mp hb with z | z
  · exact h.2 b z
  · exact byt_numB b z
theorem g_lt {F : Fo} {g : Nat} {G : Gl} (h : okF F) (e : F.1[g]? = some G) : g < 6 := by
  have := (List.getElem?_eq_some_iff.mp e).1
  have := h.1
  omega
/-- the class's buffer becomes another -/
theorem CA_buf {S S1 : St} {A : Ab} {B' : List Int32} (hok : okA A) (hc : CA S A) (hle : B'.length ≤ 1500) (e : S1 = stX S 62 B') : CA S1 (A.1, B', A.2.2) := by
  obtain ⟨c1, c2, c3, c4, c5⟩ := hc
  have hj := gw_fx_le S
  subst e
  have fx : gw_fx (stX S 62 B') = gw_fx S := rfl
  refine ⟨le_stX c1 hle, c2, ?_, stX_at, c5⟩
  rw [fx]
  refine ⟨c3.1, fun g G eg => ?_, fun t t1 t2 => ?_⟩
  · obtain ⟨g1, g2, g3, g4, g5⟩ := c3.2.1 g G eg
    have hg := g_lt hok.1 eg
    exact ⟨g1, by rw [stX_ne (by omega)]; exact g2, by rw [stX_ne (by omega)]; exact g3, by rw [stX_ne (by omega)]; exact g4, by rw [stX_ne (by omega)]; exact g5⟩
  · rw [stX_ne (by omega)]
    exact c3.2.2 t t1 t2
/-- the reference's buffer becomes another -/
theorem MA_buf {K : Nat → Nat → Prop} {S S2 : St} {A : Ab} {B' : List Int32} (hm : MA S A) (hf : fr K S S2) (hK : ∀ k p, K k p → k = 29 ∨ (k = 9 ∧ p ≠ 1 ∧ p ≠ 14) ∨ (19 ≤ k ∧ k < 1000)) (h : mL S2 29 3 B') : MA S2 (A.1, B', A.2.2) := by
  obtain ⟨⟨m1, m2, m3⟩, ⟨m4, m5⟩, m6⟩ := hm
  have hk : ∀ k p, (10 ≤ k ∧ k ≤ 18) ∨ (k = 9 ∧ (p = 1 ∨ p = 14)) → S2.2.1 k p = S.2.1 k p := fun k p h => hf.2.2 k p (fun z => by have := hK k p z; omega)
  refine ⟨⟨by rw [hk 9 1 (by omega)]; exact m1, fun g G eg => ?_, fun t ht => ?_⟩, h, by rw [hk 9 14 (by omega)]; exact m6⟩
  · obtain ⟨g1, g2, g3, g4⟩ := m2 g G eg
    refine ⟨by rw [hk 10 g (by omega)]; exact g1, by rw [hk 11 g (by omega)]; exact g2, by rw [hk 12 g (by omega)]; exact g3, fun p hp => ?_⟩
    rw [hk 13 _ (by omega), hk 14 _ (by omega), hk 15 _ (by omega), hk 16 _ (by omega)]
    exact g4 p hp
  · rw [hk 17 t (by omega)]
    refine ⟨(m3 t ht).1, fun k hkk => ?_⟩
    rw [hk 18 _ (by omega)]
    exact (m3 t ht).2 k hkk
theorem sm_put {S : St} {A : Ab} {a : Int64} {n : Int32} {P : Int32 → St → Prop} (hok : okA A) (hm : MA S A) (h1 : badN n → P 0 (stM S 9 0 1)) (h2 : ∀ N, 1 ≤ N → N ≤ 8 → n = nI N → 1500 < A.2.1.length + N → P 0 (stM S 9 0 2))
    (h0 : ∀ N, 1 ≤ N → N ≤ 8 → n = nI N → A.2.1.length + N ≤ 1500 → ∀ S2, mFr S S2 → S2.2.1 9 0 = 0 → MA S2 (A.1, A.2.1 ++ numB a N, A.2.2) → P (nI (A.2.1.length + N)) S2) : wp_X11_put S a n P := by
  have hB := hok.2.1
  obtain ⟨m1, m2, m3⟩ := id hm
  intro X12 X33 X50 x12 x33 x50
  have er : ∀ s0, ¬ s0 ≤ 0 → P 0 (stM S 9 0 s0) → X33 S s0 := fun s0 q hp => x33 _ _ (by
    intro S11 e11
    rw [e11, stM_self]
    exact ⟨fun z => absurd z q, fun _ => hp⟩)
  by_cases hb : badN n
  · have := x12 S (er 1 (by decide) (h1 hb))
    refine ⟨fun _ => this, fun q => ⟨fun q2 => absurd hb (fun z => z.elim q (fun z => z q2)), fun _ => this⟩⟩
  · obtain ⟨N, hN1, hN8, eN⟩ := goodN hb
    refine ⟨fun q => absurd (Or.inl q) hb, fun _ => ⟨fun _ => ?_, fun q => absurd (Or.inr q) hb⟩⟩
    refine pk_le (A.2.1.length + N) 1500 (fun hl => x33 _ _ ?_) (fun hl => er 2 (by decide) (h2 N hN1 hN8 eN hl)) (by rw [m2.1, eN, nI_add])
    intro S11 e11
    refine ⟨fun _ x13 e13 => ?_, fun z => absurd (by rw [e11, stM_self]; exact Int32.le_refl 0) z⟩
    have hm11 : mL S11 29 3 A.2.1 := by
      rw [e11]; exact ⟨by rw [stM_p (by omega)]; exact m2.1, fun k hk => by rw [stM_k (by omega)]; exact m2.2 k hk⟩
    rw [e13, eN]
    refine dn_loop (X := X50) (fun m S' => fr (kL 29 3) S11 S' ∧ mL S' 29 3 (A.2.1 ++ (numB a N).take (N - m))) (N := N) (fun S' ⟨f, hl'⟩ => x50 _ _ ⟨fun _ => ?_, fun z => absurd (by decide) z⟩) (fun m S' hmN ⟨f, hl'⟩ hk => x50 _ _ ⟨fun z => absurd z (nI_pos (by omega)), fun _ => ?_⟩) N S11 (Nat.le_refl N) ⟨fr.refl _, by simpa using hm11⟩
    · rw [Nat.sub_zero, List.take_of_length_le (by rw [numB_len]; exact Nat.le_refl N)] at hl'
      rw [hl'.1, List.length_append, numB_len]
      refine h0 N hN1 hN8 eN hl S' ?_ ?_ ?_
      · exact mFr.trans (by rw [e11]; exact mfThr 0) (f.m (fun k p z => by unfold kL at z; omega))
      · rw [f.2.2 9 0 (by unfold kL; omega), e11, stM_self]
      · exact MA_buf (A := A) (S := S11) (by rw [e11]; exact hm.thr 0) f (fun k p z => by unfold kL at z; omega) hl'
    · refine sm_add hl' (by simp [numB_len]; omega) (fun S15 f15 h15 x17 e17 => ?_)
      rw [e17]
      refine hk S15 ⟨f.trans f15, ?_⟩
      have : (((a >>> ((8 * nI m).toInt64 &&& 63)) &&& 255).toInt32) = numByte a m := rfl
      rw [this, and255 (byt_numByte a m), List.append_assoc, numB_take hmN] at h15
      exact h15
theorem op_put {S : St} {a : Int64} {n : Int32} {V : Int32 → St → Prop} {Z : Int32 → Int32 → St → Prop} (h : Sim S) (hV : ∀ k S1, wp_X11_put S1 a n (fun b S2 => Z k b S2) → V k S1) (hZ : ∀ k b S2, S2.2.1 9 0 = k → (k = 0 → S2.2.2.2 = b.toInt64) → Sim S2 → Z k b S2) : wp_L_put S a n V := by
  obtain ⟨A, hk, hc, hm⟩ := h
  have hB := hk.2.1
  obtain ⟨c1, c2, c3, c4, c5⟩ := id hc
  have inj : ∀ {N M : Nat}, N ≤ 8 → M ≤ 8 → nI N = nI M → N = M := fun h1 h2 e => (nI_eq (by omega) (by omega)).mp e
  unfold wp_L_put wp_X10_put wp_X10_put_11
  by_cases hb : badN n
  · have : V 1 S := hV _ _ (sm_put hk hm (fun _ => hZ _ _ _ stM_self (fun z => absurd z (by decide)) ⟨A, hk, hc.mo (mfThr _), hm.thr _⟩) (fun N a1 a2 a3 => absurd hb (by rw [a3]; exact fun z => z.elim (fun z => by have := (nI_ltI (a := N) (b := 1) (by omega) (by omega)).mp z; omega) (fun z => z (nI_le (b := 8) a2 (by omega))))) (fun N a1 a2 a3 => absurd hb (by rw [a3]; exact fun z => z.elim (fun z => by have := (nI_ltI (a := N) (b := 1) (by omega) (by omega)).mp z; omega) (fun z => z (nI_le (b := 8) a2 (by omega))))))
    refine ⟨fun _ => Or.inl ⟨rfl, this⟩, fun q => ⟨fun q2 => absurd hb (fun z => z.elim q (fun z => z q2)), fun _ => Or.inl ⟨rfl, this⟩⟩⟩
  · obtain ⟨N, hN1, hN8, eN⟩ := goodN hb
    refine ⟨fun q => absurd (Or.inl q) hb, fun _ => ⟨fun _ => ?_, fun q => absurd (Or.inr q) hb⟩⟩
    have hl : rLen S 62 = nI A.2.1.length := by unfold rLen; rw [c4]
    refine pk_le (A.2.1.length + N) 1500 (fun hl2 => ⟨by rw [eN]; exact nI_pos (by omega), fun S8 e8 => hV _ _ ?_⟩) (fun hl2 => Or.inr ⟨rfl, hV _ _ ?_⟩) (by rw [hl, eN, nI_add])
    · have e8' : S8 = stX S 62 (A.2.1 ++ numB a N) := by
        rw [e8]; unfold rNum
        rw [eN, nI_clamp (by omega), rApp_fit (by rw [c4, numB_len]; exact hl2), c4]
      have hlen : rLen S8 62 = nI (A.2.1.length + N) := by unfold rLen; rw [e8', stX_at, List.length_append, numB_len]
      have hc8 : CA S8 (A.1, A.2.1 ++ numB a N, A.2.2) := CA_buf hk hc (by simp [numB_len]; exact hl2) e8'
      refine sm_put (S := stO S8 (rLen S8 62).toInt64) hk (hm.cl (by rw [e8']; exact cFr.refl S)) (fun z => absurd z hb) (fun M m1 m2 m3 z => ?_) (fun M m1 m2 m3 z S2 f2 t2 hm2 => ?_)
      · have := inj hN8 m2 (eN.symm.trans m3); omega
      · have := inj hN8 m2 (eN.symm.trans m3)
        subst this
        exact hZ _ _ _ t2 (fun _ => by rw [f2.2.1, hlen]; rfl) ⟨(A.1, A.2.1 ++ numB a N, A.2.2), ⟨hk.1, okB_app hk.2 hl2⟩, CA.mo (S := stO S8 (rLen S8 62).toInt64) hc8 f2, hm2⟩
    · refine sm_put hk hm (fun z => absurd z hb) (fun _ _ _ _ _ => hZ _ _ _ stM_self (fun z => absurd z (by decide)) ⟨A, hk, hc.mo (mfThr _), hm.thr _⟩) (fun M m1 m2 m3 z => ?_)
      have := inj hN8 m2 (eN.symm.trans m3); omega
