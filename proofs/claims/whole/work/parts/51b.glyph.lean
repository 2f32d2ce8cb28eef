theorem lt_succ32 {a : Int32} {n : Nat} (h : n + 1 < 2 ^ 31) : a < nI (n + 1) ↔ a ≤ nI n := by
  rw [Int32.lt_iff_toInt_lt, Int32.le_iff_toInt_le, nI_toInt h, nI_toInt (by omega)]
  omega
theorem sm_out {S : St} {a b : Int32} {P : Int32 → St → Prop} (h1 : (a < 0 ∨ ¬ a < b) → P 1 S) (h0 : ¬ a < 0 → a < b → P 0 S) : wp_X11_out S a b P :=
  ⟨fun q => ⟨Or.inr rfl, h1 (Or.inl q)⟩, fun q => ⟨fun q2 => ⟨Or.inl rfl, h0 q q2⟩, fun q2 => ⟨Or.inr rfl, h1 (Or.inr q2)⟩⟩⟩
theorem nI_of3 {a : Int32} {n : Nat} (hn : n < 2 ^ 31) (h : ¬ a < 0) (h2 : a ≤ nI n) : ∃ m, m ≤ n ∧ a = nI m := nI_of2 (nI_toInt hn) h h2
/-- the reference's error -/
theorem MA.thr {S : St} {A : Ab} (h : MA S A) (v : Int32) : MA (stM S 9 0 v) A := by
  obtain ⟨⟨h1, h2, h3⟩, ⟨h4, h5⟩, h6⟩ := h
  refine ⟨⟨by rw [stM_p (by omega)]; exact h1, fun g G e => ?_, fun t ht => ?_⟩, ⟨by rw [stM_p (by omega)]; exact h4, fun k hk => by rw [stM_k (by omega)]; exact h5 k hk⟩, by rw [stM_p (by omega)]; exact h6⟩
  · obtain ⟨a1, a2, a3, a4⟩ := h2 g G e
    refine ⟨by rw [stM_k (by omega)]; exact a1, by rw [stM_k (by omega)]; exact a2, by rw [stM_k (by omega)]; exact a3, fun p hp => ?_⟩
    rw [stM_k (by omega), stM_k (by omega), stM_k (by omega), stM_k (by omega)]
    exact a4 p hp
  · rw [stM_k (by omega)]
    refine ⟨(h3 t ht).1, fun k hk => ?_⟩
    rw [stM_k (by omega)]
    exact (h3 t ht).2 k hk
theorem mfThr {S : St} (v : Int32) : mFr S (stM S 9 0 v) := mfM (mFr.refl S) (by omega) (by omega)
theorem mo_glyph {S : St} {A : Ab} {a : Int32} {P : Int32 → St → Prop} (hok : okA A) (hm : MA S A) (h1 : (a < 0 ∨ ¬ a ≤ 2000) → P 0 (stM S 9 0 1)) (h2 : ¬ a < 0 → a ≤ 2000 → (A.1.1.length = 6 ∨ openF A.1) → P 0 (stM S 9 0 2))
    (h0 : ¬ a < 0 → a ≤ 2000 → A.1.1.length < 6 → ¬ openF A.1 → ∀ S2, mFr S S2 → S2.2.1 9 0 = 0 → MA S2 ((A.1.1 ++ [(a, [], [], [], [])], A.1.2), A.2) → P (nI A.1.1.length) S2) : wp_X11_glyph S a P := by
  have h6 := hok.1.1
  obtain ⟨⟨m1, m2, m3⟩, m4, m5⟩ := id hm
  have er : ∀ s0 : Int32, ¬ s0 ≤ 0 → P 0 (stM S 9 0 s0) → wp_X11_glyph_36 a S s0 P := fun s0 q hp => by
    intro S14 e14
    rw [e14, stM_self]
    exact ⟨fun z => absurd z q, fun _ => hp⟩
  unfold wp_X11_glyph wp_X11_glyph_31
  refine sm_out (fun q => ⟨fun z => absurd z (by decide), fun _ => er 1 (by decide) (h1 (q.imp_right fun q z => q ((lt_succ32 (n := 2000) (by omega)).mpr z)))⟩) (fun q q2 => ⟨fun _ => ?_, fun z => absurd rfl z⟩)
  have q3 : a ≤ 2000 := (lt_succ32 (n := 2000) (by omega)).mp q2
  refine pk_eq A.1.1.length 6 (fun hl => er 2 (by decide) (h2 q q3 (Or.inl hl))) (fun hl => ?_) m1
  refine sm_open hm.1 hok.1 (fun ho => ⟨fun z => absurd z (by decide), fun _ => er 2 (by decide) (h2 q q3 (Or.inr ho))⟩) (fun ho => ⟨fun _ => ?_, fun z => absurd rfl z⟩)
  intro S14 e14
  have hn : A.1.1.length < 6 := by omega
  have e91 : S14.2.1 9 1 = nI A.1.1.length := by rw [e14, stM_p (by omega)]; exact m1
  have cl : (S14.2.1 9 1).toNatClampNeg = A.1.1.length := pk_cl _ e91
  refine ⟨fun _ => ?_, fun z => absurd (by rw [e14, stM_self]; exact Int32.le_refl 0) z⟩
  refine ⟨pk_in _ _ (show A.1.1.length < 6 from hn) e91 (by decide), fun S16 e16 => ?_⟩
  have e16' : S16.2.1 9 1 = nI A.1.1.length := by rw [e16, stM_k (by omega)]; exact e91
  refine ⟨pk_in _ _ (show A.1.1.length < 6 from hn) e16' (by decide), fun S17 e17 => ?_⟩
  have e17' : S17.2.1 9 1 = nI A.1.1.length := by rw [e17, stM_k (by omega)]; exact e16'
  refine ⟨pk_in _ _ (show A.1.1.length < 6 from hn) e17' (by decide), fun S18 e18 S19 e19 => ?_⟩
  have e18' : S18.2.1 9 1 = nI A.1.1.length := by rw [e18, stM_k (by omega)]; exact e17'
  have e19' : S19 = stM (stM (stM (stM (stM S 9 0 0) 10 A.1.1.length a) 11 A.1.1.length 0) 12 A.1.1.length 0) 9 1 (nI (A.1.1.length + 1)) := by
    rw [e19, e18', nI_1, e18, e17', e17, e16', e16, e91, e14, nI_clamp (by omega)]
  have k1 : ∀ k p, S19.2.1 k p = if k = 9 ∧ p = 1 then nI (A.1.1.length + 1) else if k = 12 ∧ p = A.1.1.length then 0 else if k = 11 ∧ p = A.1.1.length then 0 else if k = 10 ∧ p = A.1.1.length then a else if k = 9 ∧ p = 0 then 0 else S.2.1 k p := fun k p => by rw [e19']; simp only [stM_get]
  have hv : S19.2.1 9 1 - 1 = nI A.1.1.length := by rw [k1, if_pos ⟨rfl, rfl⟩, nI_pred]
  rw [hv]
  refine h0 q q3 hn ho S19 ?_ (by rw [k1]; simp) ⟨⟨by rw [k1]; simp, fun g G e => ?_, fun t ht => ?_⟩, ⟨by rw [k1]; simp; exact m4.1, fun k hk => by rw [k1]; simp; exact m4.2 k hk⟩, by rw [k1]; simp; exact m5⟩
  · rw [e19']
    exact mfM (mfM (mfM (mfM (mfM (mFr.refl S) (by omega) (by omega)) (by omega) (by omega)) (by omega) (by omega)) (by omega) (by omega)) (by omega) (by omega)
  · simp only [List.getElem?_append] at e
    split at e
    · rename_i hg
      have hg2 : g ≠ A.1.1.length := by omega
      obtain ⟨g1, g2, g3, g4⟩ := m2 g G e
      refine ⟨by rw [k1]; simp [hg2]; exact g1, by rw [k1]; simp [hg2]; exact g2, by rw [k1]; simp [hg2]; exact g3, fun p hp => ?_⟩
      simp only [k1]
      simp
      have := g4 p hp
      simp at this
      exact this
    · rename_i hg
      have : g = A.1.1.length := by
        rcases Nat.eq_zero_or_pos (g - A.1.1.length) with z | z
        · omega
        · rw [List.getElem?_eq_none (by simp; omega)] at e; exact absurd e (by simp)
      subst this
      simp at e
      subst e
      refine ⟨by rw [k1]; simp, by rw [k1]; simp; rfl, by rw [k1]; simp; rfl, fun p hp => ?_⟩
      simp at hp
  · rw [k1]; simp
    refine ⟨(m3 t ht).1, fun k hk => ?_⟩
    rw [k1]; simp
    have := (m3 t ht).2 k hk
    simp at this
    exact this
theorem op_glyph {S : St} {a : Int32} {V : Prop} {Z : Int32 → Int32 → St → Prop} (hV : V) (h : Sim S) (hZ : ∀ k b S2, S2.2.1 9 0 = k → (k = 0 → S2.2.2.2 = b.toInt64) → Sim S2 → Z k b S2) : wp_L_glyph S a (fun k S1 => V ∧ wp_X11_glyph S1 a (fun b S2 => Z k b S2)) := by
  obtain ⟨A, hk, hc, hm⟩ := h
  refine cl_glyph hk hc (fun q => ⟨hV, ?_⟩) (fun q q2 q3 => ⟨hV, ?_⟩) (fun q q2 q3 q4 S1 hc1 hf => ⟨hV, ?_⟩)
  · refine mo_glyph hk hm (fun _ => hZ _ _ _ stM_self (fun z => absurd z (by decide)) ⟨A, hk, hc.mo (mfThr _), hm.thr _⟩) (fun z z2 => ?_) (fun z z2 => ?_)
    · exact absurd q (fun w => w.elim z (fun w => w z2))
    · exact absurd q (fun w => w.elim z (fun w => w z2))
  · refine mo_glyph hk hm (fun z => absurd z (fun w => w.elim q (fun w => w q2))) (fun _ _ _ => hZ _ _ _ stM_self (fun z => absurd z (by decide)) ⟨A, hk, hc.mo (mfThr _), hm.thr _⟩) (fun _ _ z z2 => absurd q3 (fun w => w.elim (fun w => by omega) z2))
  · have hk2 : okA ((A.1.1 ++ [(a, [], [], [], [])], A.1.2), A.2) := ⟨okF_add hk.1 q3 q4 (nI_of3 (by omega) q q2), hk.2⟩
    refine mo_glyph (S := stO S1 (nI A.1.1.length).toInt64) hk (hm.cl (cfO hf)) (fun z => absurd z (fun w => w.elim q (fun w => w q2))) (fun _ _ z => absurd z (fun w => w.elim (fun w => by omega) q4)) (fun _ _ _ _ S2 f2 t2 hm2 => ?_)
    refine hZ _ _ _ t2 (fun _ => by rw [f2.2.1]; rfl) ⟨_, hk2, ?_, hm2⟩
    exact CA.mo (S := stO S1 (nI A.1.1.length).toInt64) hc1 f2
