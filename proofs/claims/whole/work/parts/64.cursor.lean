/-! reading: bytes one by one -/
def vb (L : List Int32) (p : Nat) : Nat := va32 (L.getD p 0)
theorem vb_nI {L : List Int32} (h : ∀ b ∈ L, byt b) (p : Nat) : L.getD p 0 = nI (vb L p) := (byt_va (byt_getD h p)).1
theorem vb_lt {L : List Int32} (h : ∀ b ∈ L, byt b) (p : Nat) : vb L p < 256 := (byt_va (byt_getD h p)).2
/-- the class's cursor -/
def cu (S : St) (c e p : Nat) : Prop := S.2.1 (1000 + c) 0 = nI e ∧ S.2.1 (1000 + c) 1 = nI p ∧ S.2.1 (1000 + c) 2 = 0
def br (S : St) (c : Nat) : Prop := S.2.1 (1000 + c) 2 = 1
def cf (c : Nat) (S S2 : St) : Prop := S2.1 = S.1 ∧ S2.2.2 = S.2.2 ∧ ∀ k p, k ≠ 1000 + c → S2.2.1 k p = S.2.1 k p
theorem cf.refl (c : Nat) (S : St) : cf c S S := ⟨rfl, rfl, fun _ _ _ => rfl⟩
theorem cf.trans {c : Nat} {S S1 S2 : St} (h : cf c S S1) (h2 : cf c S1 S2) : cf c S S2 := ⟨h2.1.trans h.1, h2.2.1.trans h.2.1, fun k p a => (h2.2.2 k p a).trans (h.2.2 k p a)⟩
theorem cf_m (c : Nat) (S : St) (p : Nat) (v : Int32) : cf c S (stM S (1000 + c) p v) := ⟨rfl, rfl, fun k p' h => stM_k h⟩
theorem cf_next (S : St) (c r : Nat) : cf c S (fs_X2_next S c r) := by
  unfold fs_X2_next fs_X2_next_18
  split
  · split
    · exact cf_m c S _ _
    · exact cf_m c S _ _
  · exact cf_m c S _ _
theorem nx_ok {S : St} {c r e p : Nat} {L : List Int32} (h : cu S c e p) (hr : S.1 r = L) (hb : ∀ b ∈ L, byt b) (hp : p < e) (he : e < 2 ^ 31) : fv_X2_next S c r = nI (vb L p) ∧ cu (fs_X2_next S c r) c e (p + 1) := by
  have h1 : (S.2.1 (1000 + c) 1) < (S.2.1 (1000 + c) 0) := by rw [h.1, h.2.1]; exact (nI_505 (by omega) (by omega)).mpr hp
  unfold fv_X2_next fs_X2_next
  rw [if_pos h.2.2, if_pos h1, if_pos h.2.2, if_pos h1, h.2.1, rGet_nI (by omega), hr]
  refine ⟨vb_nI hb p, by rw [stM_p (by omega)]; exact h.1, by rw [stM_self, nI_1], by rw [stM_p (by omega)]; exact h.2.2⟩
theorem nx_end {S : St} {c r e p : Nat} (h : cu S c e p) (hp : e ≤ p) (he : p < 2 ^ 31) : fv_X2_next S c r = 0 ∧ br (fs_X2_next S c r) c := by
  have h1 : ¬ (S.2.1 (1000 + c) 1) < (S.2.1 (1000 + c) 0) := by rw [h.1, h.2.1]; exact fun z => absurd ((nI_505 (by omega) (by omega)).mp z) (by omega)
  unfold fv_X2_next fs_X2_next fv_X2_next_18 fs_X2_next_18
  rw [if_pos h.2.2, if_neg h1, if_pos h.2.2, if_neg h1]
  exact ⟨rfl, stM_self⟩
theorem one_ne : ¬ (1 : Int32) = 0 := by decide
theorem nx_br {S : St} {c r : Nat} (h : br S c) : fv_X2_next S c r = 0 ∧ br (fs_X2_next S c r) c := by
  have h1 : ¬ S.2.1 (1000 + c) 2 = 0 := by rw [h]; decide
  unfold fv_X2_next fs_X2_next fv_X2_next_18 fs_X2_next_18
  rw [if_neg h1, if_neg h1]
  exact ⟨rfl, stM_self⟩
/-- a short number, a long number -/
def ns (L : List Int32) (e p : Nat) : Option (Nat × Nat) :=
  if p < e then (if vb L p < 253 then some (vb L p, p + 1) else if vb L p = 253 then (if p + 2 < e then some (256 * vb L (p + 1) + vb L (p + 2), p + 3) else none) else if p + 1 < e then some ((if vb L p = 254 then 506 else 253) + vb L (p + 1), p + 2) else none) else none
def nl (L : List Int32) (e p : Nat) : Option (Nat × Nat) :=
  if p < e then (if vb L p = 128 then none else if vb L p < 128 then some (vb L p, p + 1) else if p + 1 < e then (if vb L (p + 1) < 128 then some (128 * (vb L p % 128) + vb L (p + 1), p + 2) else if p + 2 < e then (if vb L (p + 2) < 128 then some (128 * (128 * (vb L p % 128) + vb L (p + 1) % 128) + vb L (p + 2), p + 3) else none) else none) else none) else none
theorem ns_b {L : List Int32} {e p v p' : Nat} (hb : ∀ b ∈ L, byt b) (h : ns L e p = some (v, p')) : v < 65536 ∧ p < p' ∧ p' ≤ e := by
  have h0 := vb_lt hb p
  have h1 := vb_lt hb (p + 1)
  have h2 := vb_lt hb (p + 2)
  unfold ns at h
  split at h
  · split at h
    · simp at h; omega
    · split at h
      · split at h
        · simp at h; omega
        · simp at h
      · split at h
        · simp at h
          obtain ⟨h, h'⟩ := h
          split at h <;> omega
        · simp at h
  · simp at h
theorem nl_b {L : List Int32} {e p v p' : Nat} (hb : ∀ b ∈ L, byt b) (h : nl L e p = some (v, p')) : v < 2097152 ∧ p < p' ∧ p' ≤ e := by
  have h0 := vb_lt hb p
  have h1 := vb_lt hb (p + 1)
  have h2 := vb_lt hb (p + 2)
  unfold nl at h
  split at h
  · split at h
    · simp at h
    · split at h
      · simp at h; omega
      · split at h
        · split at h
          · simp at h; omega
          · split at h
            · split at h
              · simp at h; omega
              · simp at h
            · simp at h
        · simp at h
  · simp at h
theorem cf_short (S : St) (c r : Nat) : cf c S (fs_X2_nextShort S c r) := by
  unfold fs_X2_nextShort
  split
  · exact ((cf_next _ _ _).trans (cf_next _ _ _)).trans (cf_next _ _ _)
  · split
    · exact (cf_next _ _ _).trans (cf_next _ _ _)
    · split
      · exact (cf_next _ _ _).trans (cf_next _ _ _)
      · exact cf_next _ _ _
theorem sh_br {S : St} {c r : Nat} (h : br S c) : br (fs_X2_nextShort S c r) c := by
  unfold fs_X2_nextShort
  have h1 := nx_br (r := r) h
  rw [h1.1, if_neg (by decide), if_neg (by decide), if_neg (by decide)]
  exact h1.2
theorem nI_lit {a b : Nat} (ha : a < 2 ^ 31) (hb : b < 2 ^ 31) : nI a = nI b ↔ a = b := nI_eq ha hb
theorem sh_none {S : St} {c r e p : Nat} {L : List Int32} (h : cu S c e p) (hr : S.1 r = L) (hb : ∀ b ∈ L, byt b) (he : e < 2 ^ 30) (hp : p ≤ e) (hn : ns L e p = none) : br (fs_X2_nextShort S c r) c := by
  unfold ns at hn
  by_cases hpe : p < e
  · rw [if_pos hpe] at hn
    obtain ⟨a1, a2⟩ := nx_ok h hr hb hpe (by omega)
    have ar : (fs_X2_next S c r).1 r = L := by rw [(cf_next S c r).1]; exact hr
    have hv := vb_lt hb p
    unfold fs_X2_nextShort
    rw [a1]
    by_cases h3 : vb L p < 253
    · rw [if_pos h3] at hn; simp at hn
    · rw [if_neg h3] at hn
      by_cases h4 : vb L p = 253
      · rw [if_pos h4] at hn
        rw [if_pos (show nI (vb L p) = 253 by rw [h4]; rfl)]
        have hpe2 : ¬ p + 2 < e := fun z => by rw [if_pos z] at hn; simp at hn
        by_cases hp1 : p + 1 < e
        · obtain ⟨b1, b2⟩ := nx_ok a2 ar hb hp1 (by omega)
          exact (nx_end b2 (by omega) (by omega)).2
        · exact (nx_br (nx_end a2 (by omega) (by omega)).2).2
      · rw [if_neg h4] at hn
        have hp1 : ¬ p + 1 < e := fun z => by rw [if_pos z] at hn; simp at hn
        rw [if_neg (show ¬ nI (vb L p) = 253 from fun z => h4 ((nI_lit (b := 253) (by omega) (by omega)).mp z))]
        by_cases h5 : vb L p = 254
        · rw [if_pos (show nI (vb L p) = 254 by rw [h5]; rfl)]
          exact (nx_end a2 (by omega) (by omega)).2
        · rw [if_neg (show ¬ nI (vb L p) = 254 from fun z => h5 ((nI_lit (b := 254) (by omega) (by omega)).mp z)), if_pos (show nI (vb L p) = 255 by rw [show vb L p = 255 by omega]; rfl)]
          exact (nx_end a2 (by omega) (by omega)).2
  · obtain ⟨a1, a2⟩ := nx_end (r := r) h (by omega) (by omega)
    unfold fs_X2_nextShort
    rw [a1, if_neg (by decide), if_neg (by decide), if_neg (by decide)]
    exact a2
theorem sh_some {S : St} {c r e p v p' : Nat} {L : List Int32} (h : cu S c e p) (hr : S.1 r = L) (hb : ∀ b ∈ L, byt b) (he : e < 2 ^ 30) (hn : ns L e p = some (v, p')) : fv_X2_nextShort S c r = nI v ∧ cu (fs_X2_nextShort S c r) c e p' := by
  unfold ns at hn
  by_cases hpe : p < e
  · rw [if_pos hpe] at hn
    obtain ⟨a1, a2⟩ := nx_ok h hr hb hpe (by omega)
    have ar : (fs_X2_next S c r).1 r = L := by rw [(cf_next S c r).1]; exact hr
    have hv := vb_lt hb p
    unfold fs_X2_nextShort fv_X2_nextShort
    rw [a1]
    by_cases h3 : vb L p < 253
    · rw [if_pos h3] at hn
      simp at hn
      rw [if_neg (show ¬ nI (vb L p) = 253 from fun z => absurd ((nI_lit (b := 253) (by omega) (by omega)).mp z) (by omega)), if_neg (show ¬ nI (vb L p) = 254 from fun z => absurd ((nI_lit (b := 254) (by omega) (by omega)).mp z) (by omega)), if_neg (show ¬ nI (vb L p) = 255 from fun z => absurd ((nI_lit (b := 255) (by omega) (by omega)).mp z) (by omega)), if_neg (show ¬ nI (vb L p) = 253 from fun z => absurd ((nI_lit (b := 253) (by omega) (by omega)).mp z) (by omega)), if_neg (show ¬ nI (vb L p) = 254 from fun z => absurd ((nI_lit (b := 254) (by omega) (by omega)).mp z) (by omega)), if_neg (show ¬ nI (vb L p) = 255 from fun z => absurd ((nI_lit (b := 255) (by omega) (by omega)).mp z) (by omega))]
      rw [← hn.1, ← hn.2]
      exact ⟨rfl, a2⟩
    · rw [if_neg h3] at hn
      by_cases h4 : vb L p = 253
      · rw [if_pos h4] at hn
        have e4 : nI (vb L p) = 253 := by rw [h4]; rfl
        rw [if_pos e4, if_pos e4]
        by_cases hp2 : p + 2 < e
        · rw [if_pos hp2] at hn
          simp at hn
          obtain ⟨b1, b2⟩ := nx_ok a2 ar hb (show p + 1 < e by omega) (by omega)
          have brr : (fs_X2_next (fs_X2_next S c r) c r).1 r = L := by rw [(cf_next _ c r).1]; exact ar
          obtain ⟨c1, c2⟩ := nx_ok b2 brr hb (show p + 1 + 1 < e by omega) (by omega)
          rw [b1, c1, ← hn.1, ← hn.2]
          refine ⟨?_, c2⟩
          simp only [lit32, pk_mul, nI_add]
          rw [Nat.mul_comm]
        · rw [if_neg hp2] at hn; simp at hn
      · rw [if_neg h4] at hn
        have e4 : ¬ nI (vb L p) = 253 := fun z => h4 ((nI_lit (b := 253) (by omega) (by omega)).mp z)
        rw [if_neg e4, if_neg e4]
        by_cases hp1 : p + 1 < e
        · rw [if_pos hp1] at hn
          obtain ⟨b1, b2⟩ := nx_ok a2 ar hb hp1 (by omega)
          by_cases h5 : vb L p = 254
          · have e5 : nI (vb L p) = 254 := by rw [h5]; rfl
            rw [if_pos h5] at hn
            simp at hn
            rw [if_pos e5, if_pos e5, b1, ← hn.1, ← hn.2]
            exact ⟨nI_add 506 _, b2⟩
          · have e5 : ¬ nI (vb L p) = 254 := fun z => h5 ((nI_lit (b := 254) (by omega) (by omega)).mp z)
            have e6 : nI (vb L p) = 255 := by rw [show vb L p = 255 by omega]; rfl
            rw [if_neg h5] at hn
            simp at hn
            rw [if_neg e5, if_neg e5, if_pos e6, if_pos e6, b1, ← hn.1, ← hn.2]
            exact ⟨nI_add 253 _, b2⟩
        · rw [if_neg hp1] at hn; simp at hn
  · rw [if_neg hpe] at hn; simp at hn
theorem md128v {v : Nat} (h : v < 256) : nI v - nI v / 128 * 128 = nI (v % 128) := md128 (by omega)
theorem sp_nl_br {S : St} {c r : Nat} {P : Int32 → St → Prop} (h : br S c) (hP : ∀ v S2, cf c S S2 → br S2 c → P v S2) : wp_X2_nextLong S c r P := by
  intro X4 X28 X55 x4 x28 x55
  have h1 := nx_br (r := r) h
  refine x4 _ _ _ ⟨fun z => absurd z (by decide), fun _ r12 S11 e12 e11 => ⟨fun z => absurd rfl z, fun _ => ⟨fun _ => x28 _ _ _ _ (fun x15 e15 => ?_), fun z => ?_⟩⟩⟩
  · rw [e12, h1.1]
    refine ⟨fun z => absurd z (by decide), fun _ => hP _ _ (by rw [e11]; exact cf_next _ _ _) (by rw [e11]; exact h1.2)⟩
  · rw [e12, h1.1] at z; exact absurd z (by decide)
theorem sp_nl {S : St} {c r e p : Nat} {L : List Int32} {P : Int32 → St → Prop} (h : cu S c e p) (hr : S.1 r = L) (hb : ∀ b ∈ L, byt b) (he : e < 2 ^ 30) (hp : p ≤ e) (h1 : ∀ v p' S2, nl L e p = some (v, p') → cf c S S2 → cu S2 c e p' → P (nI v) S2) (h0 : ∀ v S2, nl L e p = none → cf c S S2 → br S2 c → P v S2) : wp_X2_nextLong S c r P := by
  intro X4 X28 X55 x4 x28 x55
  have brk : ∀ S2, nl L e p = none → cf c S S2 → X55 S2 := fun S2 hn f => x55 _ (fun S18 e18 => h0 _ _ hn (by rw [e18]; exact f.trans (cf_m c S2 _ _)) (by rw [e18]; exact stM_self))
  by_cases hpe : p < e
  · obtain ⟨a1, a2⟩ := nx_ok h hr hb hpe (by omega)
    have fa := cf_next S c r
    have ar : (fs_X2_next S c r).1 r = L := by rw [fa.1]; exact hr
    have v0 := vb_lt hb p
    have en : nl L e p = (if vb L p = 128 then none else if vb L p < 128 then some (vb L p, p + 1) else if p + 1 < e then (if vb L (p + 1) < 128 then some (128 * (vb L p % 128) + vb L (p + 1), p + 2) else if p + 2 < e then (if vb L (p + 2) < 128 then some (128 * (128 * (vb L p % 128) + vb L (p + 1) % 128) + vb L (p + 2), p + 3) else none) else none) else none) := by unfold nl; rw [if_pos hpe]
    refine x4 _ _ _ ⟨fun z => absurd z (by decide), fun _ r12 S11 e12 e11 => ⟨fun z => absurd rfl z, fun _ => ⟨fun z => x28 _ _ _ _ (fun x15 e15 => ?_), fun z => ?_⟩⟩⟩
    · rw [e12, a1] at z e15 ⊢
      rw [e11]
      have n128 : ¬ vb L p = 128 := fun q => z (by rw [q]; rfl)
      rw [if_neg n128] at en
      have e15' : x15 = nI (vb L p % 128) := by
        rw [e15, md128v v0, show (0 : Int32) * 128 = nI 0 by decide, nI_add, Nat.zero_add]
      refine pk_le 128 (vb L p) (fun q x17 e17 => ?_) (fun q => ?_) rfl
      · rw [if_neg (show ¬ vb L p < 128 by omega)] at en
        rw [e17, e15']
        by_cases hp1 : p + 1 < e
        · rw [if_pos hp1] at en
          obtain ⟨b1, b2⟩ := nx_ok a2 ar hb hp1 (by omega)
          have fb := cf_next (fs_X2_next S c r) c r
          have brr : (fs_X2_next (fs_X2_next S c r) c r).1 r = L := by rw [fb.1]; exact ar
          have v1 := vb_lt hb (p + 1)
          refine x4 _ _ _ ⟨fun z => absurd z (by decide), fun _ r12 S11 e12 e11 => ⟨fun _ => x28 _ _ _ _ (fun x15 e15 => ?_), fun z => absurd z (by decide)⟩⟩
          rw [e12, b1] at e15 ⊢
          rw [e11]
          have e15b : x15 = nI (128 * (vb L p % 128) + vb L (p + 1) % 128) := by
            rw [e15, md128v v1]
            simp only [lit32, pk_mul, nI_add]
            rw [Nat.mul_comm]
          refine pk_le 128 (vb L (p + 1)) (fun q x17 e17 => ?_) (fun q => ?_) rfl
          · rw [if_neg (show ¬ vb L (p + 1) < 128 by omega)] at en
            rw [e17, e15b]
            by_cases hp2 : p + 2 < e
            · rw [if_pos hp2] at en
              obtain ⟨c1, c2⟩ := nx_ok b2 brr hb (show p + 1 + 1 < e by omega) (by omega)
              have fc := cf_next (fs_X2_next (fs_X2_next S c r) c r) c r
              have v2 := vb_lt hb (p + 2)
              refine x4 _ _ _ ⟨fun z => absurd z (by decide), fun _ r12 S11 e12 e11 => ⟨fun _ => x28 _ _ _ _ (fun x15 e15 => ?_), fun z => absurd z (by decide)⟩⟩
              rw [e12, c1] at e15 ⊢
              rw [e11]
              refine pk_le 128 (vb L (p + 2)) (fun q x17 e17 => ?_) (fun q => ?_) rfl
              · rw [if_neg (show ¬ vb L (p + 2) < 128 by omega)] at en
                rw [e17]
                exact x4 _ _ _ ⟨fun _ => brk _ en ((fa.trans fb).trans fc), fun z => absurd (by decide) z⟩
              · rw [if_pos q] at en
                have : x15 = nI (128 * (128 * (vb L p % 128) + vb L (p + 1) % 128) + vb L (p + 2)) := by
                  rw [e15, md128v v2, Nat.mod_eq_of_lt (show vb L (p + 2) < 128 from q)]
                  simp only [lit32, pk_mul, nI_add]
                  rw [Nat.mul_comm]
                rw [this]
                exact h1 _ _ _ en ((fa.trans fb).trans fc) c2
            · rw [if_neg hp2] at en
              obtain ⟨c1, c2⟩ := nx_end (r := r) b2 (show e ≤ p + 1 + 1 by omega) (by omega)
              have fc := cf_next (fs_X2_next (fs_X2_next S c r) c r) c r
              refine x4 _ _ _ ⟨fun z => absurd z (by decide), fun _ r12 S11 e12 e11 => ⟨fun _ => x28 _ _ _ _ (fun x15 e15 => ?_), fun z => absurd z (by decide)⟩⟩
              rw [e12, c1, e11]
              exact ⟨fun z => absurd z (by decide), fun _ => h0 _ _ en ((fa.trans fb).trans fc) c2⟩
          · rw [if_pos q] at en
            rw [e15b, Nat.mod_eq_of_lt q]
            exact h1 _ _ _ en (fa.trans fb) b2
        · rw [if_neg hp1] at en
          obtain ⟨b1, b2⟩ := nx_end (r := r) a2 (show e ≤ p + 1 by omega) (by omega)
          have fb := cf_next (fs_X2_next S c r) c r
          refine x4 _ _ _ ⟨fun z => absurd z (by decide), fun _ r12 S11 e12 e11 => ⟨fun _ => x28 _ _ _ _ (fun x15 e15 => ?_), fun z => absurd z (by decide)⟩⟩
          rw [e12, b1, e11]
          exact ⟨fun z => absurd z (by decide), fun _ => h0 _ _ en (fa.trans fb) b2⟩
      · rw [if_pos q] at en
        rw [e15', Nat.mod_eq_of_lt q]
        exact h1 _ _ _ en fa a2
    · rw [e12, a1] at z
      have := (nI_lit (b := 128) (by omega) (by omega)).mp z
      rw [if_pos this] at en
      rw [e11]
      exact brk _ en fa
  · have en : nl L e p = none := by unfold nl; rw [if_neg hpe]
    obtain ⟨a1, a2⟩ := nx_end (r := r) h (show e ≤ p by omega) (by omega)
    refine x4 _ _ _ ⟨fun z => absurd z (by decide), fun _ r12 S11 e12 e11 => ⟨fun z => absurd rfl z, fun _ => ⟨fun z => x28 _ _ _ _ (fun x15 e15 => ?_), fun z => ?_⟩⟩⟩
    · rw [e12, a1, e11]
      exact ⟨fun z => absurd z (by decide), fun _ => h0 _ _ en (cf_next S c r) a2⟩
    · rw [e12, a1] at z; exact absurd z (by decide)
/-! the reference's reading -/
def kC (k p : Nat) : Prop := k = 9 ∧ (p = 8 ∨ p = 11)
def mu (S : St) (L : List Int32) (il e p : Nat) : Prop := S.2.1 9 8 = nI p ∧ S.2.1 9 9 = nI e ∧ S.2.1 9 10 = nI il ∧ S.2.1 9 11 = 0 ∧ (∀ k, k < e → S.2.1 (29 + il) k = L.getD k 0) ∧ e ≤ 1100 + 400 * (1 - il) ∧ il ≤ 1
def bd (S : St) : Prop := S.2.1 9 11 = 1
theorem sm_next_bd {S : St} {P : Int32 → St → Prop} (h : bd S) (hP : ∀ S2, fr kC S S2 → bd S2 → P 0 S2) : wp_X11_next S P := by
  have k18 : wp_X11_next_18 S P := fun S6 e6 => hP S6 (by rw [e6]; exact fr_m (fr.refl S) (by unfold kC; omega)) (by rw [e6]; exact stM_self)
  unfold wp_X11_next
  refine ⟨fun _ => k18, fun _ => ⟨fun z => ?_, fun _ => k18⟩⟩
  rw [h] at z; exact absurd z (by decide)
theorem sm_next {S : St} {L : List Int32} {il e p : Nat} {P : Int32 → St → Prop} (h : mu S L il e p) (hb : ∀ b ∈ L, byt b) (hp : p ≤ e) (h1 : ∀ S2, p < e → fr kC S S2 → mu S2 L il e (p + 1) → P (nI (vb L p)) S2) (h0 : ∀ S2, e ≤ p → fr kC S S2 → bd S2 → P 0 S2) : wp_X11_next S P := by
  obtain ⟨m1, m2, m3', m4, m5, m6, m7⟩ := h
  unfold wp_X11_next
  refine pk_le e p (fun z S6 e6 => h0 S6 z (by rw [e6]; exact fr_m (fr.refl S) (by unfold kC; omega)) (by rw [e6]; exact stM_self)) (fun z => ⟨fun _ S9 e9 => ?_, fun q => absurd m4 q⟩) m2 m1
  have f9 : fr kC S S9 := by rw [e9]; exact fr_m (fr.refl S) (by unfold kC; omega)
  have a8 : S9.2.1 9 8 = nI (p + 1) := by rw [e9, stM_self, m1, nI_1]
  have a8' : S9.2.1 9 8 - 1 = nI p := by rw [a8, nI_pred]
  have a10 : S9.2.1 9 10 = nI il := by rw [e9, stM_p (by omega)]; exact m3'
  have u9 : mu S9 L il e (p + 1) := ⟨a8, by rw [e9, stM_p (by omega)]; exact m2, a10, by rw [e9, stM_p (by omega)]; exact m4, fun k hk => by rw [e9, stM_k (by omega)]; exact m5 k hk, m6, m7⟩
  have key : S9.2.1 (29 + il) p = nI (vb L p) := by rw [u9.2.2.2.2.1 p z]; exact vb_nI hb p
  rw [a8', nI_clamp (by omega)]
  refine pk_eq il 0 (fun i0 => ⟨pk_in p _ (show p < 1500 by omega) rfl (by decide), ?_⟩) (fun i0 => ⟨pk_in p _ (show p < 1100 by rw [show il = 1 by omega] at m6; omega) rfl (by decide), ?_⟩) a10 rfl
  · rw [i0] at key
    show P (S9.2.1 29 p) S9
    rw [show S9.2.1 29 p = nI (vb L p) from key]
    exact h1 S9 z f9 u9
  · rw [show il = 1 by omega] at key
    show P (S9.2.1 30 p) S9
    rw [show S9.2.1 30 p = nI (vb L p) from key]
    exact h1 S9 z f9 u9
def kB (k p : Nat) : Prop := k = 9 ∧ p = 11
theorem frCB {S S1 : St} (h : fr kB S S1) : fr kC S S1 := h.mono (fun k p z => by unfold kB at z; unfold kC; omega)
theorem stM_same {S : St} {k p : Nat} {v : Int32} (h : S.2.1 k p = v) : stM S k p v = S := by
  unfold stM va_up
  have : (fun k' => if k' = k then (fun p' => if p' = p then v else S.2.1 k p') else S.2.1 k') = S.2.1 := by
    funext k' p'
    by_cases h1 : k' = k
    · subst h1
      by_cases h2 : p' = p
      · subst h2; simp [h]
      · simp [h2]
    · simp [h1]
  simp only [this]
theorem sm_check {S : St} {b : Int32} {P : St → Prop} (hb : S.2.1 9 11 = 0 ∨ S.2.1 9 11 = 1) (h1 : S.2.1 9 11 = 0 → ¬ b = 0 → P S) (h0 : (S.2.1 9 11 = 1 ∨ b = 0) → ∀ S2, fr kB S S2 → bd S2 → P S2) : wp_X11_check S b P := by
  unfold wp_X11_check wp_X11_check_12 wp_X11_check_17
  have k1 : (S.2.1 9 11 = 1 ∨ b = 0) → (((1 : Int32) = 0 ∨ (1 : Int32) = 1) ∧ ∀ S4 : St, S4 = stM S 9 11 1 → P S4) := fun q => ⟨Or.inr rfl, fun S4 e4 => h0 q S4 (by rw [e4]; exact fr_m (fr.refl S) (by unfold kB; omega)) (by rw [e4]; exact stM_self)⟩
  refine ⟨fun z => k1 (Or.inl (hb.resolve_left z)), fun z => ⟨fun q => ⟨Or.inl rfl, fun S4 e4 => ?_⟩, fun q => k1 (Or.inr q)⟩⟩
  rw [e4, stM_same z]; exact h1 z q
