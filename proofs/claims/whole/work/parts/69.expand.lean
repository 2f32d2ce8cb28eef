/-! the reference reads bits -/
def mq (S : St) (B : List Int32) (q : Nat) : Prop := mu S B 0 B.length ((q + 7) / 8) ∧ S.2.1 9 12 = nI (8 * ((q + 7) / 8) - q) ∧ (q % 8 ≠ 0 → S.2.1 9 13 = nI (vb B (q / 8)))
def kQ (k p : Nat) : Prop := k = 9 ∧ (p = 8 ∨ p = 11 ∨ p = 12 ∨ p = 13)
theorem frQC {S S1 : St} (h : fr kC S S1) : fr kQ S S1 := h.mono (fun k p z => by unfold kC at z; unfold kQ; omega)
theorem frQB {S S1 : St} (h : fr kB S S1) : fr kQ S S1 := h.mono (fun k p z => by unfold kB at z; unfold kQ; omega)
theorem sm_bt_bd {S : St} {P : Int32 → St → Prop} (h : bd S) (hP : ∀ v S2, fr kQ S S2 → bd S2 → P v S2) : wp_X11_nextBit S P := by
  unfold wp_X11_nextBit wp_X11_nextBit_21
  have k21 : ∀ S', fr kQ S S' → bd S' → ∀ S7 : St, S7 = stM S' 9 12 ((S'.2.1 9 12) - 1) → P (((S7.2.1 9 13) >>> ((S7.2.1 9 12) &&& 31)) &&& 1) S7 := fun S' f b S7 e7 => hP _ _ (by rw [e7]; exact fr_m f (by unfold kQ; omega)) (by rw [e7]; unfold bd; rw [stM_p (by omega)]; exact b)
  refine ⟨fun _ => k21 S (fr.refl S) h, fun _ => sm_next_bd h (fun S9 f9 b9 S11 e11 S12 e12 => k21 S12 ?_ ?_)⟩
  · rw [e12, e11]; exact fr_m (fr_m (frQC f9) (by unfold kQ; omega)) (by unfold kQ; omega)
  · rw [e12, e11]; unfold bd; rw [stM_p (by omega), stM_p (by omega)]; exact b9
theorem shr7 : ∀ i, i < 8 → ((nI i &&& 31).toBitVec.smod 32).toNat = i := by decide +kernel
theorem mu_m {S : St} {L : List Int32} {il e p k q : Nat} {v : Int32} (h : mu S L il e p) (hk : (k = 9 ∧ (q < 8 ∨ 11 < q)) ∨ (k ≠ 9 ∧ k ≠ 29 ∧ k ≠ 30)) : mu (stM S k q v) L il e p := by
  refine h.keep (K := fun k' q' => k' = k ∧ q' = q) (fr_m (fr.refl S) ⟨rfl, rfl⟩) (fun k' q' z => ?_)
  rw [z.1, z.2]
  omega
theorem sm_bt {S : St} {B : List Int32} {q : Nat} {P : Int32 → St → Prop} (h : mq S B q) (hb : ∀ b ∈ B, byt b) (hl : B.length ≤ 1500) (hq : q ≤ 8 * B.length) (h1 : ∀ S2, q < 8 * B.length → fr kQ S S2 → mq S2 B (q + 1) → P (nI (bt B q)) S2) (h0 : ∀ S2, q = 8 * B.length → fr kQ S S2 → bd S2 → P 0 S2) : wp_X11_nextBit S P := by
  obtain ⟨u, l12, l13⟩ := h
  unfold wp_X11_nextBit
  have hv := vb_lt hb (q / 8)
  have k21 : ∀ S', q < 8 * B.length → fr kQ S S' → mu S' B 0 B.length (q / 8 + 1) → S'.2.1 9 12 = nI (8 - q % 8) → S'.2.1 9 13 = nI (vb B (q / 8)) → wp_X11_nextBit_21 S' P := by
    intro S' hlt f u' e12 e13 S7 e7
    have g12 : S7.2.1 9 12 = nI (7 - q % 8) := by
      rw [e7, stM_self, e12, show nI (8 - q % 8) = nI (7 - q % 8 + 1) by congr 1; omega, nI_pred]
    have g13 : S7.2.1 9 13 = nI (vb B (q / 8)) := by rw [e7, stM_p (by omega)]; exact e13
    rw [g12, g13, bit_nI (by omega) (by omega)]
    refine h1 S7 hlt (by rw [e7]; exact fr_m f (by unfold kQ; omega)) ⟨?_, ?_, fun _ => ?_⟩
    · rw [show (q + 1 + 7) / 8 = q / 8 + 1 by omega, e7]
      exact mu_m u' (by omega)
    · rw [g12]; congr 1; omega
    · rw [g13, show (q + 1) / 8 = q / 8 by omega]
  by_cases h8 : q % 8 = 0
  · have e0 : 8 * ((q + 7) / 8) - q = 0 := by omega
    rw [e0] at l12
    refine ⟨fun z => absurd l12 z, fun _ => ?_⟩
    rw [show (q + 7) / 8 = q / 8 by omega] at u
    refine sm_next u hb (by omega) (fun S9 hlt f9 u9 S11 e11 S12 e12 => k21 S12 (by omega) ?_ ?_ ?_ ?_) (fun S9 hge f9 b9 S11 e11 S12 e12 => ?_)
    · rw [e12, e11]; exact fr_m (fr_m (frQC f9) (by unfold kQ; omega)) (by unfold kQ; omega)
    · rw [e12, e11]; exact mu_m (mu_m u9 (by omega)) (by omega)
    · rw [e12, stM_self, h8]; rfl
    · rw [e12, stM_p (by omega), e11, stM_self]
    · intro S7 e7
      have g12 : S7.2.1 9 12 = nI 7 := by rw [e7, stM_self, e12, stM_self]; rfl
      have g13 : S7.2.1 9 13 = nI 0 := by rw [e7, stM_p (by omega), e12, stM_p (by omega), e11, stM_self]; rfl
      rw [g12, g13]
      refine h0 S7 (by omega) ?_ ?_
      · rw [e7, e12, e11]; exact fr_m (fr_m (fr_m (frQC f9) (by unfold kQ; omega)) (by unfold kQ; omega)) (by unfold kQ; omega)
      · rw [e7, e12, e11]; unfold bd; rw [stM_p (by omega), stM_p (by omega), stM_p (by omega)]; exact b9
  · refine ⟨fun _ => ?_, fun z => absurd z (by rw [l12]; exact nI_ne0 (by omega) (by omega))⟩
    refine k21 S (by omega) (fr.refl S) (by rw [show (q + 7) / 8 = q / 8 + 1 by omega] at u; exact u) (by rw [l12]; congr 1; omega) (l13 h8)
theorem sm_nb_bd {S : St} {n : Nat} {P : Int32 → St → Prop} (h : bd S) (hn : n ≤ 16) (hP : ∀ v S2, fr kQ S S2 → bd S2 → P v S2) : wp_X11_nextBits S (nI n) P := by
  intro X4 x4
  have key : ∀ d k v S', k + d = n → fr kQ S S' → bd S' → X4 S' v (nI k) := by
    intro d
    induction d with
    | zero =>
      intro k v S' hk f b
      have : k = n := by omega
      subst this
      exact x4 _ _ _ ⟨fun _ => hP _ _ f b, fun z => absurd (Int32.le_refl _) z⟩
    | succ d ih =>
      intro k v S' hk f b
      refine x4 _ _ _ ⟨fun z => absurd z (nI_ge (by omega) (by omega)), fun _ => sm_bt_bd b (fun w S7 f7 b7 x9 e9 x10 e10 => ?_)⟩
      rw [e10, nI_1]
      exact ih (k + 1) _ S7 (by omega) (f.trans f7) b7
  exact key n 0 _ S (by omega) (fr.refl S) h
theorem sm_nb {S : St} {B : List Int32} {n q : Nat} {P : Int32 → St → Prop} (h : mq S B q) (hb : ∀ b ∈ B, byt b) (hl : B.length ≤ 1500) (hq : q ≤ 8 * B.length) (hn : n ≤ 16) (h1 : ∀ S2, q + n ≤ 8 * B.length → fr kQ S S2 → mq S2 B (q + n) → P (nI (nbv B q n)) S2) (h0 : ∀ v S2, 8 * B.length < q + n → fr kQ S S2 → bd S2 → P v S2) : wp_X11_nextBits S (nI n) P := by
  intro X4 x4
  have bad : 8 * B.length < q + n → ∀ d k v S', k + d = n → fr kQ S S' → bd S' → X4 S' v (nI k) := by
    intro hlt d
    induction d with
    | zero =>
      intro k v S' hk f b
      have : k = n := by omega
      subst this
      exact x4 _ _ _ ⟨fun _ => h0 _ _ hlt f b, fun z => absurd (Int32.le_refl _) z⟩
    | succ d ih =>
      intro k v S' hk f b
      refine x4 _ _ _ ⟨fun z => absurd z (nI_ge (by omega) (by omega)), fun _ => sm_bt_bd b (fun w S7 f7 b7 x9 e9 x10 e10 => ?_)⟩
      rw [e10, nI_1]
      exact ih (k + 1) _ S7 (by omega) (f.trans f7) b7
  have key : ∀ d k S', k + d = n → q + k ≤ 8 * B.length → fr kQ S S' → mq S' B (q + k) → X4 S' (nI (nbv B q k)) (nI k) := by
    intro d
    induction d with
    | zero =>
      intro k S' hk hqk f u
      have : k = n := by omega
      subst this
      exact x4 _ _ _ ⟨fun _ => h1 _ hqk f u, fun z => absurd (Int32.le_refl _) z⟩
    | succ d ih =>
      intro k S' hk hqk f u
      refine x4 _ _ _ ⟨fun z => absurd z (nI_ge (by omega) (by omega)), fun _ => sm_bt u hb hl hqk (fun S7 hlt f7 u7 x9 e9 x10 e10 => ?_) (fun S7 heq f7 b7 x9 e9 x10 e10 => ?_)⟩
      · have e9' : x9 = nI (nbv B q (k + 1)) := by
          rw [e9]
          simp only [lit32, pk_mul, nI_add, nbv]
        rw [e9', e10, nI_1]
        exact ih (k + 1) S7 (by omega) (by omega) (f.trans f7) u7
      · rw [e10, nI_1]
        exact bad (by omega) d (k + 1) _ S7 (by omega) (f.trans f7) b7
  exact key n 0 S (by omega) (by omega) (fr.refl S) h
theorem sm_gm_bd {S : St} {P : Int32 → St → Prop} (h : bd S) (hP : ∀ v S2, fr kQ S S2 → bd S2 → P v S2) : wp_X11_nextGamma S P := by
  intro X2 X31 X37 X57 x2 x31 x37 x57
  refine x2 _ _ ⟨fun _ => x37 _ _ ⟨fun z => by rw [h] at z; exact absurd z (by decide), fun _ => x57 _ _ (hP _ _ (fr.refl S) h)⟩, fun z => by rw [h] at z; exact absurd z (by decide)⟩
theorem sm_gm {S : St} {B : List Int32} {q : Nat} {P : Int32 → St → Prop} (h : mq S B q) (hb : ∀ b ∈ B, byt b) (hl : B.length ≤ 1500) (hq : q ≤ 8 * B.length) (h1 : ∀ v q' S2, gm B (8 * B.length) q = some (v, q') → fr kQ S S2 → mq S2 B q' → P (nI v) S2) (h0 : ∀ v S2, gm B (8 * B.length) q = none → fr kQ S S2 → bd S2 → P v S2) : wp_X11_nextGamma S P := by
  intro X2 X31 X37 X57 x2 x31 x37 x57
  have bad : ∀ S' z, gm B (8 * B.length) q = none → fr kQ S S' → bd S' → X2 S' z := fun S' z hn f b => x2 _ _ ⟨fun _ => x37 _ _ ⟨fun z => by rw [b] at z; exact absurd z (by decide), fun _ => x57 _ _ (h0 _ _ hn f b)⟩, fun z => by rw [b] at z; exact absurd z (by decide)⟩
  have key : ∀ f z S', z + f = 16 → 0 < f → gm B (8 * B.length) q = gmz B (8 * B.length) f z (q + z) → q + z ≤ 8 * B.length → fr kQ S S' → mq S' B (q + z) → X2 S' (nI z) := by
    intro f
    induction f with
    | zero => intro z S' hz h0'; omega
    | succ f ih =>
      intro z S' hz _ e hqe fS u
      simp only [gmz] at e
      have b1 := bt_le B (q + z)
      refine x2 _ _ ⟨fun y => absurd u.1.b y, fun _ => sm_bt u hb hl hqe (fun S13 hlt f13 u13 => ?_) (fun S13 heq f13 b13 => ?_)⟩
      · rw [if_pos hlt] at e
        refine And.symm (pk_eq (bt B (q + z)) 0 (fun y x16 e16 => ?_) (fun y => ?_) rfl)
        · rw [if_neg (by omega)] at e
          rw [e16, nI_1]
          refine pk_le 16 (z + 1) (fun w => x31 _ _ _ (sm_check (Or.inl u13.1.b) (fun _ v => absurd rfl v) (fun _ S2 f2 b2 => bad _ _ ?_ ((fS.trans f13).trans (frQB f2)) b2))) (fun w => x31 _ _ _ (sm_check (Or.inl u13.1.b) (fun _ _ => ih (z + 1) S13 (by omega) (by omega) e (by omega) (fS.trans f13) u13) (fun v => ?_))) rfl
          · have : f = 0 := by omega
            rw [this] at e; exact e
          · rcases v with v | v
            · rw [u13.1.b] at v; exact absurd v (by decide)
            · exact absurd v (by decide)
        · rw [if_pos (show bt B (q + z) = 1 by omega)] at e
          refine x37 _ _ ⟨fun _ => sm_nb u13 hb hl (by omega) (by omega) (fun S21 hle f21 u21 => x57 _ _ ?_) (fun v S21 hlt2 f21 b21 => x57 _ _ (h0 _ _ (by rw [e, if_neg (by omega)]) ((fS.trans f13).trans f21) b21)), fun v => absurd u13.1.b v⟩
          rw [if_pos hle] at e
          have := h1 _ _ S21 e ((fS.trans f13).trans f21) u21
          rw [shl1 (by omega), nI_add]; exact this
      · rw [if_neg (by omega)] at e
        refine ⟨fun y => absurd rfl y, fun _ x16 e16 => ⟨fun _ => x31 _ _ _ ?_, fun _ => x31 _ _ _ ?_⟩⟩
        · exact sm_check b13.b (fun z => by rw [b13] at z; exact absurd z (by decide)) (fun _ S2 f2 b2 => bad _ _ e ((fS.trans f13).trans (frQB f2)) b2)
        · exact sm_check b13.b (fun z => by rw [b13] at z; exact absurd z (by decide)) (fun _ S2 f2 b2 => bad _ _ e ((fS.trans f13).trans (frQB f2)) b2)
  exact key 16 0 S (by omega) (by omega) rfl (by omega) (fr.refl S) h
/-! the reference expands the stream -/
def kE (k p : Nat) : Prop := k = 30 ∨ (k = 9 ∧ (p = 4 ∨ p = 8 ∨ p = 11 ∨ p = 12 ∨ p = 13))
theorem frEQ {S S1 : St} (h : fr kQ S S1) : fr kE S S1 := h.mono (fun k p z => by unfold kQ at z; unfold kE; omega)
theorem frEB {S S1 : St} (h : fr kB S S1) : fr kE S S1 := h.mono (fun k p z => by unfold kB at z; unfold kE; omega)
theorem frE4 {S S1 : St} (h : fr (kL 30 4) S S1) : fr kE S S1 := h.mono (fun k p z => by unfold kL at z; unfold kE; omega)
theorem mL.Q {S S1 : St} {L : List Int32} (h : mL S 30 4 L) (f : fr kQ S S1) : mL S1 30 4 L := h.keep f (fun p z => by unfold kQ at z; omega) (by unfold kQ; omega)
theorem mL.B {S S1 : St} {L : List Int32} (h : mL S 30 4 L) (f : fr kB S S1) : mL S1 30 4 L := h.keep f (fun p z => by unfold kB at z; omega) (by unfold kB; omega)
theorem mq.L {S S1 : St} {B : List Int32} {q : Nat} (h : mq S B q) (f : fr (kL 30 4) S S1) : mq S1 B q := by
  obtain ⟨⟨m1, m2, m3', m4, m5, m6, m7⟩, h2, h3⟩ := h
  have g : ∀ p, p ≠ 4 → S1.2.1 9 p = S.2.1 9 p := fun p hp => f.2.2 9 p (by unfold kL; omega)
  refine ⟨⟨by rw [g 8 (by omega)]; exact m1, by rw [g 9 (by omega)]; exact m2, by rw [g 10 (by omega)]; exact m3', by rw [g 11 (by omega)]; exact m4, fun k hk => by rw [f.2.2 _ _ (by unfold kL; omega)]; exact m5 k hk, m6, m7⟩, by rw [g 12 (by omega)]; exact h2, fun z => by rw [g 13 (by omega)]; exact h3 z⟩
theorem bd.L {S S1 : St} (h : bd S) (f : fr (kL 30 4) S S1) : bd S1 := by unfold bd; rw [f.2.2 9 11 (by unfold kL; omega)]; exact h
theorem sm_expand {S : St} {B : List Int32} {p sz : Nat} {P : St → Prop} (h : mu S B 0 B.length p) (hB : okB B) (hp : p ≤ B.length) (hz : sz ≤ 1000)
    (h1 : ∀ L S2, ex B p sz = some L → fr kE S S2 → mL S2 30 4 L → S2.2.1 9 11 = 0 → P S2) (h0 : ∀ S2, ex B p sz = none → fr kE S S2 → bd S2 → P S2) : wp_X11_expand S (nI sz) P := by
  intro X10 X90 X91 X97 X131 X134 X161 X167 X184 x10 x90 x91 x97 x131 x134 x161 x167 x184 S73 e73 S74 e74
  obtain ⟨hl1, hb⟩ := hB
  -- bad
  have b167 : ∀ S', ex B p sz = none → fr kE S S' → bd S' → X167 S' := by
    intro S' hn f b
    have k184 : ∀ s, X184 S' s := fun s => x184 _ _ (sm_check b.b (fun z => by rw [b] at z; exact absurd z (by decide)) (fun _ S2 f2 b2 => h0 _ hn (f.trans (frEB f2)) b2))
    exact x167 _ ⟨fun _ => k184 _, fun _ => k184 _⟩
  have b134 : ∀ S', ex B p sz = none → fr kE S S' → bd S' → X134 S' := fun S' hn f b => x134 _ ⟨fun _ => b167 _ hn f b, fun _ => ⟨fun _ => b167 _ hn f b, fun z => by rw [b] at z; exact absurd z (by decide)⟩⟩
  have b10 : ∀ S', ex B p sz = none → fr kE S S' → bd S' → X10 S' := fun S' hn f b => x10 _ ⟨fun _ => b134 _ hn f b, fun _ => ⟨fun _ => b134 _ hn f b, fun z => by rw [b] at z; exact absurd z (by decide)⟩⟩
  have b97 : ∀ S' v2 v3, ex B p sz = none → fr kE S S' → bd S' → X97 S' v2 v3 0 := fun S' v2 v3 hn f b => x97 _ _ _ _ ⟨fun _ => x131 _ (b10 _ hn f b), fun _ => ⟨fun _ => x131 _ (b10 _ hn f b), fun z => by rw [b] at z; exact absurd z (by decide)⟩⟩
  have b91 : ∀ S' v2 v3 s, ex B p sz = none → fr kE S S' → (bd S' ∨ (S'.2.1 9 11 = 0 ∧ s = 0)) → X91 S' v2 v3 s := by
    intro S' v2 v3 s hn f b
    refine x91 _ _ _ _ (sm_check (b.elim (fun y => y.b) (fun y => Or.inl y.1)) (fun z y => ?_) (fun _ S2 f2 b2 => b97 _ _ _ hn (f.trans (frEB f2)) b2))
    rcases b with b | b
    · rw [b] at z; exact absurd z (by decide)
    · exact absurd b.2 y
  -- the fill
  have fill : ∀ l q L S', exl B (8 * B.length) sz sz (8 * p) [] = some (L, q) → ∀ j, q + j ≤ 8 * B.length → (8 - (q + j) % 8) % 8 = l → (j + l < 8) → nbv B q j = 0 → fr kE S S' → mq S' B (q + j) → mL S' 30 4 L → X134 S' := by
    intro l
    induction l with
    | zero =>
      intro q L S' ee j hqj hj8 hj hz0 f u hL
      have eex : ex B p sz = if 8 * B.length - q < 8 ∧ nbv B q (8 * B.length - q) = 0 then some L else none := by unfold ex; rw [ee]
      have h80 : (q + j) % 8 = 0 := by omega
      have e12 : S'.2.1 9 12 = nI 0 := by rw [u.2.1]; congr 1; omega
      refine x134 _ ⟨fun _ => ?_, fun z => absurd (by rw [e12]; decide) z⟩
      refine x167 _ (And.symm (pk_eq ((q + j + 7) / 8) B.length (fun y => x184 _ _ (sm_check (Or.inl u.1.b) (fun _ _ => h1 L S' ?_ f hL u.1.b) (fun v => ?_))) (fun y => x184 _ _ (sm_check (Or.inl u.1.b) (fun _ v => absurd rfl v) (fun _ S2 f2 b2 => h0 _ ?_ (f.trans (frEB f2)) b2))) u.1.1 u.1.2.1))
      · rw [eex, if_pos ⟨by omega, by rw [show 8 * B.length - q = j by omega]; exact hz0⟩]
      · rcases v with v | v
        · rw [u.1.b] at v; exact absurd v (by decide)
        · exact absurd v (by decide)
      · rw [eex, if_neg (fun w => by omega)]
    | succ l ih =>
      intro q L S' ee j hqj hj8 hj hz0 f u hL
      have eex : ex B p sz = if 8 * B.length - q < 8 ∧ nbv B q (8 * B.length - q) = 0 then some L else none := by unfold ex; rw [ee]
      have e12 : S'.2.1 9 12 = nI (l + 1) := by rw [u.2.1]; congr 1; omega
      have bq := bt_le B (q + j)
      refine x134 _ ⟨fun z => absurd z (by rw [e12]; exact nI_ge (a := 0) (by omega) (by omega)), fun _ => ⟨fun z => absurd u.1.b z, fun _ => ?_⟩⟩
      refine sm_bt u hb hl1 hqj (fun S65 hlt f65 u65 => ?_) (fun S65 heq f65 b65 => by omega)
      have fS := f.trans (frEQ f65)
      refine And.symm (pk_eq (bt B (q + j)) 0 (fun y => x161 _ _ (sm_check (Or.inl u65.1.b) (fun _ _ => ?_) (fun v => ?_))) (fun y => x161 _ _ (sm_check (Or.inl u65.1.b) (fun _ v => absurd rfl v) (fun _ S2 f2 b2 => b134 _ ?_ (fS.trans (frEB f2)) b2))) rfl)
      · exact ih q L S65 ee (j + 1) (by omega) (by omega) (by omega) (by simp only [nbv]; omega) fS u65 (hL.Q f65)
      · rcases v with v | v
        · rw [u65.1.b] at v; exact absurd v (by decide)
        · exact absurd v (by decide)
      · rw [eex, if_neg]
        intro w
        -- the bit that is set is among the last ones
        have mono : ∀ m, nbv B q (j + 1 + m) ≠ 0 := by
          intro m
          induction m with
          | zero => simp only [Nat.add_zero, nbv]; omega
          | succ m ihm =>
            rw [show j + 1 + (m + 1) = j + 1 + m + 1 by omega]
            simp only [nbv]; omega
        have := mono (8 * B.length - q - (j + 1))
        rw [show j + 1 + (8 * B.length - q - (j + 1)) = 8 * B.length - q by omega] at this
        exact this w.2
  have fill0 : ∀ q L S', q ≤ 8 * B.length → exl B (8 * B.length) sz sz (8 * p) [] = some (L, q) → fr kE S S' → mq S' B q → mL S' 30 4 L → X134 S' := fun q L S' hq ee f u hL => fill ((8 - (q + 0) % 8) % 8) q L S' ee 0 (by omega) rfl (by omega) rfl f u hL
  have none_of : exl B (8 * B.length) sz sz (8 * p) [] = none → ex B p sz = none := fun y => by unfold ex; rw [y]
  have key : ∀ f q L S', sz ≤ L.length + f → L.length ≤ sz → (∀ b ∈ L, byt b) → q ≤ 8 * B.length → exl B (8 * B.length) sz sz (8 * p) [] = exl B (8 * B.length) sz f q L → fr kE S S' → mq S' B q → mL S' 30 4 L → X10 S' := by
    intro f
    induction f with
    | zero =>
      intro q L S' hf hls hLb hq ee fS u hL
      simp only [exl] at ee
      rw [if_pos (by omega)] at ee
      exact x10 _ ⟨fun _ => fill0 q L S' hq ee fS u hL, fun z => absurd (by rw [hL.1]; exact nI_le (by omega) (by omega)) z⟩
    | succ f ih =>
      intro q L S' hf hls hLb hq ee fS u hL
      simp only [exl] at ee
      refine x10 _ ?_
      unfold st_X11_expand_10
      rw [hL.1]
      refine pk_le sz L.length (fun z => ?_) (fun z => ⟨fun y => absurd u.1.b y, fun _ => ?_⟩) rfl
      · rw [if_pos z] at ee
        exact fill0 q L S' hq ee fS u hL
      · rw [if_neg (by omega)] at ee
        have bq := bt_le B q
        refine sm_bt u hb hl1 hq (fun S40 hlt f40 u40 => ?_) (fun S40 heq f40 b40 => ?_)
        · rw [if_pos hlt] at ee
          have f40' := fS.trans (frEQ f40)
          have hL40 := hL.Q f40
          refine And.symm (pk_eq (bt B q) 0 (fun y => ?_) (fun y => ?_) rfl)
          · rw [if_pos y] at ee
            refine sm_nb (n := 8) u40 hb hl1 (by omega) (by omega) (fun S52 hle f52 u52 => ?_) (fun v S52 hlt2 f52 b52 => ?_)
            · rw [if_pos (by omega)] at ee
              have hv := nbv_lt B (q + 1) 8
              refine sm_flowN (nbv B (q + 1) 8) rfl (by omega) (hL40.Q f52) (by omega) (fun S54 f54 h54 => ?_)
              rw [Nat.mod_eq_of_lt hv] at h54
              exact ih (q + 9) (L ++ [nI (nbv B (q + 1) 8)]) S54 (by simp; omega) (by simp; omega) (fun b hb' => by
                simp only [List.mem_append, List.mem_singleton] at hb'
                rcases hb' with hb' | hb'
                · exact hLb b hb'
                · rw [hb']; exact byt_nI hv) (by omega) ee ((f40'.trans (frEQ f52)).trans (frE4 f54)) (u52.L f54) h54
            · rw [if_neg (by omega)] at ee
              refine sm_flow (hL40.Q f52) (by omega) (fun S54 f54 h54 => b10 _ (none_of ee) ((f40'.trans (frEQ f52)).trans (frE4 f54)) (b52.L f54))
          · rw [if_neg y] at ee
            refine sm_gm u40 hb hl1 (by omega) (fun g q1 S43 hg1 f43 u43 x45 e45 => ?_) (fun v S43 hg1 f43 b43 x45 e45 => ?_)
            · rw [hg1] at ee
              simp only at ee
              have bg := gmz_b _ _ _ _ _ (by omega) hg1
              have f43' := f40'.trans (frEQ f43)
              have e45' : x45 = nI (g + 2) := by rw [e45]; exact nI_add g 2
              rw [e45']
              refine sm_gm u43 hb hl1 (by omega) (fun d q2 S46 hg2 f46 u46 => ?_) (fun v S46 hg2 f46 b46 => ?_)
              · rw [hg2] at ee
                simp only at ee
                have bg2 := gmz_b _ _ _ _ _ (by omega) hg2
                have f46' := f43'.trans (frEQ f46)
                have hL46 := (hL40.Q f43).Q f46
                rw [hL46.1, pk_sub (by omega)]
                have no : ¬ (1 ≤ d ∧ d ≤ L.length ∧ g + 2 ≤ sz - L.length) → X90 S46 (nI (g + 2)) (nI d) := fun w => x90 _ _ _ (b91 _ _ _ _ (none_of (by rw [ee, if_neg w])) f46' (Or.inr ⟨u46.1.b, rfl⟩))
                refine pk_lt (g + 2) 3 (fun w => by omega) (fun _ => pk_lt (sz - L.length) (g + 2) (fun w => no (by omega)) (fun w1 => pk_lt d 1 (fun w => no (by omega)) (fun w2 => pk_lt L.length d (fun w => no (by omega)) (fun w3 => x91 _ _ _ _ (sm_check (Or.inl u46.1.b) (fun _ _ => ?_) (fun v => ?_))) rfl) rfl) rfl) rfl
                · rw [if_pos ⟨w2, w3, w1⟩] at ee
                  have loop : ∀ m k S'', k + m = g + 2 → fr (kL 30 4) S46 S'' → mL S'' 30 4 (rep L d k) → X97 S'' (nI (g + 2)) (nI d) (nI k) := by
                    intro m
                    induction m with
                    | zero =>
                      intro k S'' hk f'' hL''
                      have : k = g + 2 := by omega
                      subst this
                      refine x97 _ _ _ _ ⟨fun _ => x131 _ ?_, fun w => absurd (Int32.le_refl _) w⟩
                      have lr := rep_len L d (g + 2)
                      exact ih q2 (rep L d (g + 2)) S'' (by omega) (by omega) (rep_byt hLb d _) (by omega) ee (f46'.trans (frE4 f'')) (u46.L f'') hL''
                    | succ m ihm =>
                      intro k S'' hk f'' hL''
                      have u'' := u46.L f''
                      have lk := rep_len L d k
                      refine x97 _ _ _ _ ⟨fun w => absurd w (nI_ge (by omega) (by omega)), fun _ => ⟨fun w => absurd u''.1.b w, fun _ => ?_⟩⟩
                      rw [hL''.1, pk_sub (by omega), nI_clamp (by omega), hL''.2 _ (by omega)]
                      refine ⟨pk_in _ _ (show _ < 1100 by omega) rfl (by decide), ?_⟩
                      refine sm_flow hL'' (by omega) (fun S60 f60 h60 x62 e62 => ?_)
                      rw [e62, nI_1]
                      rw [and255 (byt_getD (rep_byt hLb d k) _)] at h60
                      exact ihm (k + 1) S60 (by omega) (f''.trans f60) h60
                  exact loop (g + 2) 0 S46 (by omega) (fr.refl _) hL46
                · rcases v with v | v
                  · rw [u46.1.b] at v; exact absurd v (by decide)
                  · exact absurd v (by decide)
              · rw [hg2] at ee
                have f46' := f43'.trans (frEQ f46)
                have g90 : X90 S46 (nI (g + 2)) v := x90 _ _ _ (b91 _ _ _ _ (none_of ee) f46' (Or.inl b46))
                exact ⟨fun _ => g90, fun _ => ⟨fun _ => g90, fun _ => ⟨fun _ => g90, fun _ => ⟨fun _ => g90, fun _ => b91 _ _ _ _ (none_of ee) f46' (Or.inl b46)⟩⟩⟩⟩
            · rw [hg1] at ee
              have f43' := f40'.trans (frEQ f43)
              refine sm_gm_bd b43 (fun v2 S46 f46 b46 => ?_)
              have f46' := f43'.trans (frEQ f46)
              have g90 : X90 S46 x45 v2 := x90 _ _ _ (b91 _ _ _ _ (none_of ee) f46' (Or.inl b46))
              exact ⟨fun _ => g90, fun _ => ⟨fun _ => g90, fun _ => ⟨fun _ => g90, fun _ => ⟨fun _ => g90, fun _ => b91 _ _ _ _ (none_of ee) f46' (Or.inl b46)⟩⟩⟩⟩
        · rw [if_neg (by omega)] at ee
          have f40' := fS.trans (frEQ f40)
          refine ⟨fun y => absurd rfl y, fun _ => sm_nb_bd (n := 8) b40 (by omega) (fun v S52 f52 b52 => sm_flow ((hL.Q f40).Q f52) (by omega) (fun S54 f54 h54 => b10 _ (none_of ee) ((f40'.trans (frEQ f52)).trans (frE4 f54)) (b52.L f54)))⟩
  have f74 : fr kE S S74 := by
    rw [e74, e73]; exact fr_m (fr_m (fr.refl S) (by unfold kE; omega)) (by unfold kE; omega)
  have u74 : mq S74 B (8 * p) := by
    refine ⟨?_, ?_, fun z => by omega⟩
    · rw [show (8 * p + 7) / 8 = p by omega, e74, e73]
      exact mu_m (mu_m h (by omega)) (by omega)
    · rw [e74, stM_p (by omega), e73, stM_self]
      show (0 : Int32) = _
      rw [show 8 * ((8 * p + 7) / 8) - 8 * p = 0 by omega]; rfl
  have L74 : mL S74 30 4 [] := by
    rw [e74]; exact ⟨by rw [stM_self]; rfl, fun k hk => by simp at hk⟩
  exact key sz (8 * p) [] S74 (by simp) (by simp) (by simp) (by omega) rfl f74 u74 L74
