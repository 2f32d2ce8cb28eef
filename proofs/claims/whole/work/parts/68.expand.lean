/-! bits are read -/
def bt (B : List Int32) (q : Nat) : Nat := vb B (q / 8) / 2 ^ (7 - q % 8) % 2
def nbv (B : List Int32) (q : Nat) : Nat → Nat
  | 0 => 0
  | n + 1 => 2 * nbv B q n + bt B (q + n)
theorem bt_le (B : List Int32) (q : Nat) : bt B q ≤ 1 := by unfold bt; omega
theorem nbv_lt (B : List Int32) (q : Nat) : ∀ n, nbv B q n < 2 ^ n
  | 0 => by simp [nbv]
  | n + 1 => by
    have := nbv_lt B q n
    have := bt_le B (q + n)
    simp only [nbv]
    rw [Nat.pow_succ]; omega
theorem nbv_16 (B : List Int32) (q : Nat) {n : Nat} (h : n ≤ 16) : nbv B q n < 65536 := Nat.lt_of_lt_of_le (nbv_lt B q n) (by have := Nat.pow_le_pow_right (n := 2) (by omega) h; omega)
def gmz (B : List Int32) (E : Nat) : Nat → Nat → Nat → Option (Nat × Nat)
  | 0, _, _ => none
  | f + 1, z, q => if q < E then (if bt B q = 1 then (if q + 1 + z ≤ E then some (2 ^ z + nbv B (q + 1) z, q + 1 + z) else none) else gmz B E f (z + 1) (q + 1)) else none
def gm (B : List Int32) (E q : Nat) : Option (Nat × Nat) := gmz B E 16 0 q
theorem gmz_b {B : List Int32} {E : Nat} : ∀ f z q v q', z + f ≤ 16 → gmz B E f z q = some (v, q') → 1 ≤ v ∧ v < 131072 ∧ q < q' ∧ q' ≤ E := by
  intro f
  induction f with
  | zero => intro z q v q' _ h; simp [gmz] at h
  | succ f ih =>
    intro z q v q' hz h
    simp only [gmz] at h
    split at h
    · split at h
      · split at h
        · simp at h
          have h1 := nbv_16 B (q + 1) (n := z) (by omega)
          have h2 := Nat.pow_le_pow_right (n := 2) (by omega) (show z ≤ 16 by omega)
          have h3 := Nat.two_pow_pos z
          omega
        · simp at h
      · have := ih _ _ _ _ (by omega) h
        omega
    · simp at h
def rep (L : List Int32) (d : Nat) : Nat → List Int32
  | 0 => L
  | n + 1 => rep L d n ++ [(rep L d n).getD ((rep L d n).length - d) 0]
theorem rep_len (L : List Int32) (d : Nat) : ∀ n, (rep L d n).length = L.length + n
  | 0 => rfl
  | n + 1 => by simp [rep, rep_len L d n]; omega
theorem rep_byt {L : List Int32} (hb : ∀ b ∈ L, byt b) (d : Nat) : ∀ n, ∀ b ∈ rep L d n, byt b
  | 0 => hb
  | n + 1 => by
    intro b h
    simp only [rep, List.mem_append, List.mem_singleton] at h
    rcases h with h | h
    · exact rep_byt hb d n b h
    · rw [h]; exact byt_getD (rep_byt hb d n) _
def exl (B : List Int32) (E sz : Nat) : Nat → Nat → List Int32 → Option (List Int32 × Nat)
  | 0, q, L => if sz ≤ L.length then some (L, q) else none
  | f + 1, q, L => if sz ≤ L.length then some (L, q) else if q < E then (if bt B q = 0 then (if q + 9 ≤ E then exl B E sz f (q + 9) (L ++ [nI (nbv B (q + 1) 8)]) else none) else (match gm B E (q + 1) with | none => none | some (g, q1) => match gm B E q1 with | none => none | some (d, q2) => if 1 ≤ d ∧ d ≤ L.length ∧ g + 2 ≤ sz - L.length then exl B E sz f q2 (rep L d (g + 2)) else none)) else none
def ex (B : List Int32) (p sz : Nat) : Option (List Int32) := match exl B (8 * B.length) sz sz (8 * p) [] with | none => none | some (L, q) => if 8 * B.length - q < 8 ∧ nbv B q (8 * B.length - q) = 0 then some L else none
theorem exl_ok {B : List Int32} {E sz : Nat} : ∀ f q L L' q', exl B E sz f q L = some (L', q') → L.length ≤ sz → q ≤ E → (∀ b ∈ L, byt b) → L'.length = sz ∧ q' ≤ E ∧ ∀ b ∈ L', byt b := by
  intro f
  induction f with
  | zero =>
    intro q L L' q' h hl hq hb
    simp only [exl] at h
    split at h
    · simp at h; rw [← h.1, ← h.2]; exact ⟨by omega, hq, hb⟩
    · simp at h
  | succ f ih =>
    intro q L L' q' h hl hq hb
    simp only [exl] at h
    split at h
    · simp at h; rw [← h.1, ← h.2]; exact ⟨by omega, hq, hb⟩
    · split at h
      · split at h
        · split at h
          · refine ih _ _ _ _ h (by simp; omega) (by omega) (fun b hb' => ?_)
            simp only [List.mem_append, List.mem_singleton] at hb'
            rcases hb' with hb' | hb'
            · exact hb b hb'
            · rw [hb']; exact byt_nI (nbv_lt B (q + 1) 8)
          · simp at h
        · cases h1 : gm B E (q + 1) with
          | none => rw [h1] at h; simp at h
          | some x =>
            obtain ⟨g, q1⟩ := x
            rw [h1] at h
            simp only at h
            cases h2 : gm B E q1 with
            | none => rw [h2] at h; simp at h
            | some y =>
              obtain ⟨d, q2⟩ := y
              rw [h2] at h
              simp only at h
              have b2 := gmz_b _ _ _ _ _ (by omega) h2
              split at h
              · exact ih _ _ _ _ h (by rw [rep_len]; omega) (by omega) (rep_byt hb d _)
              · simp at h
      · simp at h
theorem ex_ok {B L : List Int32} {p sz : Nat} (h : ex B p sz = some L) (hp : p ≤ B.length) : L.length = sz ∧ ∀ b ∈ L, byt b := by
  unfold ex at h
  cases h1 : exl B (8 * B.length) sz sz (8 * p) [] with
  | none => rw [h1] at h; simp at h
  | some x =>
    obtain ⟨L', q⟩ := x
    rw [h1] at h
    simp only at h
    split at h
    · simp at h
      rw [← h]
      have := exl_ok _ _ _ _ _ h1 (by simp) (by omega) (by simp)
      exact ⟨this.1, this.2.2⟩
    · simp at h
/-! the class's bit reader -/
theorem dv8 {n : Nat} (h : n < 2 ^ 31) : nI n / 8 = nI (n / 8) := pk_div (d := 8) h (by omega) (by omega)
theorem md8 {n : Nat} (h : n < 2 ^ 31) : nI n - nI n / 8 * 8 = nI (n % 8) := pk_rem (d := 8) h (by omega) (by omega)
theorem bit_at {B : List Int32} (hb : ∀ b ∈ B, byt b) {q : Nat} (hq : q < 2 ^ 31) : (nI (vb B (q / 8)) >>> ((7 - nI (q % 8)) &&& 31)) &&& 1 = nI (bt B q) := by
  have := vb_lt hb (q / 8)
  rw [show (7 : Int32) - nI (q % 8) = nI (7 - q % 8) from pk_sub (a := 7) (by omega)]
  exact bit_nI (by omega) (by omega)
theorem sp_nb {S : St} {c n q E : Nat} {B : List Int32} {P : Int32 → St → Prop} (h : cu S c E q) (hr : S.1 62 = B) (hb : ∀ b ∈ B, byt b) (hE : E < 2 ^ 30) (hq : q ≤ E) (hn : n ≤ 16)
    (h1 : ∀ S2, q + n ≤ E → cf c S S2 → cu S2 c E (q + n) → P (nI (nbv B q n)) S2) (h0 : ∀ S2, E < q + n → cf c S S2 → br S2 c → P 0 S2) : wp_X0_nextBits S c 62 (nI n) P := by
  intro X4 x4
  have key : ∀ d k S', k + d = n → q + k ≤ E → cf c S S' → cu S' c E (q + k) → X4 S' (nI (nbv B q k)) (nI k) := by
    intro d
    induction d with
    | zero =>
      intro k S' hk hqk f u
      have : k = n := by omega
      subst this
      exact x4 _ _ _ ⟨fun _ => h1 _ hqk f u, fun z => absurd (Int32.le_refl _) z⟩
    | succ d ih =>
      intro k S' hk hqk f u
      refine x4 _ _ _ ⟨fun z => absurd z (nI_ge (by omega) (by omega)), fun _ => ?_⟩
      rw [u.1, u.2.1]
      refine pk_lt (q + k) E (fun z x9 e9 S10 e10 x11 e11 => ?_) (fun z S12 e12 => h0 _ (by omega) (by rw [e12]; exact f.trans (cf_m c S' _ _)) (by rw [e12]; exact stM_self)) rfl
      rw [md8 (by omega), dv8 (by omega), rGet_nI (by omega), f.1, hr, vb_nI hb, bit_at hb (by omega)] at e9
      have e9' : x9 = nI (nbv B q (k + 1)) := by
        rw [e9]
        simp only [lit32, pk_mul, nI_add, nbv]
        rw [Nat.mul_comm]
      rw [e9', e11, nI_1]
      refine ih (k + 1) S10 (by omega) (by omega) (f.trans (by rw [e10]; exact cf_m c S' _ _)) ?_
      rw [e10]
      refine ⟨by rw [stM_p (by omega)]; exact u.1, by rw [stM_self, nI_1]; rfl, by rw [stM_p (by omega)]; exact u.2.2⟩
  exact key n 0 S (by omega) (by omega) (cf.refl c S) h
theorem sp_nb_br {S : St} {c n : Nat} {P : Int32 → St → Prop} (h : br S c) (hn : n ≤ 16) (hP : ∀ v S2, cf c S S2 → br S2 c → P v S2) : wp_X0_nextBits S c 62 (nI n) P := by
  intro X4 x4
  have key : ∀ d k v S', k + d = n → cf c S S' → br S' c → X4 S' v (nI k) := by
    intro d
    induction d with
    | zero =>
      intro k v S' hk f b
      have : k = n := by omega
      subst this
      exact x4 _ _ _ ⟨fun _ => hP _ _ f b, fun z => absurd (Int32.le_refl _) z⟩
    | succ d ih =>
      intro k v S' hk f b
      refine x4 _ _ _ ⟨fun z => absurd z (nI_ge (by omega) (by omega)), fun _ => ⟨fun _ x9 e9 S10 e10 x11 e11 => ?_, fun _ S12 e12 => hP _ _ (by rw [e12]; exact f.trans (cf_m c S' _ _)) (by rw [e12]; exact stM_self)⟩⟩
      rw [e11, nI_1]
      refine ih (k + 1) _ S10 (by omega) (f.trans (by rw [e10]; exact cf_m c S' _ _)) ?_
      rw [e10]; unfold br; rw [stM_p (by omega)]; exact b
  exact key n 0 _ S (by omega) (cf.refl c S) h
theorem shl1 {z : Nat} (h : z ≤ 16) : (1 : Int32) <<< (nI z &&& 31) = nI (2 ^ z) := by
  have := pk_shlN (n := 1) (nI z &&& 31) z (shl31 z (by omega)) (by have := Nat.pow_le_pow_right (n := 2) (by omega) (show z ≤ 16 by omega); omega)
  rw [Nat.one_mul] at this
  exact this
theorem sp_gm_aux {S : St} {c : Nat} {P : Int32 → St → Prop} (X2 : St → Int32 → Prop) (x2 : ∀ S v1, st_X0_nextGamma_2 c 62 P X2 S v1 → X2 S v1) (hP : ∀ v S2, cf c S S2 → br S2 c → P v S2) : ∀ f z S', z + f = 16 → cf c S S' → br S' c → X2 S' (nI z) := by
  intro f
  induction f with
  | zero =>
    intro z S' hz fS b
    exact x2 _ _ ⟨fun _ S10 e10 => hP _ _ (by rw [e10]; exact fS.trans (cf_m c S' _ _)) (by rw [e10]; exact stM_self), fun q => absurd ((nI_ltI (a := 15) (by omega) (by omega)).mpr (by omega)) q⟩
  | succ f ih =>
    intro z S' hz fS b
    refine x2 _ _ ⟨fun q => absurd ((nI_ltI (a := 15) (by omega) (by omega)).mp q) (by omega), fun _ => sp_nb_br (n := 1) b (by omega) (fun v S11 f11 b11 => ⟨fun _ x14 e14 => ?_, fun _ => ?_⟩)⟩
    · rw [e14, nI_1]; exact ih (z + 1) S11 (by omega) (fS.trans f11) b11
    · exact sp_nb_br b11 (by omega) (fun v S15 f15 b15 => hP _ _ ((fS.trans f11).trans f15) b15)
theorem sp_gm_br {S : St} {c : Nat} {P : Int32 → St → Prop} (h : br S c) (hP : ∀ v S2, cf c S S2 → br S2 c → P v S2) : wp_X0_nextGamma S c 62 P := by
  intro X2 x2
  exact sp_gm_aux X2 x2 hP 16 0 S (by omega) (cf.refl c S) h
theorem sp_gm {S : St} {c q E : Nat} {B : List Int32} {P : Int32 → St → Prop} (h : cu S c E q) (hr : S.1 62 = B) (hb : ∀ b ∈ B, byt b) (hE : E < 2 ^ 30) (hq : q ≤ E)
    (h1 : ∀ v q' S2, gm B E q = some (v, q') → cf c S S2 → cu S2 c E q' → P (nI v) S2) (h0 : ∀ v S2, gm B E q = none → cf c S S2 → br S2 c → P v S2) : wp_X0_nextGamma S c 62 P := by
  intro X2 x2
  have key : ∀ f z q S', z + f = 16 → gm B E q = gmz B E f z (q + z) → gm B E q = gm B E q → q + z ≤ E → cf c S S' → cu S' c E (q + z) → (∀ v q' S2, gm B E q = some (v, q') → cf c S S2 → cu S2 c E q' → P (nI v) S2) → (∀ v S2, gm B E q = none → cf c S S2 → br S2 c → P v S2) → X2 S' (nI z) := by
    intro f
    induction f with
    | zero =>
      intro z q S' hz e _ hqe fS u h1 h0
      exact x2 _ _ ⟨fun _ S10 e10 => h0 _ _ e (by rw [e10]; exact fS.trans (cf_m c S' _ _)) (by rw [e10]; exact stM_self), fun y => absurd ((nI_ltI (a := 15) (by omega) (by omega)).mpr (by omega)) y⟩
    | succ f ih =>
      intro z q S' hz e e' hqe fS u h1 h0
      simp only [gmz] at e
      have b1 := bt_le B (q + z)
      refine x2 _ _ ⟨fun y => absurd ((nI_ltI (a := 15) (by omega) (by omega)).mp y) (by omega), fun _ => ?_⟩
      refine sp_nb (n := 1) u (by rw [fS.1]; exact hr) hb hE hqe (by omega) (fun S11 hlt f11 u11 => ?_) (fun S11 hge f11 b11 => ?_)
      · have en : nbv B (q + z) 1 = bt B (q + z) := by simp [nbv]
        rw [en]
        rw [if_pos (show q + z < E by omega)] at e
        refine And.symm (pk_eq (bt B (q + z)) 1 (fun y => ?_) (fun y x14 e14 => ?_) rfl)
        · rw [if_pos y] at e
          refine sp_nb (n := z) u11 (by rw [f11.1, fS.1]; exact hr) hb hE (by omega) (by omega) (fun S15 hle f15 u15 => ?_) (fun S15 hlt2 f15 b15 => h0 _ _ (by rw [e, if_neg (by omega)]) ((fS.trans f11).trans f15) b15)
          rw [if_pos hle] at e
          have := h1 _ _ S15 e ((fS.trans f11).trans f15) u15
          rw [shl1 (by omega), nI_add]; exact this
        · rw [if_neg y] at e
          rw [e14, nI_1]
          exact ih (z + 1) q S11 (by omega) e rfl (by omega) (fS.trans f11) u11 h1 h0
      · rw [if_neg (show ¬ q + z < E by omega)] at e
        refine ⟨fun _ x14 e14 => ?_, fun y => absurd y (by decide)⟩
        rw [e14, nI_1]
        exact sp_gm_aux X2 x2 (fun v S2 f b => h0 v S2 e f b) f (z + 1) S11 (by omega) (fS.trans f11) b11
  exact key 16 0 q S (by omega) rfl rfl (by omega) (cf.refl c S) h h1 h0
/-! the class expands the stream -/
def eF (c : Nat) (S S2 : St) : Prop := S2.2.2 = S.2.2 ∧ (∀ q, q ≠ 65 → S2.1 q = S.1 q) ∧ (∀ k p, k ≠ 1000 + c → S2.2.1 k p = S.2.1 k p) ∧ ((S.1 65).length ≤ 1000 → (S2.1 65).length ≤ 1000)
theorem eF.refl (c : Nat) (S : St) : eF c S S := ⟨rfl, fun _ _ => rfl, fun _ _ _ => rfl, id⟩
theorem eF.trans {c : Nat} {S S1 S2 : St} (h : eF c S S1) (h2 : eF c S1 S2) : eF c S S2 := ⟨h2.1.trans h.1, fun q a => (h2.2.1 q a).trans (h.2.1 q a), fun k p a => (h2.2.2.1 k p a).trans (h.2.2.1 k p a), fun z => h2.2.2.2 (h.2.2.2 z)⟩
theorem cf.eF {c : Nat} {S S2 : St} (h : cf c S S2) : eF c S S2 := ⟨h.2.1, fun q _ => by rw [h.1], fun k p a => h.2.2 k p a, fun z => by rw [h.1]; exact z⟩
theorem eF_65 {c : Nat} (S : St) (l : List Int32) (h : (S.1 65).length ≤ 1000 → l.length ≤ 1000) : eF c S (stX S 65 l) := ⟨rfl, fun q a => stX_ne a, fun _ _ _ => rfl, fun z => by rw [stX_at]; exact h z⟩
theorem eF_add {c : Nat} (S : St) (v : Int32) : eF c S (rAdd S 65 v) := eF_65 S _ (fun _ => by rw [List.length_take]; show min 1000 _ ≤ 1000; omega)
theorem sp_rep_any {S : St} {c : Nat} {a d : Int32} {P : Int32 → St → Prop} (hP : ∀ v S2, eF c S S2 → S2.2.1 = S.2.1 → P v S2) : wp_X5_repeatBytes S a d P := by
  intro X36 X41 x36 x41 x11 e11
  have no : X36 S := x36 _ (hP _ _ (eF.refl c S) rfl)
  have key : ∀ m k S', eF c S S' → S'.2.1 = S.2.1 → ∀ v3 : Int32, (v3 ≤ nI k ∨ ∃ n, n < 2 ^ 31 ∧ v3 = nI n ∧ n = k + m) → X41 S' v3 (nI k) := by
    intro m
    induction m with
    | zero =>
      intro k S' f e v3 hv
      have hle : v3 ≤ nI k := by
        rcases hv with hv | ⟨n, _, hv, hn⟩
        · exact hv
        · rw [hv, hn]; exact Int32.le_refl _
      exact x41 _ _ _ ⟨fun _ => hP _ _ f e, fun z => absurd hle z⟩
    | succ m ih =>
      intro k S' f e v3 hv
      refine x41 _ _ _ ⟨fun _ => hP _ _ f e, fun z S9 e9 x10 e10 => ?_⟩
      rcases hv with hv | ⟨n, hn1, hv, hn⟩
      · exact absurd hv z
      · rw [e10, nI_1]
        exact ih (k + 1) S9 (f.trans (by rw [e9]; exact eF_add _ _)) (by rw [e9]; exact e) v3 (Or.inr ⟨n, hn1, hv, by omega⟩)
  have go : X41 S x11 0 := by
    rcases pk_ix x11 (n := 2 ^ 31 - 1) (by omega) with z | z | ⟨j, hj, z⟩
    · exact key 0 0 S (eF.refl c S) rfl x11 (Or.inl (Int32.le_of_lt z))
    · refine key (2 ^ 31 - 1) 0 S (eF.refl c S) rfl x11 (Or.inr ⟨2 ^ 31 - 1, by omega, ?_, by omega⟩)
      refine Int32.le_antisymm ?_ z
      have : nI (2 ^ 31 - 1) = Int32.maxValue := by decide
      rw [this]
      exact Int32.le_maxValue x11
    · exact key j 0 S (eF.refl c S) rfl x11 (Or.inr ⟨j, by omega, z, by omega⟩)
  exact ⟨fun _ => no, fun _ => ⟨fun _ => no, fun _ => ⟨fun _ => go, fun _ => no⟩⟩⟩
theorem sp_rep {S : St} {g d sz : Nat} {L : List Int32} {P : Int32 → St → Prop} (hr : S.1 65 = L) (hs : S.2.1 2 1 = nI sz) (hl : L.length ≤ sz) (hz : sz ≤ 1000) (hg : g < 131072) (hd : d < 131072)
    (h1 : (1 ≤ d ∧ d ≤ L.length ∧ g + 2 ≤ sz - L.length) → P 1 (stX S 65 (rep L d (g + 2)))) (h0 : ¬ (1 ≤ d ∧ d ≤ L.length ∧ g + 2 ≤ sz - L.length) → P 0 S) : wp_X5_repeatBytes S (nI g) (nI d) P := by
  intro X36 X41 x36 x41 x11 e11
  have e11' : x11 = nI (g + 2) := by rw [e11]; exact nI_add g 2
  have hlen : rLen S 65 = nI L.length := by unfold rLen; rw [hr]
  rw [hlen, hs, e11', pk_sub (by omega)]
  refine pk_lt d 1 (fun z => x36 _ (h0 (by omega))) (fun z => pk_lt L.length d (fun z2 => x36 _ (h0 (by omega))) (fun z2 => pk_le (g + 2) (sz - L.length) (fun z3 => ?_) (fun z3 => x36 _ (h0 (by omega))) rfl) rfl) rfl
  have key : ∀ m k, k + m = g + 2 → X41 (stX S 65 (rep L d k)) (nI (g + 2)) (nI k) := by
    intro m
    induction m with
    | zero =>
      intro k hk
      have : k = g + 2 := by omega
      rw [this]
      exact x41 _ _ _ ⟨fun _ => h1 ⟨z, z2, z3⟩, fun y => absurd (Int32.le_refl _) y⟩
    | succ m ih =>
      intro k hk
      refine x41 _ _ _ ⟨fun y => absurd y (nI_ge (by omega) (by omega)), fun _ S9 e9 x10 e10 => ?_⟩
      have lk := rep_len L d k
      have eg : rLen (stX S 65 (rep L d k)) 65 - nI d = nI ((rep L d k).length - d) := by
        unfold rLen; rw [stX_at, pk_sub (by omega)]
      have e9' : S9 = stX S 65 (rep L d (k + 1)) := by
        rw [e9, eg, rGet_nI (by omega), stX_at]
        unfold rAdd
        rw [rApp_fit (by rw [stX_at]; show _ + 1 ≤ 1000; omega), stX_at, stX_stX]
        rfl
      rw [e9', e10, nI_1]
      exact ih (k + 1) (by omega)
  have := key (g + 2) 0 (by omega)
  rw [show rep L d 0 = S.1 65 by rw [hr]; rfl, stX_self] at this
  exact this
theorem sp_expand {S : St} {c p sz : Nat} {B : List Int32} {P : Int32 → St → Prop} (h : cu S c (8 * B.length) (8 * p)) (hr : S.1 62 = B) (hB : okB B) (hp : p ≤ B.length) (hs : S.2.1 2 1 = nI sz) (hz : sz ≤ 1000)
    (h1 : ∀ L S2, ex B p sz = some L → eF c S S2 → S2.1 65 = L → P 1 S2) (h0 : ∀ S2, ex B p sz = none → eF c S S2 → P 0 S2) : wp_X5_expandStream S c 62 P := by
  intro X9 X72 X87 x9 x72 x87 S44 e44
  obtain ⟨hl1, hb⟩ := hB
  have k72 : ∀ S' v2, ex B p sz = none → eF c S S' → br S' c → X72 S' v2 := fun S' v2 hn f b => x72 _ _ ⟨Or.inr b, fun z => by rw [b] at z; exact absurd z (by decide), fun _ => h0 _ hn f⟩
  have e62 : ∀ S' : St, eF c S S' → S'.1 62 = B := fun S' f => by rw [f.2.1 62 (by omega)]; exact hr
  have k87 : ∀ S' q L, q ≤ 8 * B.length → exl B (8 * B.length) sz sz (8 * p) [] = some (L, q) → eF c S S' → cu S' c (8 * B.length) q → S'.1 65 = L → X87 S' := by
    intro S' q L hq ee f u g65
    have eex : ex B p sz = if 8 * B.length - q < 8 ∧ nbv B q (8 * B.length - q) = 0 then some L else none := by unfold ex; rw [ee]
    refine x87 _ (fun x6 e6 => ?_)
    rw [u.1, u.2.1, pk_sub hq] at e6
    rw [e6]
    refine pk_le 8 (8 * B.length - q) (fun z => ⟨Or.inl rfl, Or.inl rfl, h0 _ (by rw [eex, if_neg (by omega)]) f⟩) (fun z => ?_) rfl
    refine sp_nb u (e62 _ f) hb (by omega) hq (by omega) (fun S8 _ f8 u8 => ?_) (fun S8 hlt => absurd hlt (by omega))
    have hv := nbv_16 B q (n := 8 * B.length - q) (by omega)
    have f8' := f.trans f8.eF
    refine And.symm (pk_eq (nbv B q (8 * B.length - q)) 0 (fun y => ⟨Or.inr rfl, Or.inr rfl, h1 L _ (by rw [eex, if_pos ⟨z, y⟩]) f8' (by rw [f8.1]; exact g65)⟩) (fun y => ⟨Or.inl rfl, Or.inl rfl, h0 _ (by rw [eex, if_neg (fun w => y w.2)]) f8'⟩) rfl)
  have key : ∀ f t q L S', t + f = sz → t ≤ L.length → L.length ≤ sz → q ≤ 8 * B.length → exl B (8 * B.length) sz sz (8 * p) [] = exl B (8 * B.length) sz f q L → eF c S S' → cu S' c (8 * B.length) q → S'.1 65 = L → X9 S' (nI t) := by
    intro f
    induction f with
    | zero =>
      intro t q L S' ht htl hls hq ee fS u g65
      simp only [exl] at ee
      rw [if_pos (by omega)] at ee
      have hs' : S'.2.1 2 1 = nI sz := by rw [fS.2.2.1 2 1 (by omega)]; exact hs
      refine x9 _ _ ⟨fun _ => k87 S' q L hq ee fS u g65, fun z => absurd (by rw [hs']; exact nI_le (by omega) (by omega)) z⟩
    | succ f ih =>
      intro t q L S' ht htl hls hq ee fS u g65
      have hs' : S'.2.1 2 1 = nI sz := by rw [fS.2.2.1 2 1 (by omega)]; exact hs
      have hlen : rLen S' 65 = nI L.length := by unfold rLen; rw [g65]
      simp only [exl] at ee
      refine x9 _ _ ⟨fun z => absurd z (by rw [hs']; exact nI_ge (by omega) (by omega)), fun _ => ?_⟩
      rw [hs', hlen]
      refine pk_le sz L.length (fun z => ?_) (fun z => ?_) rfl
      · rw [if_pos z] at ee
        exact k87 S' q L hq ee fS u g65
      · rw [if_neg (by omega)] at ee
        have none_of : exl B (8 * B.length) sz sz (8 * p) [] = none → ex B p sz = none := fun y => by unfold ex; rw [y]
        have bq := bt_le B q
        refine sp_nb (n := 1) u (e62 _ fS) hb (by omega) hq (by omega) (fun S25 hle f25 u25 => ?_) (fun S25 hlt f25 b25 => ?_)
        · rw [if_pos (show q < 8 * B.length by omega)] at ee
          rw [show nbv B q 1 = bt B q by simp [nbv]]
          have f25' := fS.trans f25.eF
          have r25 : S25.1 65 = L := by rw [f25.1]; exact g65
          refine And.symm (pk_eq (bt B q) 0 (fun y => ?_) (fun y => ?_) rfl)
          · rw [if_pos y] at ee
            refine sp_nb (n := 8) u25 (e62 _ f25') hb (by omega) hle (by omega) (fun S35 hle2 f35 u35 S37 e37 => ?_) (fun S35 hlt f35 b35 S37 e37 => ?_)
            · rw [if_pos (by omega)] at ee
              have e37' : S37 = stX S35 65 (L ++ [nI (nbv B (q + 1) 8)]) := by
                rw [e37]; unfold rAdd
                rw [rApp_fit (by rw [f35.1, r25]; show _ + 1 ≤ 1000; omega), f35.1, r25]
              have f37 : eF c S S37 := (f25'.trans f35.eF).trans (by rw [e37]; exact eF_add _ _)
              have u37 : cu S37 c (8 * B.length) (q + 1 + 8) := by rw [e37']; exact u35
              refine x72 _ _ ⟨Or.inl u37.2.2, fun _ x41 e41 => ?_, fun w => absurd u37.2.2 w⟩
              rw [e41, nI_1]
              exact ih (t + 1) (q + 9) (L ++ [nI (nbv B (q + 1) 8)]) S37 (by omega) (by simp; omega) (by simp; omega) (by omega) ee f37 u37 (by rw [e37', stX_at])
            · rw [if_neg (by omega)] at ee
              refine k72 _ _ (none_of ee) ((f25'.trans f35.eF).trans (by rw [e37]; exact eF_add _ _)) (by rw [e37]; exact b35)
          · rw [if_neg y] at ee
            refine sp_gm u25 (e62 _ f25') hb (by omega) hle (fun g q1 S28 hg1 f28 u28 => ?_) (fun v S28 hg1 f28 b28 => ?_)
            · rw [hg1] at ee
              simp only at ee
              have bg := gmz_b _ _ _ _ _ (by omega) hg1
              have f28' := f25'.trans f28.eF
              refine sp_gm u28 (e62 _ f28') hb (by omega) (by omega) (fun d q2 S30 hg2 f30 u30 => ?_) (fun v S30 hg2 f30 b30 => ?_)
              · rw [hg2] at ee
                simp only at ee
                have bg2 := gmz_b _ _ _ _ _ (by omega) hg2
                have f30' := f28'.trans f30.eF
                refine sp_rep (L := L) (sz := sz) (by rw [f30.1, f28.1]; exact r25) (by rw [f30'.2.2.1 2 1 (by omega)]; exact hs) hls hz (by omega) (by omega) (fun w => ⟨fun _ => ?_, fun v => absurd v (by decide)⟩) (fun w => ⟨fun v => absurd rfl v, fun _ => h0 _ (none_of (by rw [ee, if_neg w])) f30'⟩)
                rw [if_pos w] at ee
                have lr := rep_len L d (g + 2)
                have f32 : eF c S (stX S30 65 (rep L d (g + 2))) := f30'.trans (eF_65 _ _ (fun _ => by omega))
                have u32 : cu (stX S30 65 (rep L d (g + 2))) c (8 * B.length) q2 := u30
                refine x72 _ _ ⟨Or.inl u32.2.2, fun _ x41 e41 => ?_, fun v => absurd u32.2.2 v⟩
                rw [e41, nI_1]
                exact ih (t + 1) q2 (rep L d (g + 2)) _ (by omega) (by omega) (by omega) (by omega) ee f32 u32 stX_at
              · rw [hg2] at ee
                refine sp_rep_any (c := c) (fun r S32 f32 e32 => ⟨fun _ => k72 _ _ (none_of ee) ((f28'.trans f30.eF).trans f32) (by unfold br; rw [e32]; exact b30), fun _ => h0 _ (none_of ee) ((f28'.trans f30.eF).trans f32)⟩)
            · rw [hg1] at ee
              have f28' := f25'.trans f28.eF
              refine sp_gm_br b28 (fun v2 S30 f30 b30 => sp_rep_any (c := c) (fun r S32 f32 e32 => ⟨fun _ => k72 _ _ (none_of ee) ((f28'.trans f30.eF).trans f32) (by unfold br; rw [e32]; exact b30), fun _ => h0 _ (none_of ee) ((f28'.trans f30.eF).trans f32)⟩))
        · rw [if_neg (show ¬ q < 8 * B.length by omega)] at ee
          have f25' := fS.trans f25.eF
          refine ⟨fun y => absurd rfl y, fun _ => sp_nb_br (n := 8) b25 (by omega) (fun v S35 f35 b35 S37 e37 => k72 _ _ (none_of ee) ((f25'.trans f35.eF).trans (by rw [e37]; exact eF_add _ _)) (by rw [e37]; exact b35))⟩
  have f44 : eF c S S44 := by rw [e44]; exact eF_65 S [] (fun _ => by simp)
  have u44 : cu S44 c (8 * B.length) (8 * p) := by rw [e44]; exact h
  exact key sz 0 (8 * p) [] S44 (by omega) (by simp) (by simp) (by omega) rfl f44 u44 (by rw [e44]; exact stX_at)
