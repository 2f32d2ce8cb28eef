/-! the reference's short and long numbers -/
theorem mu.keep {K : Nat → Nat → Prop} {S S2 : St} {L : List Int32} {il e p : Nat} (h : mu S L il e p) (f : fr K S S2) (h1 : ∀ k q, K k q → k ≠ 29 ∧ k ≠ 30 ∧ (k = 9 → q < 8 ∨ 11 < q)) : mu S2 L il e p := by
  obtain ⟨m1, m2, m3', m4, m5, m6, m7⟩ := h
  refine ⟨by rw [f.2.2 9 8 (fun z => by have := (h1 _ _ z).2.2; omega)]; exact m1, by rw [f.2.2 9 9 (fun z => by have := (h1 _ _ z).2.2; omega)]; exact m2, by rw [f.2.2 9 10 (fun z => by have := (h1 _ _ z).2.2; omega)]; exact m3', by rw [f.2.2 9 11 (fun z => by have := (h1 _ _ z).2.2; omega)]; exact m4, fun k hk => by rw [f.2.2 _ _ (fun z => by have := h1 _ _ z; omega)]; exact m5 k hk, m6, m7⟩
theorem mu.b {S : St} {L : List Int32} {il e p : Nat} (h : mu S L il e p) : S.2.1 9 11 = 0 := h.2.2.2.1
theorem bd.b {S : St} (h : bd S) : S.2.1 9 11 = 0 ∨ S.2.1 9 11 = 1 := Or.inr h
theorem sm_ns_bd {S : St} {P : Int32 → St → Prop} (h : bd S) (hP : ∀ v S2, fr kC S S2 → bd S2 → P v S2) : wp_X11_nextShort S P := by
  unfold wp_X11_nextShort
  exact sm_next_bd h (fun S2 f2 b2 => ⟨fun z => absurd z (by decide), fun _ => hP _ _ f2 b2⟩)
theorem sm_ns {S : St} {L : List Int32} {il e p : Nat} {P : Int32 → St → Prop} (h : mu S L il e p) (hb : ∀ b ∈ L, byt b) (hp : p ≤ e) (h1 : ∀ v p' S2, ns L e p = some (v, p') → fr kC S S2 → mu S2 L il e p' → P (nI v) S2) (h0 : ∀ v S2, ns L e p = none → fr kC S S2 → bd S2 → P v S2) : wp_X11_nextShort S P := by
  unfold wp_X11_nextShort wp_X11_nextShort_59
  unfold ns at h1 h0
  refine sm_next h hb hp (fun S10 hpe f10 u10 => ?_) (fun S10 hpe f10 b10 => ⟨fun z => absurd z (by decide), fun _ => h0 _ _ (by rw [if_neg (by omega)]) f10 b10⟩)
  rw [if_pos hpe] at h1 h0
  have v0 := vb_lt hb p
  refine pk_le 253 (vb L p) (fun z => ?_) (fun z => ?_) rfl
  · rw [if_neg (show ¬ vb L p < 253 by omega)] at h1 h0
    refine sm_next u10 hb (by omega) (fun S13 hp1 f13 u13 => ?_) (fun S13 hp1 f13 b13 => ?_)
    · refine And.symm (pk_eq (vb L p) 253 (fun q => ?_) (fun q => And.symm (pk_eq (vb L p) 254 (fun q2 => ?_) (fun q2 => ?_) rfl)) rfl)
      · rw [if_pos q] at h1 h0
        refine sm_next u13 hb (by omega) (fun S17 hp2 f17 u17 => ?_) (fun S17 hp2 f17 b17 => h0 _ _ (by rw [if_neg (by omega)]) ((f10.trans f13).trans f17) b17)
        rw [if_pos (show p + 2 < e by omega)] at h1
        have := h1 _ _ S17 rfl ((f10.trans f13).trans f17) u17
        simp only [lit32, pk_mul, nI_add]
        exact this
      · rw [if_neg q, if_pos hp1, if_pos q2] at h1
        have := h1 _ _ S13 rfl (f10.trans f13) u13
        rw [show (506 : Int32) + nI (vb L (p + 1)) = nI (506 + vb L (p + 1)) from nI_add 506 _]
        exact this
      · rw [if_neg q, if_pos hp1, if_neg q2] at h1
        have := h1 _ _ S13 rfl (f10.trans f13) u13
        rw [show (253 : Int32) + nI (vb L (p + 1)) = nI (253 + vb L (p + 1)) from nI_add 253 _]
        exact this
    · have hn : ∀ v, P v S13 := fun v => h0 _ _ (by
        by_cases q : vb L p = 253
        · rw [if_pos q, if_neg (by omega)]
        · rw [if_neg q, if_neg (by omega)]) (f10.trans f13) b13
      refine ⟨fun _ => ⟨fun _ => hn _, fun _ => hn _⟩, fun q => sm_next_bd b13 (fun S17 f17 b17 => h0 _ _ ?_ ((f10.trans f13).trans f17) b17)⟩
      rw [if_pos ((nI_lit (b := 253) (by omega) (by omega)).mp q), if_neg (by omega)]
  · rw [if_pos (show vb L p < 253 by omega)] at h1
    exact h1 _ _ S10 rfl f10 u10
theorem frC_B {S S1 S2 : St} (h : fr kC S S1) (h2 : fr kB S1 S2) : fr kC S S2 := h.trans (frCB h2)
theorem sm_nl_aux {S0' : St} {P : Int32 → St → Prop} (X18 : St → Int32 → Int32 → Prop) (X29 : St → Int32 → Int32 → Int32 → Prop) (X63 : St → Int32 → Int32 → Prop) (X76 : St → Int32 → Int32 → Prop) (x18 : ∀ S v1 s0, st_X11_nextLong_18 P X18 X29 X63 X76 S v1 s0 → X18 S v1 s0) (x29 : ∀ S v1 v2 v3, st_X11_nextLong_29 P X18 X29 X63 X76 S v1 v2 v3 → X29 S v1 v2 v3) (x63 : ∀ S v1 v2, st_X11_nextLong_63 P X18 X29 X63 X76 S v1 v2 → X63 S v1 v2) (x76 : ∀ S v2 s0, st_X11_nextLong_76 P X18 X29 X63 X76 S v2 s0 → X76 S v2 s0) (h0 : ∀ v S2, fr kC S0' S2 → bd S2 → P v S2) : (∀ S' b v, fr kC S0' S' → (S'.2.1 9 11 = 0 ∨ bd S') → (bd S' ∨ 128 ≤ b) → X63 S' b v) ∧ (∀ S' b v, fr kC S0' S' → bd S' → X29 S' b v 1) := by
  have k63 : ∀ S' b v, fr kC S0' S' → (S'.2.1 9 11 = 0 ∨ bd S') → (bd S' ∨ 128 ≤ b) → X63 S' b v := by
    intro S' b v f ob hb
    refine x63 _ _ _ ⟨fun _ => x76 _ _ _ (sm_check ob (fun _ q => absurd rfl q) (fun _ S2 f2 b2 => h0 _ _ (frC_B f f2) b2)), fun z => x76 _ _ _ (sm_check ob (fun z0 _ => ?_) (fun _ S2 f2 b2 => h0 _ _ (frC_B f f2) b2))⟩
    rcases hb with hb | hb
    · rw [hb] at z0; exact absurd z0 (by decide)
    · exact absurd hb z
  have n2 : (1 : Int32) + 1 = 2 := by decide
  have k2 : ∀ S' b v, fr kC S0' S' → bd S' → b = 0 → X29 S' b v 2 := by
    intro S' b v f bb eb
    exact x29 _ _ _ _ ⟨fun z => absurd z (by decide), fun _ => ⟨fun _ => k63 _ _ _ f (Or.inr bb) (Or.inl bb), fun z => absurd (by rw [eb]; decide) z⟩⟩
  refine ⟨k63, fun S' b v f bb => x29 _ _ _ _ ⟨fun z => absurd z (by decide), fun _ => ⟨fun _ => k63 _ _ _ f (Or.inr bb) (Or.inl bb), fun z => sm_next_bd bb (fun S21 f21 b21 x23 e23 x24 e24 => ?_)⟩⟩⟩
  rw [e24, n2]
  exact k2 _ _ _ (f.trans f21) b21 rfl
theorem sm_nl_bd {S : St} {P : Int32 → St → Prop} (h : bd S) (hP : ∀ v S2, fr kC S S2 → bd S2 → P v S2) : wp_X11_nextLong S P := by
  intro X18 X29 X63 X76 x18 x29 x63 x76
  obtain ⟨k63, k29⟩ := sm_nl_aux (S0' := S) (P := P) X18 X29 X63 X76 x18 x29 x63 x76 hP
  refine sm_next_bd h (fun S28 f28 b28 => ⟨fun z => absurd z (by decide), fun _ => x18 _ _ _ (sm_check (Or.inr b28) (fun z => by rw [b28] at z; exact absurd z (by decide)) (fun _ S16 f16 b16 x18' e18 => k29 _ _ _ (frC_B f28 f16) b16))⟩)
theorem sm_nl {S : St} {L : List Int32} {il e p : Nat} {P : Int32 → St → Prop} (h : mu S L il e p) (hb : ∀ b ∈ L, byt b) (hp : p ≤ e) (h1 : ∀ v p' S2, nl L e p = some (v, p') → fr kC S S2 → mu S2 L il e p' → P (nI v) S2) (h0 : ∀ v S2, nl L e p = none → fr kC S S2 → bd S2 → P v S2) : wp_X11_nextLong S P := by
  intro X18 X29 X63 X76 x18 x29 x63 x76
  have aux := fun hn : nl L e p = none => sm_nl_aux (S0' := S) (P := P) X18 X29 X63 X76 x18 x29 x63 x76 (fun v S2 f b => h0 v S2 hn f b)
  have ok : ∀ S' b v p', b < 128 → fr kC S S' → mu S' L il e p' → nl L e p = some (v, p') → X63 S' (nI b) (nI v) := by
    intro S' b v p' hb1 f u hn
    refine x63 _ _ _ ⟨fun z => absurd z (nI_ge (b := 128) hb1 (by omega)), fun _ => x76 _ _ _ (sm_check (Or.inl u.b) (fun _ _ => h1 _ _ _ hn f u) (fun q => ?_))⟩
    rcases q with q | q
    · rw [u.b] at q; exact absurd q (by decide)
    · exact absurd q (by decide)
  have n2 : (1 : Int32) + 1 = 2 := by decide
  have n3 : (2 : Int32) + 1 = 3 := by decide
  have v0 := vb_lt hb p
  have v1 := vb_lt hb (p + 1)
  have v2 := vb_lt hb (p + 2)
  refine sm_next h hb hp (fun S28 hpe f28 u28 => ?_) (fun S28 hpe f28 b28 => ?_)
  · have en : nl L e p = (if vb L p = 128 then none else if vb L p < 128 then some (vb L p, p + 1) else if p + 1 < e then (if vb L (p + 1) < 128 then some (128 * (vb L p % 128) + vb L (p + 1), p + 2) else if p + 2 < e then (if vb L (p + 2) < 128 then some (128 * (128 * (vb L p % 128) + vb L (p + 1) % 128) + vb L (p + 2), p + 3) else none) else none) else none) := by unfold nl; rw [if_pos hpe]
    refine pk_eq (vb L p) 128 (fun z => ?_) (fun z => ?_) rfl
    · rw [if_pos z] at en
      refine x18 _ _ _ (sm_check (Or.inl u28.b) (fun _ q => absurd rfl q) (fun _ S16 f16 b16 x18' e18 => (aux en).2 _ _ _ (frC_B f28 f16) b16))
    · rw [if_neg z] at en
      refine x18 _ _ _ (sm_check (Or.inl u28.b) (fun _ _ x18' e18 => ?_) (fun q => ?_))
      · rw [e18, md128v v0]
        refine x29 _ _ _ _ ⟨fun q => absurd q (by decide), fun _ => pk_le (vb L p) 127 (fun q => ?_) (fun q => ?_) rfl⟩
        · rw [if_pos (by omega)] at en
          rw [Nat.mod_eq_of_lt (show vb L p < 128 by omega)]
          exact ok _ _ _ _ (by omega) f28 u28 en
        · rw [if_neg (show ¬ vb L p < 128 by omega)] at en
          refine sm_next u28 hb (by omega) (fun S21 hp1 f21 u21 x23 e23 x24 e24 => ?_) (fun S21 hp1 f21 b21 x23 e23 x24 e24 => ?_)
          · rw [if_pos hp1] at en
            rw [e23, e24, n2, md128v v1, show (128 : Int32) * nI (vb L p % 128) = nI (128 * (vb L p % 128)) from pk_mul 128 _, nI_add]
            refine x29 _ _ _ _ ⟨fun q => absurd q (by decide), fun _ => pk_le (vb L (p + 1)) 127 (fun q => ?_) (fun q => ?_) rfl⟩
            · rw [if_pos (by omega)] at en
              rw [Nat.mod_eq_of_lt (show vb L (p + 1) < 128 by omega)]
              exact ok _ _ _ _ (by omega) (f28.trans f21) u21 en
            · rw [if_neg (show ¬ vb L (p + 1) < 128 by omega)] at en
              refine sm_next u21 hb (by omega) (fun S31 hp2 f31 u31 x33 e33 x34 e34 => ?_) (fun S31 hp2 f31 b31 x33 e33 x34 e34 => ?_)
              · rw [if_pos (show p + 2 < e by omega)] at en
                rw [e33, e34, n3]
                refine x29 _ _ _ _ ⟨fun _ => ?_, fun q => absurd (by decide) q⟩
                by_cases q3 : vb L (p + 2) < 128
                · rw [if_pos q3] at en
                  rw [md128v v2, Nat.mod_eq_of_lt q3, show (128 : Int32) * nI (128 * (vb L p % 128) + vb L (p + 1) % 128) = nI (128 * (128 * (vb L p % 128) + vb L (p + 1) % 128)) from pk_mul 128 _, nI_add]
                  exact ok _ _ _ _ q3 ((f28.trans f21).trans f31) u31 en
                · rw [if_neg q3] at en
                  exact (aux en).1 _ _ _ ((f28.trans f21).trans f31) (Or.inl u31.b) (Or.inr (nI_le (a := 128) (b := vb L (p + 2)) (by omega) (by omega)))
              · rw [if_neg (show ¬ p + 2 < e by omega)] at en
                rw [e33, e34, n3]
                exact x29 _ _ _ _ ⟨fun _ => (aux en).1 _ _ _ ((f28.trans f21).trans f31) (Or.inr b31) (Or.inl b31), fun q => absurd (by decide) q⟩
          · rw [if_neg (show ¬ p + 1 < e by omega)] at en
            rw [e24, n2]
            exact x29 _ _ _ _ ⟨fun q => absurd q (by decide), fun _ => ⟨fun _ => (aux en).1 _ _ _ (f28.trans f21) (Or.inr b21) (Or.inl b21), fun q => absurd (by decide) q⟩⟩
      · rcases q with q | q
        · rw [u28.b] at q; exact absurd q (by decide)
        · exact absurd q (by decide)
  · have en : nl L e p = none := by unfold nl; rw [if_neg (by omega)]
    refine ⟨fun z => absurd z (by decide), fun _ => x18 _ _ _ (sm_check (Or.inr b28) (fun z => by rw [b28] at z; exact absurd z (by decide)) (fun _ S16 f16 b16 x18' e18 => (aux en).2 _ _ _ (frC_B f28 f16) b16))⟩
/-! the head of a packed font -/
abbrev Hs : Type := Nat → Option (Nat × Nat)
def upH (hs : Hs) (t : Nat) (x : Nat × Nat) : Hs := fun u => if u = t then some x else hs u
def plH (hs : Hs) (t : Nat) : Nat := match hs t with | some x => x.1 | none => 0
def slH (hs : Hs) (t : Nat) : Nat := match hs t with | some x => x.2 | none => 0
def inH (hs : Hs) (t : Nat) : Nat := match hs t with | some _ => 1 | none => 0
def tblM (m : Nat) : Option Nat := if m = 64 then some 0 else if m = 65 then some 1 else if 2 ≤ m ∧ m < 7 then some m else none
def rlen (B : List Int32) (e p t : Nat) : Option (Nat × Nat × Nat) := if t < 2 then (match nl B e p with | none => none | some (a, p1) => match nl B e p1 with | none => none | some (b, p2) => some (a, b, p2)) else (match nl B e p with | none => none | some (a, p1) => if 1 ≤ a ∧ a ≤ 20 then some (a, a, p1) else none)
def hl (B : List Int32) (e : Nat) : Nat → Nat → Nat → Nat → Hs → Option (Nat × Nat × Hs)
  | 0, p, _, sm, hs => some (p, sm, hs)
  | k + 1, p, lo, sm, hs => if p < e then (match tblM (vb B p) with | none => none | some t => if t < lo then none else match rlen B e (p + 1) t with | none => none | some (a, b, p') => hl B e k p' (t + 1) (sm + b) (upH hs t (a, b))) else none
def hT (B : List Int32) (o : Option (Nat × Nat × Hs)) : Option (Nat × Nat × Hs) := match o with | none => none | some (p, sm, hs) => if inH hs 0 = inH hs 1 then (match nl B B.length p with | none => none | some (z, p') => if z = sm ∧ z ≤ 1000 then some (p', z, hs) else none) else none
def hd (B : List Int32) : Option (Nat × Nat × Hs) := if 3 ≤ B.length ∧ vb B 0 = 119 ∧ vb B 1 = 50 then hT B (hl B B.length (vb B 2) 3 0 0 (fun _ => none)) else none
theorem tblM_lt {m t : Nat} (h : tblM m = some t) : t < 7 := by
  unfold tblM at h
  split at h
  · simp at h; omega
  · split at h
    · simp at h; omega
    · split at h
      · simp at h; omega
      · simp at h
theorem rlen_b {B : List Int32} {e p t a b p' : Nat} (hb : ∀ x ∈ B, byt x) (h : rlen B e p t = some (a, b, p')) : a < 2097152 ∧ b < 2097152 ∧ p < p' ∧ p' ≤ e ∧ (2 ≤ t → a = b ∧ 1 ≤ a ∧ a ≤ 20) := by
  unfold rlen at h
  split at h
  · cases h1 : nl B e p with
    | none => rw [h1] at h; simp at h
    | some x =>
      obtain ⟨a1, p1⟩ := x
      rw [h1] at h
      simp only at h
      have b1 := nl_b hb h1
      cases h2 : nl B e p1 with
      | none => rw [h2] at h; simp at h
      | some y =>
        obtain ⟨b2, p2⟩ := y
        rw [h2] at h
        simp at h
        have b2' := nl_b hb h2
        omega
  · cases h1 : nl B e p with
    | none => rw [h1] at h; simp at h
    | some x =>
      obtain ⟨a1, p1⟩ := x
      rw [h1] at h
      simp only at h
      have b1 := nl_b hb h1
      split at h
      · simp at h; omega
      · simp at h
theorem hl_le {B : List Int32} {e : Nat} : ∀ k p lo sm hs x, lo ≤ 7 → hl B e k p lo sm hs = some x → k + lo ≤ 7 := by
  intro k
  induction k with
  | zero => intro p lo sm hs x h _; omega
  | succ k ih =>
    intro p lo sm hs x hlo h
    simp only [hl] at h
    split at h
    · cases h1 : tblM (vb B p) with
      | none => rw [h1] at h; simp at h
      | some t =>
        rw [h1] at h
        simp only at h
        have ht := tblM_lt h1
        split at h
        · simp at h
        · cases h2 : rlen B e (p + 1) t with
          | none => rw [h2] at h; simp at h
          | some y =>
            obtain ⟨a, b, p'⟩ := y
            rw [h2] at h
            simp only at h
            have := ih _ _ _ _ _ (by omega) h
            omega
    · simp at h
/-! the class reads the head -/
def hF (c : Nat) (S S2 : St) : Prop := S2.2.2 = S.2.2 ∧ (∀ q, q ≠ 66 → q ≠ 67 → S2.1 q = S.1 q) ∧ (∀ k p, k ≠ 1000 + c → k ≠ 2 → S2.2.1 k p = S.2.1 k p) ∧ ((S.1 66).length ≤ 7 → (S2.1 66).length ≤ 7) ∧ ((S.1 67).length ≤ 7 → (S2.1 67).length ≤ 7)
theorem hF.refl (c : Nat) (S : St) : hF c S S := ⟨rfl, fun _ _ _ => rfl, fun _ _ _ _ => rfl, id, id⟩
theorem hF.trans {c : Nat} {S S1 S2 : St} (h : hF c S S1) (h2 : hF c S1 S2) : hF c S S2 := ⟨h2.1.trans h.1, fun q a b => (h2.2.1 q a b).trans (h.2.1 q a b), fun k p a b => (h2.2.2.1 k p a b).trans (h.2.2.1 k p a b), fun z => h2.2.2.2.1 (h.2.2.2.1 z), fun z => h2.2.2.2.2 (h.2.2.2.2 z)⟩
theorem cf.hF {c : Nat} {S S2 : St} (h : cf c S S2) : hF c S S2 := ⟨h.2.1, fun q _ _ => by rw [h.1], fun k p a _ => h.2.2 k p a, fun z => by rw [h.1]; exact z, fun z => by rw [h.1]; exact z⟩
theorem rCh_nI {S : St} {r t : Nat} {v : Int32} (h : t < 2 ^ 31) : rChange S r (nI t) v = stX S r ((S.1 r).set t v) := by
  unfold rChange
  rw [if_neg (nI_pos h), nI_clamp h]
theorem hF_66 {c : Nat} (S : St) (l : List Int32) (h : (S.1 66).length ≤ 7 → l.length ≤ 7) : hF c S (stX S 66 l) := ⟨rfl, fun q a _ => stX_ne a, fun _ _ _ _ => rfl, fun z => by rw [stX_at]; exact h z, fun z => by rw [stX_ne (by omega)]; exact z⟩
theorem hF_67 {c : Nat} (S : St) (l : List Int32) (h : (S.1 67).length ≤ 7 → l.length ≤ 7) : hF c S (stX S 67 l) := ⟨rfl, fun q _ a => stX_ne a, fun _ _ _ _ => rfl, fun z => by rw [stX_ne (by omega)]; exact z, fun z => by rw [stX_at]; exact h z⟩
theorem cu_X {S : St} {c e p r : Nat} {l : List Int32} (h : cu S c e p) : cu (stX S r l) c e p := h
theorem sp_readLengths {S : St} {c e p t : Nat} {B : List Int32} {P : Int32 → St → Prop} (h : cu S c e p) (hr : S.1 62 = B) (hb : ∀ b ∈ B, byt b) (he : e < 2 ^ 30) (hp : p ≤ e) (ht : t < 7)
    (h1 : ∀ a b p' S2, rlen B e p t = some (a, b, p') → hF c S S2 → cu S2 c e p' → S2.1 66 = (S.1 66).set t (nI a) → S2.1 67 = (S.1 67).set t (nI b) → P 1 S2) (h0 : ∀ S2, rlen B e p t = none → hF c S S2 → P 0 S2) : wp_X5_readLengths S (nI t) c 62 P := by
  unfold wp_X5_readLengths wp_X5_readLengths_75 wp_X5_readLengths_76 wp_X5_readLengths_43 wp_X2_isBroken
  have ls : ∀ (l : List Int32) (v : Int32), l.length ≤ 7 → (l.set t v).length ≤ 7 := fun l v z => by rw [List.length_set]; exact z
  refine sp_nl h hr hb he hp (fun a p1 S17 hn f17 u17 S19 e19 => ?_) (fun a S17 hn f17 b17 S19 e19 => ?_)
  · rw [rCh_nI (by omega)] at e19
    have b1 := nl_b hb hn
    have f19 : hF c S S19 := f17.hF.trans (by rw [e19]; exact hF_66 _ _ (ls _ _))
    have u19 : cu S19 c e p1 := by rw [e19]; exact cu_X u17
    have r19 : S19.1 62 = B := by rw [f19.2.1 62 (by omega) (by omega)]; exact hr
    have l66 : S19.1 66 = (S.1 66).set t (nI a) := by rw [e19, stX_at, f17.1]
    have l67 : S19.1 67 = S.1 67 := by rw [e19, stX_ne (by omega), f17.1]
    refine pk_le 2 t (fun h2 S21 e21 => ?_) (fun h2 => ?_) rfl
    · rw [rCh_nI (by omega)] at e21
      have f21 : hF c S S21 := f19.trans (by rw [e21]; exact hF_67 _ _ (ls _ _))
      have u21 : cu S21 c e p1 := by rw [e21]; exact cu_X u19
      have er : rlen B e p t = if 1 ≤ a ∧ a ≤ 20 then some (a, a, p1) else none := by unfold rlen; rw [if_neg (by omega), hn]
      refine ⟨Or.inl u21.2.2, fun z => absurd u21.2.2 z, fun _ => pk_lt a 1 (fun z => ⟨Or.inl rfl, h0 _ (by rw [er, if_neg (by omega)]) f21⟩) (fun z => pk_lt 20 a (fun z2 => ⟨Or.inl rfl, h0 _ (by rw [er, if_neg (by omega)]) f21⟩) (fun z2 => ⟨Or.inr rfl, ?_⟩) rfl) rfl⟩
      rw [if_pos ⟨z, z2⟩] at er
      refine h1 _ _ _ _ er f21 u21 ?_ ?_
      · rw [e21, stX_ne (by omega)]; exact l66
      · rw [e21, stX_at, l67]
    · refine sp_nl u19 r19 hb he (by omega) (fun b p2 S27 hn2 f27 u27 S29 e29 => ?_) (fun b S27 hn2 f27 b27 S29 e29 => ?_)
      · rw [rCh_nI (by omega)] at e29
        have f29 : hF c S S29 := (f19.trans f27.hF).trans (by rw [e29]; exact hF_67 _ _ (ls _ _))
        have u29 : cu S29 c e p2 := by rw [e29]; exact cu_X u27
        have er : rlen B e p t = some (a, b, p2) := by unfold rlen; rw [if_pos (by omega), hn]; simp only; rw [hn2]
        refine ⟨Or.inl u29.2.2, fun z => absurd u29.2.2 z, fun _ => ⟨Or.inr rfl, h1 _ _ _ _ er f29 u29 ?_ ?_⟩⟩
        · rw [e29, stX_ne (by omega), f27.1]; exact l66
        · rw [e29, stX_at, f27.1, l67]
      · rw [rCh_nI (by omega)] at e29
        have f29 : hF c S S29 := (f19.trans f27.hF).trans (by rw [e29]; exact hF_67 _ _ (ls _ _))
        have er : rlen B e p t = none := by unfold rlen; rw [if_pos (by omega), hn]; simp only; rw [hn2]
        have b29 : S29.2.1 (1000 + c) 2 = 1 := by rw [e29]; exact b27
        rw [b29]
        exact ⟨Or.inr rfl, fun _ => ⟨Or.inl rfl, h0 _ er f29⟩, fun z => absurd z (by decide)⟩
  · rw [rCh_nI (by omega)] at e19
    have f19 : hF c S S19 := f17.hF.trans (by rw [e19]; exact hF_66 _ _ (ls _ _))
    have b19 : br S19 c := by rw [e19]; exact b17
    have er : rlen B e p t = none := by unfold rlen; rw [hn]; split <;> rfl
    refine pk_le 2 t (fun h2 S21 e21 => ?_) (fun h2 => ?_) rfl
    · rw [rCh_nI (by omega)] at e21
      have f21 : hF c S S21 := f19.trans (by rw [e21]; exact hF_67 _ _ (ls _ _))
      have b21 : S21.2.1 (1000 + c) 2 = 1 := by rw [e21]; exact b19
      rw [b21]
      exact ⟨Or.inr rfl, fun _ => ⟨Or.inl rfl, h0 _ er f21⟩, fun z => absurd z (by decide)⟩
    · refine sp_nl_br b19 (fun b S27 f27 b27 S29 e29 => ?_)
      rw [rCh_nI (by omega)] at e29
      have f29 : hF c S S29 := (f19.trans f27.hF).trans (by rw [e29]; exact hF_67 _ _ (ls _ _))
      have b29 : S29.2.1 (1000 + c) 2 = 1 := by rw [e29]; exact b27
      rw [b29]
      exact ⟨Or.inr rfl, fun _ => ⟨Or.inl rfl, h0 _ er f29⟩, fun z => absurd z (by decide)⟩
def r66 (hs : Hs) : List Int32 := (List.range 7).map (fun t => nI (plH hs t))
def r67 (hs : Hs) : List Int32 := (List.range 7).map (fun t => nI (slH hs t))
theorem set_map {f g : Nat → Int32} {t : Nat} {v : Int32} (h1 : g t = v) (h2 : ∀ u, u ≠ t → g u = f u) : ((List.range 7).map f).set t v = (List.range 7).map g := by
  apply List.ext_getElem?
  intro i
  rw [List.getElem?_set]
  split
  · rename_i z
    subst z
    by_cases hi : t < 7
    · rw [List.getElem?_map, List.getElem?_range hi]; simp [hi, h1]
    · simp [hi]
  · rename_i z
    by_cases hi : i < 7
    · rw [List.getElem?_map, List.getElem?_map, List.getElem?_range hi]
      show some (f i) = some (g i)
      rw [h2 i (fun y => z y.symm)]
    · simp [hi]
theorem r66_up {hs : Hs} {t a b : Nat} : (r66 hs).set t (nI a) = r66 (upH hs t (a, b)) := set_map (by unfold plH upH; simp) (fun u hu => by unfold plH upH; simp [hu])
theorem r67_up {hs : Hs} {t a b : Nat} : (r67 hs).set t (nI b) = r67 (upH hs t (a, b)) := set_map (by unfold slH upH; simp) (fun u hu => by unfold slH upH; simp [hu])
theorem inH_up {hs : Hs} {t u : Nat} {x : Nat × Nat} : inH (upH hs t x) u = if u = t then 1 else inH hs u := by
  unfold inH upH
  by_cases h : u = t
  · simp [h]
  · simp [h]
theorem inH_le (hs : Hs) (u : Nat) : inH hs u ≤ 1 := by unfold inH; split <;> omega
theorem le_pred {t lo : Nat} (ht : t < 2 ^ 30) (hlo : lo < 2 ^ 30) : nI t ≤ nI lo - 1 ↔ t < lo := by
  cases lo with
  | zero =>
    constructor
    · intro z
      rw [show nI 0 - 1 = -1 by decide] at z
      exact absurd (Int32.lt_of_le_of_lt z (by decide : (-1 : Int32) < 0)) (nI_pos (by omega))
    · intro z; omega
  | succ lo => rw [nI_pred, nI_leI (by omega) (by omega)]; omega
theorem m1_le_pred {lo : Nat} (hlo : lo < 2 ^ 30) : (-1 : Int32) ≤ nI lo - 1 := by
  cases lo with
  | zero => decide
  | succ lo =>
    rw [nI_pred]
    exact Int32.le_trans (by decide : (-1 : Int32) ≤ 0) (nI_pos' (by omega))
theorem tom_some {S : St} {m t : Nat} (hm : m < 256) (h : tblM m = some t) : fv_X5_tableOfMark S (nI m) = nI t := by
  unfold tblM at h
  unfold fv_X5_tableOfMark fv_X5_tableOfMark_12 fv_X5_tableOfMark_33
  split at h
  · rename_i z; simp at h; rw [z, ← h]; rfl
  · split at h
    · rename_i z; simp at h; rw [z, ← h]; rfl
    · split at h
      · rename_i z1 z2 z3
        simp at h
        rw [if_neg (show ¬ nI m = 64 from fun z => z1 ((nI_lit (b := 64) (by omega) (by omega)).mp z)), if_neg (show ¬ nI m = 65 from fun z => z2 ((nI_lit (b := 65) (by omega) (by omega)).mp z)), if_neg (show ¬ nI m < 2 from fun z => absurd ((nI_ltI (b := 2) (by omega) (by omega)).mp z) (by omega)), if_neg (show ¬ 7 ≤ nI m from fun z => absurd ((nI_leI (a := 7) (by omega) (by omega)).mp z) (by omega)), h]
      · simp at h
theorem tom_none {S : St} {m : Nat} (hm : m < 256) (h : tblM m = none) : fv_X5_tableOfMark S (nI m) = -1 := by
  unfold tblM at h
  unfold fv_X5_tableOfMark fv_X5_tableOfMark_32 fv_X5_tableOfMark_33
  split at h
  · simp at h
  · split at h
    · simp at h
    · split at h
      · simp at h
      · rename_i z1 z2 z3
        rw [if_neg (show ¬ nI m = 64 from fun z => z1 ((nI_lit (b := 64) (by omega) (by omega)).mp z)), if_neg (show ¬ nI m = 65 from fun z => z2 ((nI_lit (b := 65) (by omega) (by omega)).mp z))]
        by_cases h2 : m < 2
        · rw [if_pos (show nI m < 2 from (nI_ltI (b := 2) (by omega) (by omega)).mpr h2)]
        · rw [if_neg (show ¬ nI m < 2 from fun z => h2 ((nI_ltI (b := 2) (by omega) (by omega)).mp z)), if_pos (show 7 ≤ nI m from (nI_leI (a := 7) (by omega) (by omega)).mpr (by omega))]
