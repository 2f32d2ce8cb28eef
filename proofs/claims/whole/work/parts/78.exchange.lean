/-! the reference exchanges the fonts -/
def exV (V : Nat → Nat → Int32) (k p : Nat) : Int32 :=
  if k = 9 ∧ p = 1 then V 9 2 else if k = 9 ∧ p = 2 then V 9 1
  else if 10 ≤ k ∧ k ≤ 12 ∧ p < 6 then V (k + 9) p else if 19 ≤ k ∧ k ≤ 21 ∧ p < 6 then V (k - 9) p
  else if k = 15 ∧ p < 96 then (if 128 ≤ V 24 p then 0 else 1) else if k = 24 ∧ p < 96 then (if V 15 p = 0 then 128 else 0)
  else if 13 ≤ k ∧ k ≤ 16 ∧ p < 96 then V (k + 9) p else if 22 ≤ k ∧ k ≤ 25 ∧ p < 96 then V (k - 9) p
  else if k = 17 ∧ p < 7 then V 27 p else if k = 27 ∧ p < 7 then V 17 p
  else if k = 18 ∧ p < 140 then V 28 p else if k = 28 ∧ p < 140 then V 18 p else V k p
def D1 (i k p : Nat) : Prop := (k = 9 ∧ (p = 1 ∨ p = 2)) ∨ (((10 ≤ k ∧ k ≤ 12) ∨ (19 ≤ k ∧ k ≤ 21)) ∧ p < i)
def D2 (i k p : Nat) : Prop := D1 6 k p ∨ (((13 ≤ k ∧ k ≤ 16) ∨ (22 ≤ k ∧ k ≤ 25)) ∧ p < i)
def D3 (i k p : Nat) : Prop := D2 96 k p ∨ ((k = 17 ∨ k = 27) ∧ p < i)
def D4 (i k p : Nat) : Prop := D3 7 k p ∨ ((k = 18 ∨ k = 28) ∧ p < i)
def exI (D : Nat → Nat → Prop) (S S2 : St) : Prop := fr D S S2 ∧ ∀ k p, D k p → S2.2.1 k p = exV S.2.1 k p
theorem ex_lo {V : Nat → Nat → Int32} {k p : Nat} (h : 10 ≤ k ∧ k ≤ 12) (hp : p < 6) : exV V k p = V (k + 9) p := by
  unfold exV; rw [if_neg (by omega), if_neg (by omega), if_pos (by omega)]
theorem ex_lo' {V : Nat → Nat → Int32} {k p : Nat} (h : 19 ≤ k ∧ k ≤ 21) (hp : p < 6) : exV V k p = V (k - 9) p := by
  unfold exV; rw [if_neg (by omega), if_neg (by omega), if_neg (by omega), if_pos (by omega)]
theorem ex_15 {V : Nat → Nat → Int32} {p : Nat} (hp : p < 96) : exV V 15 p = if 128 ≤ V 24 p then 0 else 1 := by
  unfold exV; rw [if_neg (by omega), if_neg (by omega), if_neg (by omega), if_neg (by omega), if_pos (by omega)]
theorem ex_24 {V : Nat → Nat → Int32} {p : Nat} (hp : p < 96) : exV V 24 p = if V 15 p = 0 then 128 else 0 := by
  unfold exV; rw [if_neg (by omega), if_neg (by omega), if_neg (by omega), if_neg (by omega), if_neg (by omega), if_pos (by omega)]
theorem ex_mi {V : Nat → Nat → Int32} {k p : Nat} (h : 13 ≤ k ∧ k ≤ 16) (h15 : k ≠ 15) (hp : p < 96) : exV V k p = V (k + 9) p := by
  unfold exV; rw [if_neg (by omega), if_neg (by omega), if_neg (by omega), if_neg (by omega), if_neg (by omega), if_neg (by omega), if_pos (by omega)]
theorem ex_mi' {V : Nat → Nat → Int32} {k p : Nat} (h : 22 ≤ k ∧ k ≤ 25) (h24 : k ≠ 24) (hp : p < 96) : exV V k p = V (k - 9) p := by
  unfold exV; rw [if_neg (by omega), if_neg (by omega), if_neg (by omega), if_neg (by omega), if_neg (by omega), if_neg (by omega), if_neg (by omega), if_pos (by omega)]
theorem ex_17 {V : Nat → Nat → Int32} {p : Nat} (hp : p < 7) : exV V 17 p = V 27 p ∧ exV V 27 p = V 17 p := by
  unfold exV
  constructor
  · rw [if_neg (by omega), if_neg (by omega), if_neg (by omega), if_neg (by omega), if_neg (by omega), if_neg (by omega), if_neg (by omega), if_neg (by omega), if_pos (by omega)]
  · rw [if_neg (by omega), if_neg (by omega), if_neg (by omega), if_neg (by omega), if_neg (by omega), if_neg (by omega), if_neg (by omega), if_neg (by omega), if_neg (by omega), if_pos (by omega)]
theorem ex_18 {V : Nat → Nat → Int32} {p : Nat} (hp : p < 140) : exV V 18 p = V 28 p ∧ exV V 28 p = V 18 p := by
  unfold exV
  constructor
  · rw [if_neg (by omega), if_neg (by omega), if_neg (by omega), if_neg (by omega), if_neg (by omega), if_neg (by omega), if_neg (by omega), if_neg (by omega), if_neg (by omega), if_neg (by omega), if_pos (by omega)]
  · rw [if_neg (by omega), if_neg (by omega), if_neg (by omega), if_neg (by omega), if_neg (by omega), if_neg (by omega), if_neg (by omega), if_neg (by omega), if_neg (by omega), if_neg (by omega), if_neg (by omega), if_pos (by omega)]
theorem sm_swap {S : St} {a1 a2 i : Nat} {P : St → Prop} (h1 : i < gw_ml a1) (h2 : i < gw_ml a2) (hi : i < 2 ^ 20) (hm1 : gw_ml a1 < 2 ^ 31) (hm2 : gw_ml a2 < 2 ^ 31) (h : P (stM (stM S (10 + a1) i (S.2.1 (10 + a2) i)) (10 + a2) i (S.2.1 (10 + a1) i))) : wp_X11_swap S a1 a2 (nI i) P := by
  have j1 : vp_in (nI i) (gw_ml a1) := pk_in i _ h1 rfl hm1
  have j2 : vp_in (nI i) (gw_ml a2) := pk_in i _ h2 rfl hm2
  refine ⟨j1, fun x4 e4 => ⟨j2, j1, fun S5 e5 => ⟨j2, fun S6 e6 => ?_⟩⟩⟩
  rw [nI_clamp (by omega)] at e4 e5 e6
  rw [e6, e5, e4]; exact h
/-- one more pair of places is exchanged -/
theorem ex_step {D D' : Nat → Nat → Prop} {S S1 : St} {k1 k2 i : Nat} {v1 v2 : Int32} (h : exI D S S1) (hne : k1 ≠ k2) (n1 : ¬ D k1 i) (n2 : ¬ D k2 i) (e1 : v1 = exV S.2.1 k1 i) (e2 : v2 = exV S.2.1 k2 i) (hD : ∀ k p, D' k p ↔ D k p ∨ (p = i ∧ (k = k1 ∨ k = k2))) : exI D' S (stM (stM S1 k1 i v1) k2 i v2) := by
  refine ⟨⟨h.1.1, h.1.2.1, fun k p hn => ?_⟩, fun k p hd => ?_⟩
  · have : ¬ (D k p ∨ (p = i ∧ (k = k1 ∨ k = k2))) := fun z => hn ((hD k p).mpr z)
    rw [stM_get, if_neg (by omega), stM_get, if_neg (by omega)]
    exact h.1.2.2 k p (fun z => this (Or.inl z))
  · rw [stM_get]
    split
    · rename_i z; rw [z.1, z.2]; exact e2
    · rename_i z
      rw [stM_get]
      split
      · rename_i y; rw [y.1, y.2]; exact e1
      · rename_i y
        rcases (hD k p).mp hd with w | w
        · exact h.2 k p w
        · omega
def Dp (D : Nat → Nat → Prop) (k1 k2 i k p : Nat) : Prop := D k p ∨ (p = i ∧ (k = k1 ∨ k = k2))
theorem exI.of {D D' : Nat → Nat → Prop} {S S1 : St} (h : exI D S S1) (hD : ∀ k p, D' k p ↔ D k p) : exI D' S S1 := ⟨h.1.mono (fun k p z => (hD k p).mpr z), fun k p z => h.2 k p ((hD k p).mp z)⟩
theorem sm_exchange {S : St} {P : St → Prop} (h : ∀ S2, exI (D4 140) S S2 → P S2) : wp_X11_exchange S P := by
  intro X20 X70 X141 X158 X167 X193 x20 x70 x141 x158 x167 x193 x62 e62 S63 e63 S64 e64
  have l193 : ∀ S', exI (D3 7) S S' → X193 S' 0 := by
    intro S' h'
    have := up_loop2 (X := X193) (fun i S' => exI (D4 i) S S') (N := 140) (fun S' h' => x193 _ _ ⟨fun _ => h S' h', fun z => absurd (by decide) z⟩) (fun i S' hi h' hx => x193 _ _ ⟨fun z => absurd z (nI_ge (b := 140) hi (by omega)), fun _ => ?_⟩) 0 S' (by omega) (h'.of (fun k p => ⟨fun z => z.elim id (fun w => by omega), Or.inl⟩))
    · exact this
    · refine sm_swap (show i < 140 by omega) (show i < 140 by omega) (by omega) (by decide) (by decide) (fun x61 e61 => ?_)
      rw [e61, nI_1]
      refine hx _ (ex_step (k1 := 18) (k2 := 28) h' (by omega) (by unfold D4 D3 D2 D1; omega) (by unfold D4 D3 D2 D1; omega) ?_ ?_ (fun k p => by unfold D4 D3 D2 D1; omega))
      · rw [(ex_18 (by omega)).1]; exact h'.1.2.2 28 i (by unfold D4 D3 D2 D1; omega)
      · rw [(ex_18 (by omega)).2]; exact h'.1.2.2 18 i (by unfold D4 D3 D2 D1; omega)
  have l167 : ∀ S', exI (D2 96) S S' → X167 S' 0 := by
    intro S' h'
    have := up_loop2 (X := X167) (fun i S' => exI (D3 i) S S') (N := 7) (fun S' h' => x167 _ _ ⟨fun _ => l193 S' h', fun z => absurd (by decide) z⟩) (fun i S' hi h' hx => x167 _ _ ⟨fun z => absurd z (nI_ge (b := 7) hi (by omega)), fun _ => ?_⟩) 0 S' (by omega) (h'.of (fun k p => ⟨fun z => z.elim id (fun w => by omega), Or.inl⟩))
    · exact this
    · refine sm_swap (show i < 7 by omega) (show i < 7 by omega) (by omega) (by decide) (by decide) (fun x61 e61 => ?_)
      rw [e61, nI_1]
      refine hx _ (ex_step (k1 := 17) (k2 := 27) h' (by omega) (by unfold D3 D2 D1; omega) (by unfold D3 D2 D1; omega) ?_ ?_ (fun k p => by unfold D3 D2 D1; omega))
      · rw [(ex_17 (by omega)).1]; exact h'.1.2.2 27 i (by unfold D3 D2 D1; omega)
      · rw [(ex_17 (by omega)).2]; exact h'.1.2.2 17 i (by unfold D3 D2 D1; omega)
  have l70 : ∀ S', exI (D1 6) S S' → X70 S' 0 := by
    intro S' h'
    have := up_loop2 (X := X70) (fun i S' => exI (D2 i) S S') (N := 96) (fun S' h' => x70 _ _ ⟨fun _ => l167 S' h', fun z => absurd (by decide) z⟩) (fun i S' hi h' hx => x70 _ _ ⟨fun z => absurd z (nI_ge (b := 96) hi (by omega)), fun _ => ?_⟩) 0 S' (by omega) (h'.of (fun k p => ⟨fun z => z.elim id (fun w => by omega), Or.inl⟩))
    · exact this
    · have i5 : vp_in (nI i) (gw_ml 5) := pk_in i _ (show i < 96 from hi) rfl (by decide)
      have i14 : vp_in (nI i) (gw_ml 14) := pk_in i _ (show i < 96 from hi) rfl (by decide)
      refine sm_swap (show i < 96 by omega) (show i < 96 by omega) (by omega) (by decide) (by decide) ?_
      have s1 : exI (Dp (D2 i) 13 22 i) S (stM (stM S' (10 + 3) i (S'.2.1 (10 + 12) i)) (10 + 12) i (S'.2.1 (10 + 3) i)) := ex_step (k1 := 13) (k2 := 22) h' (by omega) (by unfold D2 D1; omega) (by unfold D2 D1; omega) (by rw [ex_mi (by omega) (by omega) hi]; exact h'.1.2.2 22 i (by unfold D2 D1; omega)) (by rw [ex_mi' (by omega) (by omega) hi]; exact h'.1.2.2 13 i (by unfold D2 D1; omega)) (fun k p => Iff.rfl)
      generalize stM (stM S' (10 + 3) i (S'.2.1 (10 + 12) i)) (10 + 12) i (S'.2.1 (10 + 3) i) = S42 at *
      refine sm_swap (show i < 96 by omega) (show i < 96 by omega) (by omega) (by decide) (by decide) ?_
      have s2 : exI (Dp (Dp (D2 i) 13 22 i) 14 23 i) S (stM (stM S42 (10 + 4) i (S42.2.1 (10 + 13) i)) (10 + 13) i (S42.2.1 (10 + 4) i)) := ex_step (k1 := 14) (k2 := 23) s1 (by omega) (by unfold Dp D2 D1; omega) (by unfold Dp D2 D1; omega) (by rw [ex_mi (by omega) (by omega) hi]; exact s1.1.2.2 23 i (by unfold Dp D2 D1; omega)) (by rw [ex_mi' (by omega) (by omega) hi]; exact s1.1.2.2 14 i (by unfold Dp D2 D1; omega)) (fun k p => Iff.rfl)
      generalize stM (stM S42 (10 + 4) i (S42.2.1 (10 + 13) i)) (10 + 13) i (S42.2.1 (10 + 4) i) = S44 at *
      refine sm_swap (show i < 96 by omega) (show i < 96 by omega) (by omega) (by decide) (by decide) ?_
      have s3 : exI (Dp (Dp (Dp (D2 i) 13 22 i) 14 23 i) 16 25 i) S (stM (stM S44 (10 + 6) i (S44.2.1 (10 + 15) i)) (10 + 15) i (S44.2.1 (10 + 6) i)) := ex_step (k1 := 16) (k2 := 25) s2 (by omega) (by unfold Dp D2 D1; omega) (by unfold Dp D2 D1; omega) (by rw [ex_mi (by omega) (by omega) hi]; exact s2.1.2.2 25 i (by unfold Dp D2 D1; omega)) (by rw [ex_mi' (by omega) (by omega) hi]; exact s2.1.2.2 16 i (by unfold Dp D2 D1; omega)) (fun k p => Iff.rfl)
      generalize stM (stM S44 (10 + 6) i (S44.2.1 (10 + 15) i)) (10 + 15) i (S44.2.1 (10 + 6) i) = S46 at *
      have o15 : S46.2.1 15 i = S.2.1 15 i := s3.1.2.2 15 i (by unfold Dp D2 D1; omega)
      have o24 : S46.2.1 24 i = S.2.1 24 i := s3.1.2.2 24 i (by unfold Dp D2 D1; omega)
      refine ⟨i5, fun x48 e48 => ⟨i14, ?_⟩⟩
      rw [nI_clamp (by omega), o15] at e48
      rw [nI_clamp (by omega), o24]
      have fin : ∀ s0 s1, (s0 = 0 ∨ s0 = 1) → s0 = exV S.2.1 15 i → s1 = exV S.2.1 24 i → ∀ S50, S50 = stM S46 15 i s0 → X158 S50 (nI i) s1 (nI i) := by
        intro s0 s1 _ e0 e1 S50 e50
        refine x158 _ _ _ _ ⟨i14, fun S52 e52 x53 e53 => ?_⟩
        rw [nI_clamp (by omega)] at e52
        rw [e53, nI_1, e52, e50]
        refine hx _ ((ex_step (k1 := 15) (k2 := 24) s3 (by omega) (by unfold Dp D2 D1; omega) (by unfold Dp D2 D1; omega) e0 e1 (fun k p => Iff.rfl) : exI (Dp (Dp (Dp (Dp (D2 i) 13 22 i) 14 23 i) 16 25 i) 15 24 i) S _).of (fun k p => by unfold Dp D2 D1; omega))
      have k141 : ∀ s0, (s0 = 0 ∨ s0 = 1) → s0 = exV S.2.1 15 i → X141 S46 (nI i) x48 s0 (nI i) := by
        intro s0 h01 e0
        refine x141 _ _ _ _ _ ⟨i5, h01, fun S50 e50 => ?_⟩
        rw [nI_clamp (by omega)] at e50
        rw [e48]
        exact ⟨fun z => fin s0 128 h01 e0 (by rw [ex_24 hi, if_pos z]) S50 e50, fun z => fin s0 0 h01 e0 (by rw [ex_24 hi, if_neg z]) S50 e50⟩
      exact ⟨fun z => k141 0 (Or.inl rfl) (by rw [ex_15 hi, if_pos z]), fun z => k141 1 (Or.inr rfl) (by rw [ex_15 hi, if_neg z])⟩
  have l20 : ∀ S', exI (D1 0) S S' → X20 S' 0 := by
    intro S' h'
    have := up_loop2 (X := X20) (fun i S' => exI (D1 i) S S') (N := 6) (fun S' h' => x20 _ _ ⟨fun _ => l70 S' h', fun z => absurd (by decide) z⟩) (fun i S' hi h' hx => x20 _ _ ⟨fun z => absurd z (nI_ge (b := 6) hi (by omega)), fun _ => ?_⟩) 0 S' (by omega) h'
    · exact this
    · refine sm_swap (show i < 6 by omega) (show i < 6 by omega) (by omega) (by decide) (by decide) ?_
      have s1 : exI (Dp (D1 i) 10 19 i) S (stM (stM S' (10 + 0) i (S'.2.1 (10 + 9) i)) (10 + 9) i (S'.2.1 (10 + 0) i)) := ex_step (k1 := 10) (k2 := 19) h' (by omega) (by unfold D1; omega) (by unfold D1; omega) (by rw [ex_lo (by omega) hi]; exact h'.1.2.2 19 i (by unfold D1; omega)) (by rw [ex_lo' (by omega) hi]; exact h'.1.2.2 10 i (by unfold D1; omega)) (fun k p => Iff.rfl)
      generalize stM (stM S' (10 + 0) i (S'.2.1 (10 + 9) i)) (10 + 9) i (S'.2.1 (10 + 0) i) = S34 at *
      refine sm_swap (show i < 6 by omega) (show i < 6 by omega) (by omega) (by decide) (by decide) ?_
      have s2 : exI (Dp (Dp (D1 i) 10 19 i) 11 20 i) S (stM (stM S34 (10 + 1) i (S34.2.1 (10 + 10) i)) (10 + 10) i (S34.2.1 (10 + 1) i)) := ex_step (k1 := 11) (k2 := 20) s1 (by omega) (by unfold Dp D1; omega) (by unfold Dp D1; omega) (by rw [ex_lo (by omega) hi]; exact s1.1.2.2 20 i (by unfold Dp D1; omega)) (by rw [ex_lo' (by omega) hi]; exact s1.1.2.2 11 i (by unfold Dp D1; omega)) (fun k p => Iff.rfl)
      generalize stM (stM S34 (10 + 1) i (S34.2.1 (10 + 10) i)) (10 + 10) i (S34.2.1 (10 + 1) i) = S36 at *
      refine sm_swap (show i < 6 by omega) (show i < 6 by omega) (by omega) (by decide) (by decide) ?_
      have s3 : exI (Dp (Dp (Dp (D1 i) 10 19 i) 11 20 i) 12 21 i) S (stM (stM S36 (10 + 2) i (S36.2.1 (10 + 11) i)) (10 + 11) i (S36.2.1 (10 + 2) i)) := ex_step (k1 := 12) (k2 := 21) s2 (by omega) (by unfold Dp D1; omega) (by unfold Dp D1; omega) (by rw [ex_lo (by omega) hi]; exact s2.1.2.2 21 i (by unfold Dp D1; omega)) (by rw [ex_lo' (by omega) hi]; exact s2.1.2.2 12 i (by unfold Dp D1; omega)) (fun k p => Iff.rfl)
      intro x40 e40
      rw [e40, nI_1]
      exact hx _ (s3.of (fun k p => by unfold Dp D1; omega))
  refine l20 S64 ⟨⟨by rw [e64, e63]; rfl, by rw [e64, e63]; rfl, fun k p hn => ?_⟩, fun k p hd => ?_⟩
  · unfold D1 at hn
    rw [e64, stM_get, if_neg (by omega), e63, stM_get, if_neg (by omega)]
  · unfold D1 at hd
    rw [e64, e63, e62, stM_get]
    split
    · rename_i z; rw [z.1, z.2]; unfold exV; rw [if_neg (by omega), if_pos (by omega)]
    · rw [stM_get, if_pos (by omega)]
      rw [show k = 9 by omega, show p = 1 by omega]
      unfold exV; rw [if_pos (by omega)]
/-! the lengths as said -/
theorem tabL0 (F : Fo) : tabL F 0 = T0 F.1 := by unfold tabL; rw [if_pos rfl]
theorem tabL1 (F : Fo) : tabL F 1 = T1 F.1 F.1.length := by unfold tabL; rw [if_neg (by omega), if_pos rfl]
theorem sm_asLong {S : St} {F : Fo} {hs : Hs} {P : Int32 → St → Prop} (hm : mF S F) (hk : okF F) (hcl : ∀ (g : Nat) (G : Gl), F.1[g]? = some G → closed G) (hh : mH S hs) (hok : okH hs)
    (h1 : (∀ t, t < 2 → inH hs t = 1 → (tabL F t).length = plH hs t) → ∀ S2, fr (kL 31 5) S S2 → P 1 S2) (h0 : ¬ (∀ t, t < 2 → inH hs t = 1 → (tabL F t).length = plH hs t) → ∀ S2, fr (kL 31 5) S S2 → P 0 S2) : wp_X11_asLong S P := by
  intro X4 X44 X45 X46 x4 x44 x45 x46
  have pl := fun t => plI_lt (hs := hs) (fun t => by have := hok.2 t; omega) (t := t)
  have key : ∀ m t v S', t + m = 2 → fr (kL 31 5) S S' → (v = 1 ↔ ∀ u, u < t → inH hs u = 1 → (tabL F u).length = plH hs u) → v ≤ 1 → X4 S' (nI v) (nI t) := by
    intro m
    induction m with
    | zero =>
      intro t v S' ht f hv hv1
      have : t = 2 := by omega
      subst this
      refine x4 _ _ _ ⟨fun _ => ⟨nI01 hv1, ?_⟩, fun z => absurd (by decide) z⟩
      by_cases q : v = 1
      · rw [q]; exact h1 (hv.mp q) S' f
      · rw [show v = 0 by omega]; exact h0 (fun z => q (hv.mpr z)) S' f
    | succ m ih =>
      intro t v S' ht f hv hv1
      have i22 : vp_in (nI t) (gw_ml 22) := pk_in t _ (show t < 7 by omega) rfl (by decide)
      have ct : (nI t).toNatClampNeg = t := nI_clamp (by omega)
      have m32 : ∀ {S''}, fr (kL 31 5) S S'' → S''.2.1 32 t = plI hs t := fun f => by rw [f.2.2 32 t (by unfold kL; omega)]; exact (hh t (by omega)).1
      refine x4 _ _ _ ⟨fun z => absurd z (nI_ge (b := 2) (by omega) (by omega)), fun _ => ⟨i22, ?_⟩⟩
      rw [ct, m32 f]
      have nx : ∀ w S'', fr (kL 31 5) S S'' → (w = 1 ↔ ∀ u, u < t + 1 → inH hs u = 1 → (tabL F u).length = plH hs u) → w ≤ 1 → X46 S'' (nI w) (nI t) := fun w S'' f'' hw hw1 => x46 _ _ _ (fun x e => by rw [e, nI_1]; exact ih (t + 1) w S'' (by omega) f'' hw hw1)
      refine ⟨fun z => nx v S' f ?_ hv1, fun z => ?_⟩
      · have q := (pl t).1.mp z
        rw [hv]
        constructor
        · intro y u hu hin
          by_cases hut : u = t
          · subst hut; omega
          · exact y u (by omega) hin
        · intro y u hu hin; exact y u (by omega) hin
      · have q : inH hs t = 1 := by
          have := inH_le hs t
          have : ¬ inH hs t = 0 := fun y => z ((pl t).1.mpr y)
          omega
        refine sm_layTable (hm.keepL f (by omega) (by omega)) hk hcl (by omega) (fun S10 f10 h10 => ?_)
        have fS := f.trans f10
        have tl := tabL_516 hk (t := t) (by omega)
        have pb := hok.2 t
        have no : (¬ v = 1 ∨ ¬ (tabL F t).length = plH hs t) → X44 S10 (nI t) := fun w => x44 _ _ (x45 _ _ _ (nx 0 S10 fS ⟨fun y => by omega, fun y => ?_⟩ (by omega)))
        · refine pk_eq v 0 (fun w => no (Or.inl (by omega))) (fun w => ⟨i22, ?_⟩) rfl (by rfl) (by omega)
          rw [h10.1, m32 fS, (pl t).2 q]
          refine And.symm (pk_eq (tabL F t).length (plH hs t) (fun y => x45 _ _ _ (nx 1 S10 fS ⟨fun _ u hu hin => ?_, fun _ => rfl⟩ (by omega))) (fun y => no (Or.inr y)) rfl)
          by_cases hut : u = t
          · subst hut; exact y
          · exact hv.mp (by omega) u (by omega) hin
        · rcases w with w | w
          · exact absurd (hv.mpr (fun u hu hin => y u (by omega) hin)) w
          · exact absurd (y t (by omega) q) w
  exact key 2 0 1 S (by omega) (fr.refl S) ⟨fun _ u hu => by omega, fun _ => rfl⟩ (by omega)
/-! the reference reads -/
theorem ex_at {S S2 : St} (h : exI (D4 140) S S2) {k p : Nat} (hd : D4 140 k p) : S2.2.1 k p = exV S.2.1 k p := h.2 k p hd
theorem exI_mF {S S2 : St} {F : Fo} (h : exI (D4 140) S S2) (hn : nF S F) (hk : okF F) : mF S2 F := by
  have h6 := hk.1
  have dd : ∀ k p, ((k = 9 ∧ (p = 1 ∨ p = 2)) ∨ (10 ≤ k ∧ k ≤ 12 ∧ p < 6) ∨ (13 ≤ k ∧ k ≤ 16 ∧ p < 96) ∨ (k = 17 ∧ p < 7) ∨ (k = 18 ∧ p < 140)) → D4 140 k p := fun k p z => by unfold D4 D3 D2 D1; omega
  refine ⟨?_, fun g G e => ?_, fun t ht => ?_⟩
  · rw [ex_at h (dd 9 1 (by omega))]
    unfold exV; rw [if_pos (by omega)]; exact hn.1
  · have hg := (List.getElem?_eq_some_iff.mp e).1
    obtain ⟨a1, ⟨b1, ⟨b2, b3⟩, b4⟩⟩ := hn.2.1 g G e
    have k2 := (hk.2.1 g G e).1.2.1
    refine ⟨by rw [ex_at h (dd 10 g (by omega)), ex_lo (by omega) (by omega)]; exact a1, by rw [ex_at h (dd 11 g (by omega)), ex_lo (by omega) (by omega)]; exact b1, by rw [ex_at h (dd 12 g (by omega)), ex_lo (by omega) (by omega)]; exact b2, fun p hp => ?_⟩
    obtain ⟨c1, c2, c3⟩ := b4 p hp
    refine ⟨by rw [ex_at h (dd 13 _ (by omega)), ex_mi (by omega) (by omega) (by omega)]; exact c1, by rw [ex_at h (dd 14 _ (by omega)), ex_mi (by omega) (by omega) (by omega)]; exact c2, by rw [ex_at h (dd 15 _ (by omega)), ex_15 (by omega)]; exact c3, by rw [ex_at h (dd 16 _ (by omega)), ex_mi (by omega) (by omega) (by omega)]; exact b3 p hp⟩
  · have l20 := (hk.2.2.2.2 t ht).1
    obtain ⟨a1, a2⟩ := hn.2.2 t ht
    refine ⟨by rw [ex_at h (dd 17 t (by omega)), (ex_17 ht).1]; exact a1, fun k hkk => ?_⟩
    rw [ex_at h (dd 18 _ (by omega)), (ex_18 (by omega)).1]; exact a2 k hkk
/-- exchanged twice: as it was -/
theorem exI_back {S S2 S3 S4 : St} {F : Fo} (h : exI (D4 140) S S2) (f : fr (kL 31 5) S2 S3) (h' : exI (D4 140) S3 S4) (hm : mF S F) (hk : okF F) : mF S4 F := by
  have h6 := hk.1
  have dd : ∀ k p, ((k = 9 ∧ (p = 1 ∨ p = 2)) ∨ (10 ≤ k ∧ k ≤ 12 ∧ p < 6) ∨ (13 ≤ k ∧ k ≤ 16 ∧ p < 96) ∨ (k = 17 ∧ p < 7) ∨ (k = 18 ∧ p < 140) ∨ (19 ≤ k ∧ k ≤ 21 ∧ p < 6) ∨ (22 ≤ k ∧ k ≤ 25 ∧ p < 96) ∨ (k = 27 ∧ p < 7) ∨ (k = 28 ∧ p < 140)) → D4 140 k p := fun k p z => by unfold D4 D3 D2 D1; omega
  have o : ∀ k p, k ≠ 31 → ¬ (k = 9 ∧ p = 5) → S3.2.1 k p = S2.2.1 k p := fun k p a b => f.2.2 k p (by unfold kL; omega)
  refine ⟨?_, fun g G e => ?_, fun t ht => ?_⟩
  · rw [ex_at h' (dd 9 1 (by omega))]
    unfold exV
    rw [if_pos (by omega), o 9 2 (by omega) (by omega), ex_at h (dd 9 2 (by omega))]
    unfold exV
    rw [if_neg (by omega), if_pos (by omega)]; exact hm.1
  · have hg := (List.getElem?_eq_some_iff.mp e).1
    obtain ⟨a1, a2, a3, a4⟩ := hm.2.1 g G e
    have kG := hk.2.1 g G e
    have k2 := kG.1.2.1
    have lo : ∀ k, 10 ≤ k ∧ k ≤ 12 → S4.2.1 k g = S.2.1 k g := fun k hk => by
      rw [ex_at h' (dd k g (by omega)), ex_lo hk (by omega), o _ _ (by omega) (by omega), ex_at h (dd (k + 9) g (by omega)), ex_lo' (by omega) (by omega)]
      rfl
    have mi : ∀ k p, 13 ≤ k ∧ k ≤ 16 → k ≠ 15 → p < 96 → S4.2.1 k p = S.2.1 k p := fun k p hk h15 hp => by
      rw [ex_at h' (dd k p (by omega)), ex_mi hk h15 hp, o _ _ (by omega) (by omega), ex_at h (dd (k + 9) p (by omega)), ex_mi' (by omega) (by omega) hp]
      rfl
    refine ⟨by rw [lo 10 (by omega)]; exact a1, by rw [lo 11 (by omega)]; exact a2, by rw [lo 12 (by omega)]; exact a3, fun p hp => ?_⟩
    obtain ⟨c1, c2, c3, c4⟩ := a4 p hp
    refine ⟨by rw [mi 13 _ (by omega) (by omega) (by omega)]; exact c1, by rw [mi 14 _ (by omega) (by omega) (by omega)]; exact c2, ?_, by rw [mi 16 _ (by omega) (by omega) (by omega)]; exact c4⟩
    rw [ex_at h' (dd 15 _ (by omega)), ex_15 (by omega), o _ _ (by omega) (by omega), ex_at h (dd 24 _ (by omega)), ex_24 (by omega), c3]
    rcases on01 kG p with w | w
    · rw [w]; decide
    · rw [w]; decide
  · have l20 := (hk.2.2.2.2 t ht).1
    obtain ⟨a1, a2⟩ := hm.2.2 t ht
    refine ⟨?_, fun k hkk => ?_⟩
    · rw [ex_at h' (dd 17 t (by omega)), (ex_17 ht).1, o _ _ (by omega) (by omega), ex_at h (dd 27 t (by omega)), (ex_17 ht).2]; exact a1
    · rw [ex_at h' (dd 18 _ (by omega)), (ex_18 (by omega)).1, o _ _ (by omega) (by omega), ex_at h (dd 28 _ (by omega)), (ex_18 (by omega)).2]; exact a2 k hkk
/-- all that reading may change of the reference but the font and the buffer -/
def kX (k p : Nat) : Prop := (10 ≤ k ∧ k ≤ 33 ∧ k ≠ 29) ∨ (k = 9 ∧ p ≠ 3)
theorem sm_readStages {S : St} {A : Ab} {P : Int32 → St → Prop} (hok : okA A) (hm : MA S A) (hP : ∀ S2, fr kX S S2 → mB S2 A.2.1 → mF S2 (if (rd A.2.1).1 = 0 then (rd A.2.1).2 else A.1) → P (nI (rd A.2.1).1) S2) : wp_X11_readStages S P := by
  obtain ⟨hmF, hmB, _⟩ := hm
  obtain ⟨hkF, hB⟩ := hok
  have hb := hB.2
  intro S18 e18
  have f18 : fr kX S S18 := by rw [e18]; exact fr_m (fr.refl S) (by unfold kX; omega)
  have keepB : ∀ {S'}, fr kX S S' → mB S' A.2.1 := fun f => ⟨by rw [f.2.2 9 3 (by unfold kX; omega)]; exact hmB.1, fun k hk => by rw [f.2.2 29 k (by unfold kX; omega)]; exact hmB.2 k hk⟩
  have frH : ∀ {S' S''}, fr kH S' S'' → fr kX S' S'' := fun h => h.mono (fun k p z => by unfold kH at z; unfold kX; omega)
  have frE : ∀ {S' S''}, fr kE S' S'' → fr kX S' S'' := fun h => h.mono (fun k p z => by unfold kE at z; unfold kX; omega)
  have frT : ∀ {S' S''}, fr kT S' S'' → fr kX S' S'' := fun h => h.mono (fun k p z => by unfold kT at z; unfold kX; omega)
  have fail : ∀ (s : Nat) S', rd A.2.1 = (s, F0e) → s ≠ 0 → fr kX S S' → mF S' A.1 → P (nI s) S' := fun s S' e hs f m => by
    have := hP S' f (keepB f) (by rw [e, if_neg hs]; exact m)
    rw [e] at this; exact this
  have mF18 : mF S18 A.1 := hmF.keep (K := fun k p => k = 9 ∧ p = 11) (by rw [e18]; exact fr_m (fr.refl S) ⟨rfl, rfl⟩) (fun k p a b z => by omega) (by omega)
  refine sm_head (keepB f18) hB (by rw [e18]; exact stM_self) (fun p z hs S19 hh f19 u19 mh19 => ⟨fun _ => ?_, fun w => absurd u19.b w⟩) (fun v S19 hh f19 b19 => ⟨fun w => by rw [b19] at w; exact absurd w (by decide), fun _ => fail 1 S19 (by unfold rd; rw [hh]) (by omega) (f18.trans (frH f19)) (mF18.keep f19 (fun k p a b z => by unfold kH at z; omega) (by unfold kH; omega))⟩)
  obtain ⟨d1, d2, d3, d4, d5⟩ := hd_ok hb hh
  have mF19 : mF S19 A.1 := mF18.keep f19 (fun k p a b z => by unfold kH at z; omega) (by unfold kH; omega)
  refine sm_expand u19 hB d1 d2 (fun L S22 he f22 hL22 z22 => ⟨fun _ => ?_, fun w => absurd z22 w⟩) (fun S22 he f22 b22 => ⟨fun w => by rw [b22] at w; exact absurd w (by decide), fun _ => fail 2 S22 (by unfold rd; rw [hh]; simp only; rw [he]) (by omega) ((f18.trans (frH f19)).trans (frE f22)) (mF19.keep f22 (fun k p a b z => by unfold kE at z; omega) (by unfold kE; omega))⟩)
  obtain ⟨hLl, hLb⟩ := ex_ok he d1
  have mF22 : mF S22 A.1 := mF19.keep f22 (fun k p a b z => by unfold kE at z; omega) (by unfold kE; omega)
  have mh22 : mH S22 hs := mh19.keep f22 (fun k q z => by unfold kE at z; omega)
  have fx22 := (f18.trans (frH f19)).trans (frE f22)
  have erd : rd A.2.1 = match rdG L hs with | none => (3, F0e) | some gs => if (T0 gs).length = plH hs 0 ∧ (T1 gs gs.length).length = plH hs 1 then (0, rdT L hs gs) else (4, F0e) := by unfold rd; rw [hh]; simp only; rw [he]; rfl
  refine sm_takeTables z22 mh22 hL22.2 hLb (by omega) (by omega) d4 d5 (fun gs S25 hg f25 z25 n25 => ⟨fun _ => ?_, fun w => absurd z25 w⟩) (fun S25 hg f25 b25 => ⟨fun w => by rw [b25] at w; exact absurd w (by decide), fun _ => fail 3 S25 (by rw [erd, hg]) (by omega) (fx22.trans (frT f25)) (mF22.keep f25 (fun k p a b z => by unfold kT at z; omega) (by unfold kT; omega))⟩)
  obtain ⟨ok, hcl⟩ := rdT_ok hLb d4 hg
  obtain ⟨q1, q2, q3, q4⟩ := rdG_b hLb hg
  have mF25 : mF S25 A.1 := mF22.keep f25 (fun k p a b z => by unfold kT at z; omega) (by unfold kT; omega)
  have mh25 : mH S25 hs := mh22.keep f25 (fun k q z => by unfold kT at z; omega)
  have fx25 := fx22.trans (frT f25)
  rw [hg] at erd
  simp only at erd
  have frD : ∀ {S' S''}, exI (D4 140) S' S'' → fr kX S' S'' := fun h => h.1.mono (fun k p z => by unfold D4 D3 D2 D1 at z; unfold kX; omega)
  refine sm_exchange (fun S28 x28 => ?_)
  have mF28 : mF S28 (rdT L hs gs) := exI_mF x28 n25 ok
  have mh28 : mH S28 hs := fun t ht => by
    rw [x28.1.2.2 32 t (by unfold D4 D3 D2 D1; omega), x28.1.2.2 33 t (by unfold D4 D3 D2 D1; omega)]; exact mh25 t ht
  have frL : ∀ {S' S''}, fr (kL 31 5) S' S'' → fr kX S' S'' := fun h => h.mono (fun k p z => by unfold kL at z; unfold kX; omega)
  have p0 : ∀ t, t < 2 → inH hs t = 0 → (tabL (rdT L hs gs) t).length = plH hs t := by
    intro t ht h0
    have hg0 : gs = [] := q3 (by
      rcases Nat.eq_zero_or_pos t with w | w
      · subst w; exact h0
      · have w1 : t = 1 := by omega
        subst w1; rw [d5]; exact h0)
    have pl0 : plH hs t = 0 := by
      unfold inH at h0
      unfold plH
      cases hx : hs t with
      | none => rfl
      | some x => rw [hx] at h0; simp at h0
    rw [pl0]
    rcases Nat.eq_zero_or_pos t with w | w
    · rw [w, tabL0]; show (T0 gs).length = 0; rw [hg0]; rfl
    · rw [show t = 1 by omega, tabL1]; show (T1 gs gs.length).length = 0; rw [hg0]; rfl
  have iff1 : (∀ t, t < 2 → inH hs t = 1 → (tabL (rdT L hs gs) t).length = plH hs t) ↔ ((T0 gs).length = plH hs 0 ∧ (T1 gs gs.length).length = plH hs 1) := by
    constructor
    · intro w
      have a : ∀ t, t < 2 → (tabL (rdT L hs gs) t).length = plH hs t := fun t ht => by
        rcases Nat.eq_zero_or_pos (inH hs t) with v | v
        · exact p0 t ht v
        · exact w t ht (by have := inH_le hs t; omega)
      exact ⟨by have := a 0 (by omega); rw [tabL0] at this; exact this, by have := a 1 (by omega); rw [tabL1] at this; exact this⟩
    · intro w t ht _
      rcases Nat.eq_zero_or_pos t with v | v
      · rw [v, tabL0]; exact w.1
      · rw [show t = 1 by omega, tabL1]; exact w.2
  refine sm_asLong mF28 ok hcl mh28 d4 (fun w S30 f30 => ⟨fun y => absurd y (by decide), fun _ => ?_⟩) (fun w S30 f30 => ⟨fun _ => sm_exchange (fun S33 x33 => ?_), fun y => absurd rfl y⟩)
  · rw [if_pos (iff1.mp w)] at erd
    have fx := (fx25.trans (frD x28)).trans (frL f30)
    have := hP S30 fx (keepB fx) (by rw [erd, if_pos rfl]; exact mF28.keepL f30 (by omega) (by omega))
    rw [erd] at this; exact this
  · rw [if_neg (fun v => w (iff1.mpr v))] at erd
    exact fail 4 S33 erd (by omega) (((fx25.trans (frD x28)).trans (frL f30)).trans (frD x33)) (exI_back x28 f30 x33 mF25 hkF)
