/-! THE PURE PART. What the class's state and the reference's state stand for: one font, one buffer, one stage. -/
theorem lit32 (n : Nat) : (OfNat.ofNat n : Int32) = nI (OfNat.ofNat n) := rfl
theorem stM_get {S : St} {k p k' p' : Nat} {v : Int32} : (stM S k p v).2.1 k' p' = if k' = k ∧ p' = p then v else S.2.1 k' p' := by
  unfold stM va_up
  by_cases h : k' = k
  · subst h; by_cases h2 : p' = p <;> simp [h2]
  · simp [h]
theorem stM_k {S : St} {k p k' p' : Nat} {v : Int32} (h : k' ≠ k) : (stM S k p v).2.1 k' p' = S.2.1 k' p' := by rw [stM_get, if_neg (fun z => h z.1)]
theorem stM_p {S : St} {k p k' p' : Nat} {v : Int32} (h : p' ≠ p) : (stM S k p v).2.1 k' p' = S.2.1 k' p' := by rw [stM_get, if_neg (fun z => h z.2)]
theorem stM_2 {S : St} {k p : Nat} {v : Int32} : (stM S k p v).2.2 = S.2.2 := rfl
theorem stO_1 {S : St} {v : Int64} : (stO S v).1 = S.1 := rfl
theorem stO_2 {S : St} {v : Int64} : (stO S v).2.1 = S.2.1 := rfl
theorem stX_get {S : St} {r q : Nat} {a : List Int32} : (stX S r a).1 q = if q = r then a else S.1 q := rfl
theorem stX_21 {S : St} {r : Nat} {a : List Int32} : (stX S r a).2 = S.2 := rfl
/-- the class's steps leave the reference's numbers -/
def cFr (S S2 : St) : Prop := ∀ k p, 9 ≤ k → k < 1000 → S2.2.1 k p = S.2.1 k p
/-- the reference's steps leave all else -/
def mFr (S S2 : St) : Prop := S2.1 = S.1 ∧ S2.2.2 = S.2.2 ∧ ∀ k p, (k < 9 ∨ 1000 ≤ k) → S2.2.1 k p = S.2.1 k p
theorem cFr.refl (S : St) : cFr S S := fun _ _ _ _ => rfl
theorem cFr.trans {S S1 S2 : St} (h : cFr S S1) (h2 : cFr S1 S2) : cFr S S2 := fun k p a b => (h2 k p a b).trans (h k p a b)
theorem mFr.refl (S : St) : mFr S S := ⟨rfl, rfl, fun _ _ _ => rfl⟩
theorem mFr.trans {S S1 S2 : St} (h : mFr S S1) (h2 : mFr S1 S2) : mFr S S2 := ⟨h2.1.trans h.1, h2.2.1.trans h.2.1, fun k p a => (h2.2.2 k p a).trans (h.2.2 k p a)⟩
theorem mfM {S S1 : St} {k p : Nat} {v : Int32} (h : mFr S S1) (h9 : 9 ≤ k) (h1 : k < 1000) : mFr S (stM S1 k p v) := ⟨h.1, h.2.1, fun k' p' a => by rw [stM_k (by omega)]; exact h.2.2 k' p' a⟩
theorem cfM {S S1 : St} {k p : Nat} {v : Int32} (h : cFr S S1) (h9 : k < 9 ∨ 1000 ≤ k) : cFr S (stM S1 k p v) := fun k' p' a b => by rw [stM_k (by omega)]; exact h k' p' a b
theorem cfX {S S1 : St} {r : Nat} {a : List Int32} (h : cFr S S1) : cFr S (stX S1 r a) := h
theorem cfO {S S1 : St} {v : Int64} (h : cFr S S1) : cFr S (stO S1 v) := h
/-- a glyph: advance, the contours' sizes, x, y, on -/
abbrev Gl : Type := Int32 × List Nat × List Int32 × List Int32 × List Int32
/-- a font: glyphs, and the bytes of each table -/
abbrev Fo : Type := List Gl × (Nat → List Int32)
abbrev Ab : Type := Fo × List Int32 × Int32
def byt (x : Int32) : Prop := ∃ n, n < 256 ∧ x = nI n
def inR (x : Int32) : Prop := -4000 ≤ x.toInt ∧ x.toInt ≤ 4000
/-- contour by contour, its number as often as it has points -/
def expC : Nat → List Nat → List Nat
  | _, [] => []
  | c, s :: t => List.replicate s c ++ expC (c + 1) t
theorem expC_len : ∀ (sz : List Nat) (c : Nat), (expC c sz).length = sz.sum
  | [], _ => rfl
  | s :: t, c => by simp [expC, expC_len t]
theorem expC_app : ∀ (a : List Nat) (s c : Nat), expC c (a ++ [s]) = expC c a ++ List.replicate s (c + a.length)
  | [], s, c => by simp [expC]
  | x :: t, s, c => by
    simp only [List.cons_append, expC, expC_app t s (c + 1), List.append_assoc, List.length_cons]
    rw [show c + 1 + t.length = c + (t.length + 1) by omega]
theorem expC_lt : ∀ (sz : List Nat) (c v : Nat), v ∈ expC c sz → c ≤ v ∧ v < c + sz.length
  | [], _, _, h => by simp [expC] at h
  | s :: t, c, v, h => by
    simp only [expC, List.mem_append, List.mem_replicate] at h
    rcases h with ⟨_, rfl⟩ | h
    · simp
    · have := expC_lt t (c + 1) v h
      simp only [List.length_cons]
      omega
def okG (G : Gl) : Prop := (G.2.1.length ≤ 4 ∧ G.2.1.sum ≤ 16 ∧ G.2.2.1.length = G.2.1.sum ∧ G.2.2.2.1.length = G.2.1.sum ∧ G.2.2.2.2.length = G.2.1.sum) ∧ (∀ x ∈ G.2.2.1, inR x) ∧ (∀ x ∈ G.2.2.2.1, inR x) ∧ (∀ x ∈ G.2.2.2.2, x = 0 ∨ x = 1) ∧ (∃ a, a ≤ 2000 ∧ G.1 = nI a) ∧ ∀ s ∈ G.2.1.dropLast, 1 ≤ s
def closed (G : Gl) : Prop := ∀ s ∈ G.2.1, 1 ≤ s
def openG (G : Gl) : Prop := G.2.1.getLast? = some 0
def openF (F : Fo) : Prop := ∃ G, F.1.getLast? = some G ∧ openG G
theorem closed_of {G : Gl} (h : okG G) (ho : ¬ openG G) : closed G := by
  intro s hs
  have h6 := h.2.2.2.2.2
  rcases List.eq_nil_or_concat G.2.1 with h0 | ⟨a, b, h0⟩
  · rw [h0] at hs; exact absurd hs (by simp)
  · rw [h0] at hs h6
    unfold openG at ho
    rw [h0] at ho
    simp at hs ho h6
    rcases hs with hs | hs
    · exact h6 s hs
    · omega
def okF (F : Fo) : Prop := F.1.length ≤ 6 ∧ (∀ (g : Nat) (G : Gl), F.1[g]? = some G → okG G) ∧ (∀ (g : Nat) (G : Gl), F.1[g]? = some G → g + 1 < F.1.length → closed G) ∧ (∀ t, t < 2 → F.2 t = []) ∧ ∀ t, t < 7 → (F.2 t).length ≤ 20 ∧ ∀ b ∈ F.2 t, byt b
/-- the class's glyph number q -/
def cG (S : St) (q : Nat) (G : Gl) : Prop := S.2.1 0 q = G.1 ∧ S.1 (4 * q) = G.2.1.map nI ∧ S.1 (4 * q + 1) = G.2.2.1 ∧ S.1 (4 * q + 2) = G.2.2.2.1 ∧ S.1 (4 * q + 3) = G.2.2.2.2
/-- the reference's glyph g -/
def mG (S : St) (g : Nat) (G : Gl) : Prop := S.2.1 10 g = G.1 ∧ S.2.1 11 g = nI G.2.1.length ∧ S.2.1 12 g = nI G.2.1.sum ∧ ∀ p, p < G.2.1.sum → S.2.1 13 (16 * g + p) = G.2.2.1.getD p 0 ∧ S.2.1 14 (16 * g + p) = G.2.2.2.1.getD p 0 ∧ S.2.1 15 (16 * g + p) = G.2.2.2.2.getD p 0 ∧ S.2.1 16 (16 * g + p) = nI ((expC 0 G.2.1).getD p 0)
def cF (S : St) (j : Nat) (F : Fo) : Prop := S.2.1 1 j = nI F.1.length ∧ (∀ (g : Nat) (G : Gl), F.1[g]? = some G → cG S (6 * j + g) G) ∧ ∀ t, 2 ≤ t → t < 7 → S.1 (48 + 7 * j + t) = F.2 t
def mF (S : St) (F : Fo) : Prop := S.2.1 9 1 = nI F.1.length ∧ (∀ (g : Nat) (G : Gl), F.1[g]? = some G → mG S g G) ∧ ∀ t, t < 7 → S.2.1 17 t = nI (F.2 t).length ∧ ∀ k, k < (F.2 t).length → S.2.1 18 (20 * t + k) = (F.2 t).getD k 0
def mB (S : St) (B : List Int32) : Prop := S.2.1 9 3 = nI B.length ∧ ∀ k, k < B.length → S.2.1 29 k = B.getD k 0
def okB (B : List Int32) : Prop := B.length ≤ 1500 ∧ ∀ b ∈ B, byt b
def okA (A : Ab) : Prop := okF A.1 ∧ okB A.2.1
def CA (S : St) (A : Ab) : Prop := rowsLe S ∧ gw_sx S = 1 - gw_fx S ∧ cF S (gw_fx S) A.1 ∧ S.1 62 = A.2.1 ∧ S.2.1 3 0 = A.2.2
def MA (S : St) (A : Ab) : Prop := mF S A.1 ∧ mB S A.2.1 ∧ S.2.1 9 14 = A.2.2
theorem MA.cl {S S1 : St} {A : Ab} (h : MA S A) (hf : cFr S S1) : MA S1 A := by
  obtain ⟨⟨h1, h2, h3⟩, ⟨h4, h5⟩, h6⟩ := h
  refine ⟨⟨by rw [hf 9 1 (by omega) (by omega)]; exact h1, fun g G e => ?_, fun t ht => ?_⟩, ⟨by rw [hf 9 3 (by omega) (by omega)]; exact h4, fun k hk => by rw [hf 29 k (by omega) (by omega)]; exact h5 k hk⟩, by rw [hf 9 14 (by omega) (by omega)]; exact h6⟩
  · obtain ⟨a1, a2, a3, a4⟩ := h2 g G e
    refine ⟨by rw [hf 10 g (by omega) (by omega)]; exact a1, by rw [hf 11 g (by omega) (by omega)]; exact a2, by rw [hf 12 g (by omega) (by omega)]; exact a3, fun p hp => ?_⟩
    rw [hf 13 _ (by omega) (by omega), hf 14 _ (by omega) (by omega), hf 15 _ (by omega) (by omega), hf 16 _ (by omega) (by omega)]
    exact a4 p hp
  · rw [hf 17 t (by omega) (by omega)]
    refine ⟨(h3 t ht).1, fun k hk => ?_⟩
    rw [hf 18 _ (by omega) (by omega)]
    exact (h3 t ht).2 k hk
theorem fx_mo {S S1 : St} (h : mFr S S1) : gw_fx S1 = gw_fx S := by unfold gw_fx; rw [h.2.2 3 1 (by omega)]
theorem sx_mo {S S1 : St} (h : mFr S S1) : gw_sx S1 = gw_sx S := by unfold gw_sx; rw [h.2.2 3 2 (by omega)]
theorem cG.mo {S S1 : St} {q : Nat} {G : Gl} (h : cG S q G) (hf : mFr S S1) : cG S1 q G := by
  unfold cG; rw [hf.1, hf.2.2 0 q (by omega)]; exact h
theorem cF.mo {S S1 : St} {j : Nat} {F : Fo} (h : cF S j F) (hf : mFr S S1) : cF S1 j F := by
  refine ⟨by rw [hf.2.2 1 j (by omega)]; exact h.1, fun g G e => (h.2.1 g G e).mo hf, fun t a b => by rw [hf.1]; exact h.2.2 t a b⟩
theorem CA.mo {S S1 : St} {A : Ab} (h : CA S A) (hf : mFr S S1) : CA S1 A := by
  obtain ⟨h1, h2, h3, h4, h5⟩ := h
  refine ⟨fun r hr => by rw [hf.1]; exact h1 r hr, by rw [fx_mo hf, sx_mo hf]; exact h2, by rw [fx_mo hf]; exact h3.mo hf, by rw [hf.1]; exact h4, by rw [hf.2.2 3 0 (by omega)]; exact h5⟩
/-- what every call keeps -/
def Sim (S : St) : Prop := ∃ A, okA A ∧ CA S A ∧ MA S A
/-- the law's comparison goes well -/
theorem gd_ok {S2 : St} {k b : Int32} {A : Prop} (h1 : S2.2.1 9 0 = k) (h2 : k = 0 → S2.2.2.2 = b.toInt64) (h3 : A) : (((fv_X11_thrown S2) = k → ((¬ k = 0 → A) ∧ (k = 0 → (((lg_cmp S2.2.2.2 b.toInt64) = 0 → A) ∧ (¬ (lg_cmp S2.2.2.2 b.toInt64) = 0 → False))))) ∧ (¬ (fv_X11_thrown S2) = k → False)) := by
  refine ⟨fun _ => ⟨fun _ => h3, fun k0 => ⟨fun _ => h3, fun q => q ?_⟩⟩, fun q => q h1⟩
  rw [h2 k0]
  unfold lg_cmp
  rw [if_neg (fun z => Int64.lt_irrefl z), if_pos rfl]
/-! tables and glyphs by number -/
theorem ixc_nI {n i : Nat} (h : i < n) (hn : n < 2 ^ 31) : ixc n (nI i) = i := by
  unfold ixc
  rw [if_neg (nI_pos (by omega)), if_neg (nI_ge h hn), nI_clamp (by omega)]
theorem glId_nI {S : St} {j i : Nat} (h : i < 6) : glId S j (nI i) = 6 * j + i := by unfold glId; rw [ixc_nI h (by omega)]
theorem rwId_nI {S : St} {j i : Nat} (h : i < 7) : rwId S j (nI i) = 48 + 7 * j + i := by unfold rwId; rw [ixc_nI h (by omega)]
theorem lgId_nI {S : St} {j n : Nat} (h : S.2.1 1 j = nI (n + 1)) (hn : n < 6) : lgId S j = 6 * j + n := by
  unfold lgId; rw [h, nI_pred, glId_nI hn]
theorem rGet_nI {S : St} {r i : Nat} (h : i < 2 ^ 31) : rGet S r (nI i) = (S.1 r).getD i 0 := by
  unfold rGet; rw [if_neg (nI_pos h), nI_clamp h]
theorem rGet_m1 {S : St} {r : Nat} : rGet S r (-1) = 0 := by unfold rGet; rw [if_pos (by decide)]
theorem rLatest_app {S : St} {r : Nat} {a : List Int32} {x : Int32} (h : S.1 r = a ++ [x]) (hl : a.length < 2 ^ 31) : rLatest S r = x := by
  unfold rLatest
  rw [h, List.length_append, List.length_singleton, nI_pred, rGet_nI hl, h]
  simp
theorem fx_of {S S1 : St} (h : S1.2.1 3 1 = S.2.1 3 1) : gw_fx S1 = gw_fx S := by unfold gw_fx; rw [h]
theorem sx_of {S S1 : St} (h : S1.2.1 3 2 = S.2.1 3 2) : gw_sx S1 = gw_sx S := by unfold gw_sx; rw [h]
