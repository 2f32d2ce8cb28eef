/-! what the stream says of outlines -/
def sgd (a b : Nat) : Int32 := if b = 1 then nI a else -(nI a)
def rs (L : List Int32) (e w pd : Nat) : Option (Int32 × Int32 × Nat) :=
  if w < 10 then (if pd < e then some (0, sgd (w / 2 * 256 + vb L pd) (w % 2), pd + 1) else none)
  else if w < 20 then (if pd < e then some (sgd ((w - 10) / 2 * 256 + vb L pd) (w % 2), 0, pd + 1) else none)
  else if w < 84 then (if pd < e then some (sgd (1 + (w - 20) / 16 * 16 + vb L pd / 16) (w % 2), sgd (1 + (w - 20) / 4 % 4 * 16 + vb L pd % 16) (w / 2 % 2), pd + 1) else none)
  else if w < 120 then (if pd + 1 < e then some (sgd (1 + (w - 84) / 12 * 256 + vb L pd) (w % 2), sgd (1 + (w - 84) % 12 / 4 * 256 + vb L (pd + 1)) (w / 2 % 2), pd + 2) else none)
  else if w < 124 then (if pd + 2 < e then some (sgd (vb L pd * 16 + vb L (pd + 1) / 16) (w % 2), sgd (vb L (pd + 1) % 16 * 256 + vb L (pd + 2)) (w / 2 % 2), pd + 3) else none)
  else (if pd + 3 < e then some (sgd (vb L pd * 256 + vb L (pd + 1)) (w % 2), sgd (vb L (pd + 2) * 256 + vb L (pd + 3)) (w / 2 % 2), pd + 4) else none)
theorem rs_b {L : List Int32} {e w pd pd' : Nat} {dx dy : Int32} (h : rs L e w pd = some (dx, dy, pd')) : pd < pd' ∧ pd' ≤ e := by
  unfold rs at h
  repeat' split at h
  all_goals first
    | (simp at h; done)
    | (simp at h; omega)
theorem nx_cases {S : St} {c r e p : Nat} {L : List Int32} (h : cu S c e p) (hr : S.1 r = L) (hb : ∀ b ∈ L, byt b) (he : e < 2 ^ 30) (hp : p ≤ e) : (p < e ∧ fv_X2_next S c r = nI (vb L p) ∧ cu (fs_X2_next S c r) c e (p + 1)) ∨ (e ≤ p ∧ br (fs_X2_next S c r) c) := by
  by_cases z : p < e
  · exact Or.inl ⟨z, nx_ok h hr hb z (by omega)⟩
  · exact Or.inr ⟨by omega, (nx_end h (by omega) (by omega)).2⟩
/-- a step leaves rows and all keys but the reader's own and the cursor's -/
def sF (d : Nat) (S S2 : St) : Prop := S2.1 = S.1 ∧ S2.2.2 = S.2.2 ∧ ∀ k p, k ≠ 1000 + d → k ≠ 2 → S2.2.1 k p = S.2.1 k p
theorem cf.sF {d : Nat} {S S2 : St} (h : cf d S S2) : sF d S S2 := ⟨h.1, h.2.1, fun k p a _ => h.2.2 k p a⟩
theorem sF.trans {d : Nat} {S S1 S2 : St} (h : sF d S S1) (h2 : sF d S1 S2) : sF d S S2 := ⟨h2.1.trans h.1, h2.2.1.trans h.2.1, fun k p a b => (h2.2.2 k p a b).trans (h.2.2 k p a b)⟩
theorem sF_2 {d : Nat} (S : St) (p : Nat) (v : Int32) : sF d S (stM S 2 p v) := ⟨rfl, rfl, fun k p' _ b => stM_k b⟩
theorem cu_2 {S : St} {d e p q : Nat} {v : Int32} (h : cu S d e p) : cu (stM S 2 q v) d e p := ⟨by rw [stM_k (by omega)]; exact h.1, by rw [stM_k (by omega)]; exact h.2.1, by rw [stM_k (by omega)]; exact h.2.2⟩
theorem br_2 {S : St} {d q : Nat} {v : Int32} (h : br S d) : br (stM S 2 q v) d := by unfold br; rw [stM_k (by omega)]; exact h
theorem signed_nI {S : St} {a b : Nat} (hb : b < 2 ^ 31) : fv_X5_signed S (nI a) (nI b) = sgd a b := by
  unfold fv_X5_signed fv_X5_signed_11 sgd
  by_cases z : b = 1
  · rw [if_pos (show nI b = 1 by rw [z]; rfl), if_pos z]
  · rw [if_neg (show ¬ nI b = 1 from fun y => z ((nI_lit (b := 1) (by omega) (by omega)).mp y)), if_neg z]
/-- after the step -/
def aft (S : St) (d e : Nat) (dx dy : Int32) (pd : Nat) : Prop := S.2.1 2 2 = dx ∧ S.2.1 2 3 = dy ∧ cu S d e pd
theorem ts_ok {S : St} {d e p a b w : Nat} {x y : Int32} (h : cu S d e p) (hx : x = nI a) (hy : y = nI b) (hw : w < 128) : aft (fs_X5_takeStep S x y (nI w)) d e (sgd a (w % 2)) (sgd b (w / 2 % 2)) p := by
  unfold fs_X5_takeStep
  rw [md2 (by omega), dv2 (by omega), md2 (by omega), hx, hy, signed_nI (by omega), signed_nI (by omega)]
  exact ⟨by rw [stM_p (by omega), stM_self], by rw [stM_self], cu_2 (cu_2 h)⟩
theorem ts_sF {S : St} {d : Nat} {x y w : Int32} : sF d S (fs_X5_takeStep S x y w) := (sF_2 S _ _).trans (sF_2 _ _ _)
theorem ts_br {S : St} {d : Nat} {x y w : Int32} (h : br S d) : br (fs_X5_takeStep S x y w) d := br_2 (br_2 h)
theorem mi {n k : Nat} (h : k ≤ n) : nI n - nI k = nI (n - k) := pk_sub h
theorem le_lit {k w : Nat} (hk : k < 2 ^ 31) (hw : w < 2 ^ 31) : nI k ≤ nI w ↔ k ≤ w := nI_leI hk hw
theorem rstep {S : St} {d e w pd : Nat} {L : List Int32} (h : cu S d e pd) (hr : S.1 65 = L) (hb : ∀ b ∈ L, byt b) (he : e < 2 ^ 30) (hp : pd ≤ e) (hw : w < 128) : sF d S (fs_X5_readStep S (nI w) d 65) ∧ (∀ dx dy pd', rs L e w pd = some (dx, dy, pd') → aft (fs_X5_readStep S (nI w) d 65) d e dx dy pd') ∧ (rs L e w pd = none → br (fs_X5_readStep S (nI w) d 65) d) := by
  have n1 := cf_next S d 65
  have n2 := n1.trans (cf_next (fs_X2_next S d 65) d 65)
  have n3 := n2.trans (cf_next (fs_X2_next (fs_X2_next S d 65) d 65) d 65)
  have n4 := n3.trans (cf_next (fs_X2_next (fs_X2_next (fs_X2_next S d 65) d 65) d 65) d 65)
  have c1 := nx_cases h hr hb he hp
  have lit : ∀ k : Nat, k < 2 ^ 31 → (nI k ≤ nI w ↔ k ≤ w) := fun k hk => le_lit hk (by omega)
  unfold fs_X5_readStep fs_X5_readStep_271
  unfold rs
  by_cases w10 : w < 10
  · rw [if_neg (show ¬ (10 : Int32) ≤ nI w from fun z => absurd ((lit 10 (by omega)).mp z) (by omega)), if_pos w10]
    have h' : cu (stM S 2 2 0) d e pd := cu_2 h
    have hr' : (stM S 2 2 0).1 65 = L := hr
    refine ⟨((sF_2 S 2 0).trans (cf_next _ d 65).sF).trans (sF_2 _ _ _), ?_⟩
    rcases nx_cases h' hr' hb he hp with ⟨q, q1, q2⟩ | ⟨q, q1⟩
    · rw [if_pos q]
      refine ⟨fun dx dy pd' hh => ?_, fun hh => by simp at hh⟩
      simp at hh
      obtain ⟨h1, h2, h3⟩ := hh
      have g22 : (fs_X2_next (stM S 2 2 0) d 65).2.1 2 2 = 0 := by rw [(cf_next _ d 65).2.2 2 2 (by omega), stM_self]
      refine ⟨by rw [stM_p (by omega), g22, ← h1], ?_, by rw [← h3]; exact cu_2 q2⟩
      rw [stM_self, q1, md2 (by omega), dv2 (by omega), ← h2]
      rw [show nI (w / 2) * 256 + nI (vb L pd) = nI (w / 2 * 256 + vb L pd) by simp only [lit32, pk_mul, nI_add]]
      exact signed_nI (by omega)
    · rw [if_neg (by omega)]
      exact ⟨fun dx dy pd' hh => by simp at hh, fun _ => br_2 q1⟩
  rw [if_pos (show (10 : Int32) ≤ nI w from (lit 10 (by omega)).mpr (by omega)), if_neg w10]
  by_cases w20 : w < 20
  · rw [if_neg (show ¬ (20 : Int32) ≤ nI w from fun z => absurd ((lit 20 (by omega)).mp z) (by omega)), if_pos w20]
    refine ⟨(n1.sF.trans (sF_2 _ _ _)).trans (sF_2 _ _ _), ?_⟩
    rcases c1 with ⟨q, q1, q2⟩ | ⟨q, q1⟩
    · rw [if_pos q]
      refine ⟨fun dx dy pd' hh => ?_, fun hh => by simp at hh⟩
      simp at hh
      obtain ⟨h1, h2, h3⟩ := hh
      refine ⟨?_, by rw [stM_self, ← h2], by rw [← h3]; exact cu_2 (cu_2 q2)⟩
      rw [stM_p (by omega), stM_self, q1, md2 (by omega), show nI w - 10 = nI (w - 10) from mi (k := 10) (by omega), dv2 (by omega), ← h1]
      rw [show nI ((w - 10) / 2) * 256 + nI (vb L pd) = nI ((w - 10) / 2 * 256 + vb L pd) by simp only [lit32, pk_mul, nI_add]]
      exact signed_nI (by omega)
    · rw [if_neg (by omega)]
      exact ⟨fun dx dy pd' hh => by simp at hh, fun _ => br_2 (br_2 q1)⟩
  rw [if_pos (show (20 : Int32) ≤ nI w from (lit 20 (by omega)).mpr (by omega)), if_neg w20]
  have v0 := vb_lt hb pd
  have v1 := vb_lt hb (pd + 1)
  have v2 := vb_lt hb (pd + 2)
  have v3 := vb_lt hb (pd + 3)
  by_cases w84 : w < 84
  · rw [if_neg (show ¬ (84 : Int32) ≤ nI w from fun z => absurd ((lit 84 (by omega)).mp z) (by omega)), if_pos w84]
    refine ⟨n1.sF.trans ts_sF, ?_⟩
    rcases c1 with ⟨q, q1, q2⟩ | ⟨q, q1⟩
    · rw [if_pos q]
      refine ⟨fun dx dy pd' hh => ?_, fun hh => by simp at hh⟩
      simp at hh
      obtain ⟨h1, h2, h3⟩ := hh
      rw [← h1, ← h2, ← h3]
      have m20 : nI w - 20 = nI (w - 20) := mi (k := 20) (by omega)
      refine ts_ok q2 ?_ ?_ hw
      · rw [q1, m20, dv16 (by omega), dv16 (by omega)]
        simp only [lit32, pk_mul, nI_add]
      · rw [q1, m20, md16 (by omega), show nI (w - 20) / 4 = nI ((w - 20) / 4) from pk_div (d := 4) (by omega) (by omega) (by omega), show nI ((w - 20) / 4) - nI ((w - 20) / 4) / 4 * 4 = nI ((w - 20) / 4 % 4) from pk_rem (d := 4) (by omega) (by omega) (by omega)]
        simp only [lit32, pk_mul, nI_add]
    · rw [if_neg (by omega)]
      exact ⟨fun dx dy pd' hh => by simp at hh, fun _ => ts_br q1⟩
  rw [if_pos (show (84 : Int32) ≤ nI w from (lit 84 (by omega)).mpr (by omega)), if_neg w84]
  have r1 : (fs_X2_next S d 65).1 65 = L := by rw [n1.1]; exact hr
  have r2 : (fs_X2_next (fs_X2_next S d 65) d 65).1 65 = L := by rw [n2.1]; exact hr
  have r3 : (fs_X2_next (fs_X2_next (fs_X2_next S d 65) d 65) d 65).1 65 = L := by rw [n3.1]; exact hr
  by_cases w120 : w < 120
  · rw [if_neg (show ¬ (120 : Int32) ≤ nI w from fun z => absurd ((lit 120 (by omega)).mp z) (by omega)), if_pos w120]
    refine ⟨n2.sF.trans ts_sF, ?_⟩
    rcases c1 with ⟨q, q1, q2⟩ | ⟨q, q1⟩
    · rcases nx_cases q2 r1 hb he (by omega) with ⟨z, z1, z2⟩ | ⟨z, z1⟩
      · rw [if_pos z]
        refine ⟨fun dx dy pd' hh => ?_, fun hh => by simp at hh⟩
        simp at hh
        obtain ⟨h1, h2, h3⟩ := hh
        rw [← h1, ← h2, ← h3]
        have m84 : nI w - 84 = nI (w - 84) := mi (k := 84) (by omega)
        refine ts_ok z2 ?_ ?_ hw
        · rw [q1, m84, show nI (w - 84) / 12 = nI ((w - 84) / 12) from pk_div (d := 12) (by omega) (by omega) (by omega)]
          simp only [lit32, pk_mul, nI_add]
        · rw [z1, m84, show nI (w - 84) - nI (w - 84) / 12 * 12 = nI ((w - 84) % 12) from pk_rem (d := 12) (by omega) (by omega) (by omega), show nI ((w - 84) % 12) / 4 = nI ((w - 84) % 12 / 4) from pk_div (d := 4) (by omega) (by omega) (by omega)]
          simp only [lit32, pk_mul, nI_add]
      · rw [if_neg (by omega)]
        exact ⟨fun dx dy pd' hh => by simp at hh, fun _ => ts_br z1⟩
    · rw [if_neg (by omega)]
      exact ⟨fun dx dy pd' hh => by simp at hh, fun _ => ts_br (nx_br q1).2⟩
  rw [if_pos (show (120 : Int32) ≤ nI w from (lit 120 (by omega)).mpr (by omega)), if_neg w120]
  by_cases w124 : w < 124
  · rw [if_neg (show ¬ (124 : Int32) ≤ nI w from fun z => absurd ((lit 124 (by omega)).mp z) (by omega)), if_pos w124]
    refine ⟨n3.sF.trans ts_sF, ?_⟩
    rcases c1 with ⟨q, q1, q2⟩ | ⟨q, q1⟩
    · rcases nx_cases q2 r1 hb he (by omega) with ⟨z, z1, z2⟩ | ⟨z, z1⟩
      · rcases nx_cases z2 r2 hb he (by omega) with ⟨y, y1, y2⟩ | ⟨y, y1⟩
        · rw [if_pos (by omega)]
          refine ⟨fun dx dy pd' hh => ?_, fun hh => by simp at hh⟩
          simp at hh
          obtain ⟨h1, h2, h3⟩ := hh
          rw [← h1, ← h2, ← h3]
          refine ts_ok y2 ?_ ?_ hw
          · rw [q1, z1, dv16 (by omega)]
            simp only [lit32, pk_mul, nI_add]
          · rw [z1, y1, md16 (by omega)]
            simp only [lit32, pk_mul, nI_add]
        · rw [if_neg (by omega)]
          exact ⟨fun dx dy pd' hh => by simp at hh, fun _ => ts_br y1⟩
      · rw [if_neg (by omega)]
        exact ⟨fun dx dy pd' hh => by simp at hh, fun _ => ts_br (nx_br z1).2⟩
    · rw [if_neg (by omega)]
      exact ⟨fun dx dy pd' hh => by simp at hh, fun _ => ts_br (nx_br (nx_br q1).2).2⟩
  rw [if_pos (show (124 : Int32) ≤ nI w from (lit 124 (by omega)).mpr (by omega)), if_neg w124]
  refine ⟨n4.sF.trans ts_sF, ?_⟩
  rcases c1 with ⟨q, q1, q2⟩ | ⟨q, q1⟩
  · rcases nx_cases q2 r1 hb he (by omega) with ⟨z, z1, z2⟩ | ⟨z, z1⟩
    · rcases nx_cases z2 r2 hb he (by omega) with ⟨y, y1, y2⟩ | ⟨y, y1⟩
      · rcases nx_cases y2 r3 hb he (by omega) with ⟨x, x1, x2⟩ | ⟨x, x1⟩
        · rw [if_pos (by omega)]
          refine ⟨fun dx dy pd' hh => ?_, fun hh => by simp at hh⟩
          simp at hh
          obtain ⟨h1, h2, h3⟩ := hh
          rw [← h1, ← h2, ← h3]
          refine ts_ok x2 ?_ ?_ hw
          · rw [q1, z1]
            simp only [lit32, pk_mul, nI_add]
          · rw [y1, x1]
            simp only [lit32, pk_mul, nI_add]
        · rw [if_neg (by omega)]
          exact ⟨fun dx dy pd' hh => by simp at hh, fun _ => ts_br x1⟩
      · rw [if_neg (by omega)]
        exact ⟨fun dx dy pd' hh => by simp at hh, fun _ => ts_br (nx_br y1).2⟩
    · rw [if_neg (by omega)]
      exact ⟨fun dx dy pd' hh => by simp at hh, fun _ => ts_br (nx_br (nx_br z1).2).2⟩
  · rw [if_neg (by omega)]
    exact ⟨fun dx dy pd' hh => by simp at hh, fun _ => ts_br (nx_br (nx_br (nx_br q1).2).2).2⟩
