/-! a step in the stream: its sign byte and what belongs to it -/
theorem dv256 {n : Nat} (h : n < 2 ^ 31) : nI n / 256 = nI (n / 256) := pk_div (d := 256) h (by omega) (by omega)
theorem dv128 {n : Nat} (h : n < 2 ^ 31) : nI n / 128 = nI (n / 128) := pk_div (d := 128) h (by omega) (by omega)
theorem dv16 {n : Nat} (h : n < 2 ^ 31) : nI n / 16 = nI (n / 16) := pk_div (d := 16) h (by omega) (by omega)
theorem dv2 {n : Nat} (h : n < 2 ^ 31) : nI n / 2 = nI (n / 2) := pk_div (d := 2) h (by omega) (by omega)
theorem md256 {n : Nat} (h : n < 2 ^ 31) : nI n - nI n / 256 * 256 = nI (n % 256) := pk_rem (d := 256) h (by omega) (by omega)
theorem md128 {n : Nat} (h : n < 2 ^ 31) : nI n - nI n / 128 * 128 = nI (n % 128) := pk_rem (d := 128) h (by omega) (by omega)
theorem md16 {n : Nat} (h : n < 2 ^ 31) : nI n - nI n / 16 * 16 = nI (n % 16) := pk_rem (d := 16) h (by omega) (by omega)
theorem md2 {n : Nat} (h : n < 2 ^ 31) : nI n - nI n / 2 * 2 = nI (n % 2) := pk_rem (d := 2) h (by omega) (by omega)
theorem mi1 {n : Nat} (h : 1 ≤ n) : nI n - 1 = nI (n - 1) := pk_sub h
def sg (a b s t : Nat) : Nat := if a = 0 ∧ b < 1280 then b / 256 * 2 + t else if b = 0 ∧ a < 1280 then 10 + a / 256 * 2 + s else if 0 < a ∧ 0 < b ∧ a < 65 ∧ b < 65 then 20 + (a - 1) / 16 * 16 + (b - 1) / 16 * 4 + s + 2 * t else if 0 < a ∧ 0 < b ∧ a < 769 ∧ b < 769 then 84 + (a - 1) / 256 * 12 + (b - 1) / 256 * 4 + s + 2 * t else if a < 4096 ∧ b < 4096 then 120 + s + 2 * t else 124 + s + 2 * t
def dt (a b : Nat) : List Int32 := if a = 0 ∧ b < 1280 then [nI (b % 256)] else if b = 0 ∧ a < 1280 then [nI (a % 256)] else if 0 < a ∧ 0 < b ∧ a < 65 ∧ b < 65 then [nI ((a - 1) % 16 * 16 + (b - 1) % 16)] else if 0 < a ∧ 0 < b ∧ a < 769 ∧ b < 769 then [nI ((a - 1) % 256), nI ((b - 1) % 256)] else if a < 4096 ∧ b < 4096 then [nI (a / 16), nI (a % 16 * 16 + b / 256), nI (b % 256)] else [nI (a / 256), nI (a % 256), nI (b / 256), nI (b % 256)]
def sgn (x : Int32) : Nat := if 0 ≤ x then 1 else 0
theorem sgn_le (x : Int32) : sgn x ≤ 1 := by unfold sgn; split <;> omega
theorem dt_len (a b : Nat) : (dt a b).length ≤ 4 := by
  unfold dt; repeat' split
  all_goals simp
theorem sg_c1 {a b s t : Nat} (h1 : a = 0) (h2 : b < 1280) : sg a b s t = b / 256 * 2 + t ∧ dt a b = [nI (b % 256)] := by unfold sg dt; rw [if_pos (show a = 0 ∧ b < 1280 from ⟨h1, h2⟩), if_pos (show a = 0 ∧ b < 1280 from ⟨h1, h2⟩)]; exact ⟨rfl, rfl⟩
theorem sg_c2 {a b s t : Nat} (h : ¬ (a = 0 ∧ b < 1280)) (h1 : b = 0) (h2 : a < 1280) : sg a b s t = 10 + a / 256 * 2 + s ∧ dt a b = [nI (a % 256)] := by unfold sg dt; rw [if_neg h, if_neg h, if_pos (show b = 0 ∧ a < 1280 from ⟨h1, h2⟩), if_pos (show b = 0 ∧ a < 1280 from ⟨h1, h2⟩)]; exact ⟨rfl, rfl⟩
theorem sg_c3 {a b s t : Nat} (h1 : 0 < a) (h2 : 0 < b) (h3 : a < 65) (h4 : b < 65) : sg a b s t = 20 + (a - 1) / 16 * 16 + (b - 1) / 16 * 4 + s + 2 * t ∧ dt a b = [nI ((a - 1) % 16 * 16 + (b - 1) % 16)] := by
  unfold sg dt
  rw [if_neg (show ¬ (a = 0 ∧ b < 1280) by omega), if_neg (show ¬ (a = 0 ∧ b < 1280) by omega), if_neg (show ¬ (b = 0 ∧ a < 1280) by omega), if_neg (show ¬ (b = 0 ∧ a < 1280) by omega), if_pos (show 0 < a ∧ 0 < b ∧ a < 65 ∧ b < 65 from ⟨h1, h2, h3, h4⟩), if_pos (show 0 < a ∧ 0 < b ∧ a < 65 ∧ b < 65 from ⟨h1, h2, h3, h4⟩)]; exact ⟨rfl, rfl⟩
theorem sg_c4 {a b s t : Nat} (h : ¬ (0 < a ∧ 0 < b ∧ a < 65 ∧ b < 65)) (h1 : 0 < a) (h2 : 0 < b) (h3 : a < 769) (h4 : b < 769) : sg a b s t = 84 + (a - 1) / 256 * 12 + (b - 1) / 256 * 4 + s + 2 * t ∧ dt a b = [nI ((a - 1) % 256), nI ((b - 1) % 256)] := by
  unfold sg dt
  rw [if_neg (show ¬ (a = 0 ∧ b < 1280) by omega), if_neg (show ¬ (a = 0 ∧ b < 1280) by omega), if_neg (show ¬ (b = 0 ∧ a < 1280) by omega), if_neg (show ¬ (b = 0 ∧ a < 1280) by omega), if_neg h, if_neg h, if_pos (show 0 < a ∧ 0 < b ∧ a < 769 ∧ b < 769 from ⟨h1, h2, h3, h4⟩), if_pos (show 0 < a ∧ 0 < b ∧ a < 769 ∧ b < 769 from ⟨h1, h2, h3, h4⟩)]; exact ⟨rfl, rfl⟩
theorem sg_c5 {a b s t : Nat} (h : ¬ (a = 0 ∧ b < 1280)) (h' : ¬ (b = 0 ∧ a < 1280)) (h'' : ¬ (0 < a ∧ 0 < b ∧ a < 769 ∧ b < 769)) (h3 : a < 4096) (h4 : b < 4096) : sg a b s t = 120 + s + 2 * t ∧ dt a b = [nI (a / 16), nI (a % 16 * 16 + b / 256), nI (b % 256)] := by
  unfold sg dt
  rw [if_neg h, if_neg h, if_neg h', if_neg h', if_neg (show ¬ (0 < a ∧ 0 < b ∧ a < 65 ∧ b < 65) by omega), if_neg (show ¬ (0 < a ∧ 0 < b ∧ a < 65 ∧ b < 65) by omega), if_neg h'', if_neg h'', if_pos (show a < 4096 ∧ b < 4096 from ⟨h3, h4⟩), if_pos (show a < 4096 ∧ b < 4096 from ⟨h3, h4⟩)]; exact ⟨rfl, rfl⟩
theorem sg_c6 {a b s t : Nat} (h : ¬ (a < 4096 ∧ b < 4096)) : sg a b s t = 124 + s + 2 * t ∧ dt a b = [nI (a / 256), nI (a % 256), nI (b / 256), nI (b % 256)] := by
  unfold sg dt
  rw [if_neg (show ¬ (a = 0 ∧ b < 1280) by omega), if_neg (show ¬ (a = 0 ∧ b < 1280) by omega), if_neg (show ¬ (b = 0 ∧ a < 1280) by omega), if_neg (show ¬ (b = 0 ∧ a < 1280) by omega), if_neg (show ¬ (0 < a ∧ 0 < b ∧ a < 65 ∧ b < 65) by omega), if_neg (show ¬ (0 < a ∧ 0 < b ∧ a < 65 ∧ b < 65) by omega), if_neg (show ¬ (0 < a ∧ 0 < b ∧ a < 769 ∧ b < 769) by omega), if_neg (show ¬ (0 < a ∧ 0 < b ∧ a < 769 ∧ b < 769) by omega), if_neg h, if_neg h]; exact ⟨rfl, rfl⟩
theorem sg_le {a b s t : Nat} (hs : s ≤ 1) (ht : t ≤ 1) : sg a b s t ≤ 127 := by
  unfold sg
  split
  · omega
  · split
    · omega
    · split
      · omega
      · split
        · omega
        · split <;> omega
theorem numB_two {n : Nat} (h : n < 65536) : numB (nI n).toInt64 2 = [nI (n / 256), nI (n % 256)] := by
  rw [two_bytes, pk_shrN (by omega) _ 8 (by decide), pk_andN (by omega) 8 (by decide), pk_andN (by omega) 8 (by decide)]
  rw [show n / 2 ^ 8 % 2 ^ 8 = n / 256 by omega]
theorem sp_xStep {S : St} {x y : Int32} {o r : Nat} {P : St → Prop} (hx : inS x) (hy : inS y) (h : P (rApp (rApp S r [nI (o + sg x.toInt.natAbs y.toInt.natAbs (sgn x) (sgn y))]) 63 (dt x.toInt.natAbs y.toInt.natAbs))) : wp_X9_addStep S x y (nI o) r P := by
  have ha : x.toInt.natAbs ≤ 8000 := by unfold inS at hx; omega
  have hb : y.toInt.natAbs ≤ 8000 := by unfold inS at hy; omega
  unfold wp_X9_addStep
  rw [abC, abC, ab_nI hx, ab_nI hy]
  generalize x.toInt.natAbs = a at *
  generalize y.toInt.natAbs = b at *
  intro x66 e66 x67 e67
  rw [e66, e67]
  clear e66 e67
  have k403 : ∀ s t : Nat, ¬ (a < 4096 ∧ b < 4096) → P (rApp (rApp S r [nI (o + sg a b s t)]) 63 (dt a b)) → wp_X9_addStep_403 x y (nI o) r S (nI a) (nI b) (nI s) (nI t) P := by
    intro s t hn h S35 e35
    obtain ⟨g1, g2⟩ := sg_c6 (s := s) (t := t) hn
    refine ⟨by unfold nnB; decide, fun S36 e36 => ⟨by unfold nnB; decide, fun S37 e37 => ?_⟩⟩
    show P S37
    rw [e37, e36, e35]
    unfold rNum rAdd
    rw [show (2 : Int32).toNatClampNeg = 2 from rfl, rApp_app, numB_two (by omega), numB_two (by omega)]
    rw [g1, g2] at h
    simp only [lit32, pk_mul, nI_add]
    rw [show o + 124 + s + 2 * t = o + (124 + s + 2 * t) by omega]
    exact h
  have k320 : ∀ s t : Nat, ¬ (a = 0 ∧ b < 1280) → ¬ (b = 0 ∧ a < 1280) → ¬ (0 < a ∧ 0 < b ∧ a < 769 ∧ b < 769) → P (rApp (rApp S r [nI (o + sg a b s t)]) 63 (dt a b)) → wp_X9_addStep_320 x y (nI o) r S (nI a) (nI b) (nI s) (nI t) P := by
    intro s t h1 h2 h3 h
    unfold wp_X9_addStep_320
    refine pk_le 4096 a (fun z => k403 s t (by omega) h) (fun z => pk_le 4096 b (fun z2 => k403 s t (by omega) h) (fun z2 => ?_) rfl) rfl
    intro S40 e40 S41 e41 S42 e42 S43 e43
    obtain ⟨g1, g2⟩ := sg_c5 (s := s) (t := t) h1 h2 h3 z z2
    show P S43
    rw [e43, e42, e41, e40]
    unfold rAdd
    rw [rApp_app, rApp_app, md256 (by omega), md16 (by omega), dv16 (by omega), dv256 (by omega)]
    rw [g1, g2] at h
    simp only [lit32, pk_mul, nI_add]
    rw [show o + 120 + s + 2 * t = o + (120 + s + 2 * t) by omega]
    exact h
  have k221 : ∀ s t : Nat, ¬ (a = 0 ∧ b < 1280) → ¬ (b = 0 ∧ a < 1280) → ¬ (0 < a ∧ 0 < b ∧ a < 65 ∧ b < 65) → P (rApp (rApp S r [nI (o + sg a b s t)]) 63 (dt a b)) → wp_X9_addStep_221 x y (nI o) r S (nI a) (nI b) (nI s) (nI t) P := by
    intro s t h1 h2 h3 h
    unfold wp_X9_addStep_221
    refine pk_le a 0 (fun z => k320 s t h1 h2 (by omega) h) (fun z => pk_le b 0 (fun z2 => k320 s t h1 h2 (by omega) h) (fun z2 => pk_le 769 a (fun z3 => k320 s t h1 h2 (by omega) h) (fun z3 => pk_le 769 b (fun z4 => k320 s t h1 h2 (by omega) h) (fun z4 => ?_) rfl) rfl) rfl) rfl
    intro S48 e48 S49 e49 S50 e50
    obtain ⟨g1, g2⟩ := sg_c4 (s := s) (t := t) h3 z z2 z3 z4
    show P S50
    rw [e50, e49, e48]
    unfold rAdd
    rw [rApp_app, mi1 (by omega), mi1 (by omega), md256 (by omega), md256 (by omega), dv256 (by omega), dv256 (by omega)]
    rw [g1, g2] at h
    simp only [lit32, pk_mul, nI_add]
    rw [show o + 84 + (a - 1) / 256 * 12 + (b - 1) / 256 * 4 + s + 2 * t = o + (84 + (a - 1) / 256 * 12 + (b - 1) / 256 * 4 + s + 2 * t) by omega]
    exact h
  have k131 : ∀ s t : Nat, ¬ (a = 0 ∧ b < 1280) → ¬ (b = 0 ∧ a < 1280) → P (rApp (rApp S r [nI (o + sg a b s t)]) 63 (dt a b)) → wp_X9_addStep_131 x y (nI o) r S (nI a) (nI b) (nI s) (nI t) P := by
    intro s t h1 h2 h
    unfold wp_X9_addStep_131
    refine pk_le a 0 (fun z => k221 s t h1 h2 (by omega) h) (fun z => pk_le b 0 (fun z2 => k221 s t h1 h2 (by omega) h) (fun z2 => pk_le 65 a (fun z3 => k221 s t h1 h2 (by omega) h) (fun z3 => pk_le 65 b (fun z4 => k221 s t h1 h2 (by omega) h) (fun z4 => ?_) rfl) rfl) rfl) rfl
    intro S55 e55 S56 e56
    obtain ⟨g1, g2⟩ := sg_c3 (s := s) (t := t) z z2 z3 z4
    show P S56
    rw [e56, e55]
    unfold rAdd
    rw [mi1 (by omega), mi1 (by omega), md16 (by omega), md16 (by omega), dv16 (by omega), dv16 (by omega)]
    rw [g1, g2] at h
    simp only [lit32, pk_mul, nI_add]
    rw [show o + 20 + (a - 1) / 16 * 16 + (b - 1) / 16 * 4 + s + 2 * t = o + (20 + (a - 1) / 16 * 16 + (b - 1) / 16 * 4 + s + 2 * t) by omega]
    exact h
  have k81 : ∀ s t : Nat, ¬ (a = 0 ∧ b < 1280) → P (rApp (rApp S r [nI (o + sg a b s t)]) 63 (dt a b)) → wp_X9_addStep_81 x y (nI o) r S (nI a) (nI b) (nI s) (nI t) P := by
    intro s t h1 h
    unfold wp_X9_addStep_81
    refine And.symm (pk_eq b 0 (fun z => pk_le 1280 a (fun z2 => k131 s t h1 (by omega) h) (fun z2 => ?_) rfl) (fun z => k131 s t h1 (by omega) h) rfl)
    intro S59 e59 S60 e60
    obtain ⟨g1, g2⟩ := sg_c2 (s := s) (t := t) h1 z z2
    show P S60
    rw [e60, e59]
    unfold rAdd
    rw [md256 (by omega), dv256 (by omega)]
    rw [g1, g2] at h
    simp only [lit32, pk_mul, nI_add]
    rw [show o + 10 + a / 256 * 2 + s = o + (10 + a / 256 * 2 + s) by omega]
    exact h
  have k32 : ∀ s t : Nat, P (rApp (rApp S r [nI (o + sg a b s t)]) 63 (dt a b)) → wp_X9_addStep_32 x y (nI o) r S (nI a) (nI b) (nI s) (nI t) P := by
    intro s t h
    unfold wp_X9_addStep_32
    refine And.symm (pk_eq a 0 (fun z => pk_le 1280 b (fun z2 => k81 s t (by omega) h) (fun z2 => ?_) rfl) (fun z => k81 s t (by omega) h) rfl)
    intro S59 e59 S60 e60
    obtain ⟨g1, g2⟩ := sg_c1 (s := s) (t := t) z z2
    show P S60
    rw [e60, e59]
    unfold rAdd
    rw [md256 (by omega), dv256 (by omega)]
    rw [g1, g2] at h
    simp only [lit32, pk_mul, nI_add]
    rw [show o + b / 256 * 2 + t = o + (b / 256 * 2 + t) by omega]
    exact h
  have k21 : ∀ s : Nat, s = sgn x → wp_X9_addStep_21 x y (nI o) r S (nI a) (nI b) (nI s) P := by
    intro s es
    unfold wp_X9_addStep_21
    refine ⟨fun z => k32 s 1 ?_, fun z => k32 s 0 ?_⟩
    · have : sgn y = 1 := by unfold sgn; rw [if_pos z]
      rw [← es, this] at h; exact h
    · have : sgn y = 0 := by unfold sgn; rw [if_neg z]
      rw [← es, this] at h; exact h
  refine ⟨fun z => k21 1 ?_, fun z => k21 0 ?_⟩
  · unfold sgn; rw [if_pos z]
  · unfold sgn; rw [if_neg z]
/-- of point p of a glyph -/
def sgG (G : Gl) (p : Nat) : Nat := sg (stp G.2.2.1 p).toInt.natAbs (stp G.2.2.2.1 p).toInt.natAbs (sgn (stp G.2.2.1 p)) (sgn (stp G.2.2.2.1 p))
def dtG (G : Gl) (p : Nat) : List Int32 := dt (stp G.2.2.1 p).toInt.natAbs (stp G.2.2.2.1 p).toInt.natAbs
theorem sgG_le (G : Gl) (p : Nat) : sgG G p ≤ 127 := sg_le (sgn_le _) (sgn_le _)
theorem lt0 {x : Int32} : x < 0 ↔ ¬ 0 ≤ x := by rw [Int32.not_le]
theorem sm_signOf {S : St} {g p : Nat} {G : Gl} {P : Int32 → St → Prop} (hm : mG S g G) (hk : okG G) (hg : g < 6) (hp : p < G.2.1.sum) (h : P (nI (sgG G p)) S) : wp_X11_signOf S (nI g) (nI p) P := by
  have hx := inS_stp hk.2.1 p
  have hy := inS_stp hk.2.2.1 p
  unfold wp_X11_signOf
  refine stepX_mo hm hk hg hp (stepY_mo hm hk hg hp ?_)
  unfold sgG at h
  generalize stp G.2.2.1 p = x at *
  generalize stp G.2.2.2.1 p = y at *
  have ha : x.toInt.natAbs ≤ 8000 := by unfold inS at hx; omega
  have hb : y.toInt.natAbs ≤ 8000 := by unfold inS at hy; omega
  rw [abM, abM, ab_nI hx, ab_nI hy]
  generalize x.toInt.natAbs = a at *
  generalize y.toInt.natAbs = b at *
  intro x66 e66 x67 e67
  rw [e66, e67]
  clear e66 e67
  have k250 : ∀ s t z : Nat, z + s + 2 * t = sg a b s t → P (nI (sg a b s t)) S → wp_X11_signOf_250 (nI g) (nI p) S (nI s) (nI t) (nI z) P := by
    intro s t z ez h
    unfold wp_X11_signOf_250
    rw [← ez] at h
    simp only [lit32, pk_mul, nI_add]
    exact h
  have k227 : ∀ s t : Nat, ¬ (a = 0 ∧ b < 1280) → ¬ (b = 0 ∧ a < 1280) → ¬ (0 < a ∧ 0 < b ∧ a < 769 ∧ b < 769) → P (nI (sg a b s t)) S → wp_X11_signOf_227 (nI g) (nI p) S (nI a) (nI b) (nI s) (nI t) P := by
    intro s t h1 h2 h3 h
    unfold wp_X11_signOf_227 wp_X11_signOf_248
    refine pk_le 4096 a (fun z => k250 s t 124 (sg_c6 (by omega)).1.symm h) (fun z => pk_le 4096 b (fun z2 => k250 s t 124 (sg_c6 (by omega)).1.symm h) (fun z2 => k250 s t 120 (sg_c5 h1 h2 h3 z z2).1.symm h) rfl) rfl
  have k172 : ∀ s t v : Nat, (v = 0 ↔ 0 < a ∧ 0 < b) → v ≤ 1 → ¬ (a = 0 ∧ b < 1280) → ¬ (b = 0 ∧ a < 1280) → ¬ (0 < a ∧ 0 < b ∧ a < 65 ∧ b < 65) → P (nI (sg a b s t)) S → wp_X11_signOf_172 (nI g) (nI p) S (nI a) (nI b) (nI s) (nI t) (nI v) P := by
    intro s t v hv hv1 h1 h2 h3 h
    unfold wp_X11_signOf_172
    refine And.symm (pk_eq v 0 (fun z => pk_le 769 a (fun z3 => k227 s t h1 h2 (by omega) h) (fun z3 => pk_le 769 b (fun z4 => k227 s t h1 h2 (by omega) h) (fun z4 => ?_) rfl) rfl) (fun z => k227 s t h1 h2 (by omega) h) rfl)
    have hab := hv.mp z
    rw [(sg_c4 h3 hab.1 hab.2 z3 z4).1] at h
    rw [mi1 (by omega), mi1 (by omega), dv256 (by omega), dv256 (by omega)]
    simp only [lit32, pk_mul, nI_add]
    exact h
  have k119 : ∀ s t v : Nat, (v = 0 ↔ 0 < a ∧ 0 < b) → v ≤ 1 → ¬ (a = 0 ∧ b < 1280) → ¬ (b = 0 ∧ a < 1280) → P (nI (sg a b s t)) S → wp_X11_signOf_119 (nI g) (nI p) S (nI a) (nI b) (nI s) (nI t) (nI v) P := by
    intro s t v hv hv1 h1 h2 h
    unfold wp_X11_signOf_119
    refine And.symm (pk_eq v 0 (fun z => pk_le 65 a (fun z3 => k172 s t v hv hv1 h1 h2 (by omega) h) (fun z3 => pk_le 65 b (fun z4 => k172 s t v hv hv1 h1 h2 (by omega) h) (fun z4 => ?_) rfl) rfl) (fun z => k172 s t v hv hv1 h1 h2 (by omega) h) rfl)
    have hab := hv.mp z
    rw [(sg_c3 hab.1 hab.2 z3 z4).1] at h
    rw [mi1 (by omega), mi1 (by omega), dv16 (by omega), dv16 (by omega)]
    simp only [lit32, pk_mul, nI_add]
    exact h
  have k104 : ∀ s t : Nat, ¬ (a = 0 ∧ b < 1280) → ¬ (b = 0 ∧ a < 1280) → P (nI (sg a b s t)) S → wp_X11_signOf_104 (nI g) (nI p) S (nI a) (nI b) (nI s) (nI t) P := by
    intro s t h1 h2 h
    unfold wp_X11_signOf_104 wp_X11_signOf_114
    refine pk_eq a 0 (fun z => k119 s t 1 (by omega) (by omega) h1 h2 h) (fun z => And.symm (pk_eq b 0 (fun z2 => k119 s t 1 (by omega) (by omega) h1 h2 h) (fun z2 => k119 s t 0 (by omega) (by omega) h1 h2 h) rfl)) rfl
  have k76 : ∀ s t : Nat, ¬ (a = 0 ∧ b < 1280) → P (nI (sg a b s t)) S → wp_X11_signOf_76 (nI g) (nI p) S (nI a) (nI b) (nI s) (nI t) P := by
    intro s t h1 h
    unfold wp_X11_signOf_76
    refine And.symm (pk_eq b 0 (fun z => pk_le 1280 a (fun z2 => k104 s t h1 (by omega) h) (fun z2 => ?_) rfl) (fun z => k104 s t h1 (by omega) h) rfl)
    rw [(sg_c2 h1 z z2).1] at h
    rw [dv256 (by omega)]
    simp only [lit32, pk_mul, nI_add]
    exact h
  have k49 : ∀ s t : Nat, P (nI (sg a b s t)) S → wp_X11_signOf_49 (nI g) (nI p) S (nI a) (nI b) (nI s) (nI t) P := by
    intro s t h
    unfold wp_X11_signOf_49
    refine And.symm (pk_eq a 0 (fun z => pk_le 1280 b (fun z2 => k76 s t (by omega) h) (fun z2 => ?_) rfl) (fun z => k76 s t (by omega) h) rfl)
    rw [(sg_c1 z z2).1] at h
    rw [dv256 (by omega)]
    simp only [lit32, pk_mul, nI_add]
    exact h
  have k37 : ∀ s : Nat, s = sgn x → wp_X11_signOf_37 (nI g) (nI p) S y (nI a) (nI b) (nI s) P := by
    intro s es
    unfold wp_X11_signOf_37
    refine ⟨fun z => k49 s 0 ?_, fun z => k49 s 1 ?_⟩
    · have : sgn y = 0 := by unfold sgn; rw [if_neg (lt0.mp z)]
      rw [← es, this] at h; exact h
    · have : sgn y = 1 := by unfold sgn; rw [if_pos (Classical.byContradiction fun q => z (lt0.mpr q))]
      rw [← es, this] at h; exact h
  refine ⟨fun z => k37 0 ?_, fun z => k37 1 ?_⟩
  · unfold sgn; rw [if_neg (lt0.mp z)]
  · unfold sgn; rw [if_pos (Classical.byContradiction fun q => z (lt0.mpr q))]
theorem sm_flow {S : St} {B : List Int32} {b : Int32} {P : St → Prop} (h : mL S 30 4 B) (hl : B.length < 1100) (hP : ∀ S2, fr (kL 30 4) S S2 → mL S2 30 4 (B ++ [b &&& 255]) → P S2) : wp_X11_flow S b P := by
  have hp := mL_push (b := b &&& 255) h (by omega) (by omega)
  refine ⟨pk_in B.length _ (show B.length < 1100 from hl) h.1 (by decide), fun S3 e3 S4 e4 => ?_⟩
  have : S4 = stM (stM S 30 (S.2.1 9 4).toNatClampNeg (b &&& 255)) 9 4 (S.2.1 9 4 + 1) := by rw [e4, e3, stM_k (k' := 9) (by omega)]
  rw [this]
  exact hP _ hp.2 hp.1
theorem andN {n : Nat} (h : n < 2 ^ 31) : nI n &&& 255 = nI (n % 256) := pk_andN (by omega) 8 (by decide)
theorem sm_flowN {S : St} {B : List Int32} {x : Int32} (n : Nat) {P : St → Prop} (hx : x = nI n) (hn : n < 2 ^ 31) (h : mL S 30 4 B) (hl : B.length < 1100) (hP : ∀ S2, fr (kL 30 4) S S2 → mL S2 30 4 (B ++ [nI (n % 256)]) → P S2) : wp_X11_flow S x P := by
  refine sm_flow h hl (fun S2 f2 h2 => hP S2 f2 ?_)
  rw [hx, andN hn] at h2
  exact h2
theorem sm_flowStep {S : St} {g p : Nat} {G : Gl} {B : List Int32} {P : St → Prop} (hm : mG S g G) (hk : okG G) (hg : g < 6) (hp : p < G.2.1.sum) (hB : mL S 30 4 B) (hl : B.length + 4 ≤ 1100) (hP : ∀ S2, fr (kL 30 4) S S2 → mL S2 30 4 (B ++ dtG G p) → P S2) : wp_X11_flowStep S (nI g) (nI p) P := by
  have hx := inS_stp hk.2.1 p
  have hy := inS_stp hk.2.2.1 p
  unfold wp_X11_flowStep
  refine sm_signOf hm hk hg hp (stepX_mo hm hk hg hp (fun x42 e42 => stepY_mo hm hk hg hp (fun x45 e45 => ?_)))
  unfold dtG at hP
  unfold sgG
  rw [abM] at e42 e45
  rw [ab_nI hx] at e42
  rw [ab_nI hy] at e45
  generalize stp G.2.2.1 p = x at *
  generalize stp G.2.2.2.1 p = y at *
  have ha : x.toInt.natAbs ≤ 8000 := by unfold inS at hx; omega
  have hb : y.toInt.natAbs ≤ 8000 := by unfold inS at hy; omega
  have hs := sgn_le x
  have ht := sgn_le y
  generalize x.toInt.natAbs = a at *
  generalize y.toInt.natAbs = b at *
  generalize sgn x = s at *
  generalize sgn y = t at *
  rw [e42, e45]
  unfold wp_X11_flowStep_49 wp_X11_flowStep_194
  by_cases c1 : a = 0 ∧ b < 1280
  · obtain ⟨g1, g2⟩ := sg_c1 (s := s) (t := t) c1.1 c1.2
    rw [g2] at hP
    refine pk_le 20 (sg a b s t) (fun z => by omega) (fun z => pk_le 10 (sg a b s t) (fun z => by omega) (fun z => ?_) rfl) rfl
    exact sm_flowN b rfl (by omega) hB (by omega) hP
  by_cases c2 : b = 0 ∧ a < 1280
  · obtain ⟨g1, g2⟩ := sg_c2 (s := s) (t := t) c1 c2.1 c2.2
    rw [g2] at hP
    refine pk_le 20 (sg a b s t) (fun z => by omega) (fun z => pk_le 10 (sg a b s t) (fun z => ?_) (fun z => by omega) rfl) rfl
    exact sm_flowN a rfl (by omega) hB (by omega) hP
  by_cases c3 : 0 < a ∧ 0 < b ∧ a < 65 ∧ b < 65
  · obtain ⟨c31, c32, c33, c34⟩ := c3
    obtain ⟨g1, g2⟩ := sg_c3 (s := s) (t := t) c31 c32 c33 c34
    rw [g2] at hP
    refine pk_le 20 (sg a b s t) (fun z => pk_le 84 (sg a b s t) (fun z => by omega) (fun z => ?_) rfl) (fun z => by omega) rfl
    rw [mi1 (by omega), mi1 (by omega), md16 (by omega), md16 (by omega)]
    refine sm_flowN ((a - 1) % 16 * 16 + (b - 1) % 16) (by simp only [lit32, pk_mul, nI_add]) (by omega) hB (by omega) (fun S2 f2 h2 => hP S2 f2 ?_)
    rw [Nat.mod_eq_of_lt (show (a - 1) % 16 * 16 + (b - 1) % 16 < 256 by omega)] at h2
    exact h2
  by_cases c4 : 0 < a ∧ 0 < b ∧ a < 769 ∧ b < 769
  · obtain ⟨c41, c42, c43, c44⟩ := c4
    obtain ⟨g1, g2⟩ := sg_c4 (s := s) (t := t) c3 c41 c42 c43 c44
    rw [g2] at hP
    refine pk_le 20 (sg a b s t) (fun z => pk_le 84 (sg a b s t) (fun z => pk_le 120 (sg a b s t) (fun z => by omega) (fun z => ?_) rfl) (fun z => by omega) rfl) (fun z => by omega) rfl
    rw [mi1 (by omega), mi1 (by omega), md256 (by omega), md256 (by omega)]
    refine sm_flowN ((a - 1) % 256) rfl (by omega) hB (by omega) (fun S2 f2 h2 => ?_)
    refine sm_flowN ((b - 1) % 256) rfl (by omega) h2 (by simp; omega) (fun S3 f3 h3 => hP S3 (f2.trans f3) ?_)
    rw [Nat.mod_mod, Nat.mod_mod] at h3
    simpa using h3
  by_cases c5 : a < 4096 ∧ b < 4096
  · obtain ⟨g1, g2⟩ := sg_c5 (s := s) (t := t) c1 c2 c4 c5.1 c5.2
    rw [g2] at hP
    refine pk_le 20 (sg a b s t) (fun z => pk_le 84 (sg a b s t) (fun z => pk_le 120 (sg a b s t) (fun z => pk_le 124 (sg a b s t) (fun z => by omega) (fun z => ?_) rfl) (fun z => by omega) rfl) (fun z => by omega) rfl) (fun z => by omega) rfl
    rw [md16 (by omega), dv16 (by omega), dv256 (by omega)]
    refine sm_flowN (a / 16) rfl (by omega) hB (by omega) (fun S2 f2 h2 => ?_)
    refine sm_flowN (a % 16 * 16 + b / 256) (by simp only [lit32, pk_mul, nI_add]) (by omega) h2 (by simp; omega) (fun S3 f3 h3 => ?_)
    refine sm_flowN b rfl (by omega) h3 (by simp; omega) (fun S4 f4 h4 => hP S4 ((f2.trans f3).trans f4) ?_)
    rw [Nat.mod_eq_of_lt (show a / 16 < 256 by omega), Nat.mod_eq_of_lt (show a % 16 * 16 + b / 256 < 256 by omega)] at h4
    simpa using h4
  · obtain ⟨g1, g2⟩ := sg_c6 (s := s) (t := t) c5
    rw [g2] at hP
    refine pk_le 20 (sg a b s t) (fun z => pk_le 84 (sg a b s t) (fun z => pk_le 120 (sg a b s t) (fun z => pk_le 124 (sg a b s t) (fun z => ?_) (fun z => by omega) rfl) (fun z => by omega) rfl) (fun z => by omega) rfl) (fun z => by omega) rfl
    rw [dv256 (by omega), dv256 (by omega)]
    refine sm_flowN (a / 256) rfl (by omega) hB (by omega) (fun S2 f2 h2 => ?_)
    refine sm_flowN a rfl (by omega) h2 (by simp; omega) (fun S3 f3 h3 => ?_)
    refine sm_flowN (b / 256) rfl (by omega) h3 (by simp; omega) (fun S4 f4 h4 => ?_)
    refine sm_flowN b rfl (by omega) h4 (by simp; omega) (fun S5 f5 h5 => hP S5 (((f2.trans f3).trans f4).trans f5) ?_)
    rw [Nat.mod_eq_of_lt (show a / 256 < 256 by omega), Nat.mod_eq_of_lt (show b / 256 < 256 by omega)] at h5
    simpa using h5
