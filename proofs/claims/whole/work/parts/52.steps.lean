/-! bytes of numbers; steps; flags; the plain outline of a glyph -/
theorem b32 (v : Int32) : v &&& 255 = nI (v.toInt % 256).toNat := by
  rw [pk_and v 8 (by decide)]
  congr 1
  have h := v.toBitVec.isLt
  have e : v.toInt = v.toBitVec.toInt := rfl
  rw [e, BitVec.toInt_eq_toNat_cond]
  split <;> omega
theorem b64 (x : Int64) : (x &&& 255).toInt32 = nI (x.toInt % 256).toNat := by
  have : x &&& 255 = lN (x.toBitVec.toNat % 256) := by
    apply Int64.toBitVec_inj.mp
    apply BitVec.eq_of_toNat_eq
    rw [Int64.toBitVec_and, BitVec.toNat_and]
    have e1 : (255 : Int64).toBitVec.toNat = 2 ^ 8 - 1 := by decide
    rw [e1, Nat.and_two_pow_sub_one_eq_mod]
    show _ = (x.toBitVec.toNat % 256) % 2 ^ 64
    omega
  rw [this, lN_i]
  congr 1
  have h := x.toBitVec.isLt
  have e : x.toInt = x.toBitVec.toInt := rfl
  rw [e, BitVec.toInt_eq_toNat_cond]
  split <;> omega
theorem sh8 : ∀ k, k < 8 → (((8 * nI k).toInt64 &&& 63).toBitVec.smod 64).toNat = 8 * k := by decide +kernel
theorem numByte_eq (a : Int64) {k : Nat} (hk : k < 8) : numByte a k = nI ((a.toInt / 2 ^ (8 * k)) % 256).toNat := by
  unfold numByte
  rw [b64, Jvm.Kit.i64_shr a _ (sh8 k hk)]
theorem numB2 (a : Int64) : numB a 2 = [numByte a 1, numByte a 0] := rfl
theorem numB4 (a : Int64) : numB a 4 = [numByte a 3, numByte a 2, numByte a 1, numByte a 0] := rfl
theorem two_bytes (v : Int32) : numB v.toInt64 2 = [(v >>> (8 &&& 31)) &&& 255, v &&& 255] := by
  rw [numB2, numByte_eq _ (by omega), numByte_eq _ (by omega), b32, b32, pk_shr v _ 8 (by decide), Int32.toInt_toInt64, Int.shiftRight_eq_div_pow]
  simp
def ab (x : Int32) : Int32 := if 0 ≤ x then x else -x
theorem abM (S : St) (x : Int32) : fv_X11_abs S x = ab x := rfl
theorem abC (S : St) (x : Int32) : fv_J9_abs_0f7a4 S x = ab x := rfl
/-- a step is at most 8000 long -/
def inS (x : Int32) : Prop := -8000 ≤ x.toInt ∧ x.toInt ≤ 8000
theorem neg_toInt {x : Int32} (h : inS x) : (-x).toInt = -x.toInt := by
  rw [Int32.toInt_neg]
  unfold inS at h
  exact Int.bmod_eq_of_le (by omega) (by omega)
theorem le0 {x : Int32} : 0 ≤ x ↔ 0 ≤ x.toInt := by rw [Int32.le_iff_toInt_le]; rfl
theorem ab_toInt {x : Int32} (h : inS x) : (ab x).toInt = x.toInt.natAbs := by
  unfold ab
  split
  · rename_i z; rw [le0] at z; omega
  · rename_i z; rw [le0] at z; rw [neg_toInt h]; omega
theorem ab_nI {x : Int32} (h : inS x) : ab x = nI x.toInt.natAbs := by
  apply Int32.toInt_inj.mp
  unfold inS at h
  rw [ab_toInt h, nI_toInt (by omega)]
def stp (l : List Int32) (p : Nat) : Int32 := l.getD p 0 - (if p = 0 then 0 else l.getD (p - 1) 0)
theorem inR_getD {l : List Int32} (h : ∀ x ∈ l, inR x) (p : Nat) : inR (l.getD p 0) := by
  by_cases hp : p < l.length
  · rw [List.getD_eq_getElem?_getD, List.getElem?_eq_getElem hp]; exact h _ (List.getElem_mem hp)
  · rw [getD_big (by omega)]; unfold inR; exact ⟨by decide, by decide⟩
theorem inS_stp {l : List Int32} (h : ∀ x ∈ l, inR x) (p : Nat) : inS (stp l p) := by
  have h1 := inR_getD h p
  have h2 : inR (if p = 0 then 0 else l.getD (p - 1) 0) := by
    split
    · unfold inR; exact ⟨by decide, by decide⟩
    · exact inR_getD h _
  unfold stp inS
  unfold inR at h1 h2
  rw [Int32.toInt_sub, Int.bmod_eq_of_le (by omega) (by omega)]
  omega
/-- small: one byte -/
theorem small_iff {x : Int32} (h : inS x) : (¬ x < -255 ∧ ¬ 255 < x) ↔ x.toInt.natAbs ≤ 255 := by
  rw [Int32.lt_iff_toInt_lt, Int32.lt_iff_toInt_lt]
  have e1 : (-255 : Int32).toInt = -255 := by decide
  have e2 : (255 : Int32).toInt = 255 := by decide
  rw [e1, e2]
  omega
def sfN (x : Int32) (a b : Nat) : Nat := if x = 0 then b else if 255 < x.toInt.natAbs then 0 else if x ≤ 0 then a else a + b
def flN (dx dy o : Int32) : Nat := (if o = 1 then 1 else 0) + sfN dx 2 16 + sfN dy 4 32
theorem sfN_le (x : Int32) : sfN x 2 16 ≤ 18 ∧ sfN x 4 32 ≤ 36 := by unfold sfN; constructor <;> (split; omega; split; omega; split <;> omega)
theorem flN_le (dx dy o : Int32) : flN dx dy o ≤ 55 := by
  have := sfN_le dx
  have := sfN_le dy
  unfold flN
  split <;> omega
theorem sp_isSmall {S : St} {x : Int32} {P : Int32 → St → Prop} (hx : inS x) (h1 : x.toInt.natAbs ≤ 255 → P 1 S) (h0 : 255 < x.toInt.natAbs → P 0 S) : wp_X7_isSmall S x P := by
  unfold wp_X7_isSmall wp_X7_isSmall_18 wp_X7_isSmall_19
  have hs := small_iff hx
  by_cases z : x.toInt.natAbs ≤ 255
  · have := hs.mpr z
    exact ⟨fun q => absurd q this.1, fun _ => ⟨fun q => absurd q this.2, fun _ => ⟨Or.inr rfl, h1 z⟩⟩⟩
  · exact ⟨fun _ => ⟨Or.inl rfl, h0 (by omega)⟩, fun q => ⟨fun _ => ⟨Or.inl rfl, h0 (by omega)⟩, fun q2 => absurd (hs.mp ⟨q, q2⟩) z⟩⟩
theorem sp_stepFlag {S : St} {x : Int32} {a b : Nat} {P : Int32 → St → Prop} (hx : inS x) (h : P (nI (sfN x a b)) S) : wp_X7_stepFlag S x (nI a) (nI b) P := by
  unfold wp_X7_stepFlag wp_X7_stepFlag_26
  unfold sfN at h
  refine ⟨fun q => ?_, fun q => by rw [if_pos q] at h; exact h⟩
  rw [if_neg q] at h
  refine sp_isSmall hx (fun z => ⟨fun _ => ?_, fun y => absurd y (by decide)⟩) (fun z => ⟨fun y => absurd rfl y, fun _ => ?_⟩)
  · rw [if_neg (by omega)] at h
    refine ⟨fun y => by rw [if_pos y] at h; exact h, fun y => ?_⟩
    rw [if_neg y] at h
    rw [nI_add]; exact h
  · rw [if_pos z] at h; exact h
/-! the class's glyph under changes of other rows -/
theorem cG_X {S : St} {q r : Nat} {G : Gl} {l : List Int32} (h : cG S q G) (hq : q < 12) (hr : 48 ≤ r) : cG (stX S r l) q G :=
  ⟨h.1, by rw [stX_ne (by omega)]; exact h.2.1, by rw [stX_ne (by omega)]; exact h.2.2.1, by rw [stX_ne (by omega)]; exact h.2.2.2.1, by rw [stX_ne (by omega)]; exact h.2.2.2.2⟩
theorem cG_app {S : St} {q r : Nat} {G : Gl} {l : List Int32} (h : cG S q G) (hq : q < 12) (hr : 48 ≤ r) : cG (rApp S r l) q G := cG_X h hq hr
theorem dx_nI {S : St} {q p : Nat} {G : Gl} (hc : cG S q G) (hp : p < 2 ^ 31) : fv_X4_dx S q (nI p) = stp G.2.2.1 p := by
  show rGet S (4 * q + 1) (nI p) - rGet S (4 * q + 1) (nI p - 1) = _
  unfold stp
  rw [rGet_nI hp, hc.2.2.1]
  cases p with
  | zero => rw [if_pos rfl, show nI 0 - 1 = -1 by decide, rGet_m1]
  | succ p => rw [nI_pred, rGet_nI (by omega), hc.2.2.1, if_neg (by omega)]; rfl
theorem dy_nI {S : St} {q p : Nat} {G : Gl} (hc : cG S q G) (hp : p < 2 ^ 31) : fv_X4_dy S q (nI p) = stp G.2.2.2.1 p := by
  show rGet S (4 * q + 2) (nI p) - rGet S (4 * q + 2) (nI p - 1) = _
  unfold stp
  rw [rGet_nI hp, hc.2.2.2.1]
  cases p with
  | zero => rw [if_pos rfl, show nI 0 - 1 = -1 by decide, rGet_m1]
  | succ p => rw [nI_pred, rGet_nI (by omega), hc.2.2.2.1, if_neg (by omega)]; rfl
theorem sp_isOn {S : St} {q p : Nat} {G : Gl} {P : Int32 → St → Prop} (hc : cG S q G) (hp : p < 2 ^ 31) (h1 : G.2.2.2.2.getD p 0 = 1 → P 1 S) (h0 : ¬ G.2.2.2.2.getD p 0 = 1 → P 0 S) : wp_X4_isOn S q (nI p) P := by
  unfold wp_X4_isOn wp_X4_isOn_17
  rw [rGet_nI hp, hc.2.2.2.2]
  exact ⟨fun z => ⟨Or.inl rfl, h0 z⟩, fun z => ⟨Or.inr rfl, h1 z⟩⟩
def flG (G : Gl) (p : Nat) : Nat := flN (stp G.2.2.1 p) (stp G.2.2.2.1 p) (G.2.2.2.2.getD p 0)
theorem flG_le (G : Gl) (p : Nat) : flG G p ≤ 55 := flN_le _ _ _
theorem sp_flagOf {S : St} {q p : Nat} {G : Gl} {P : Int32 → St → Prop} (hc : cG S q G) (hk : okG G) (hp : p < 2 ^ 31) (h : P (nI (flG G p)) S) : wp_X7_flagOf S q (nI p) P := by
  have kk : ∀ s0 : Nat, s0 = (if G.2.2.2.2.getD p 0 = 1 then 1 else 0) → wp_X7_flagOf_13 q (nI p) S (nI s0) P := by
    intro s0 e0
    unfold wp_X7_flagOf_13
    rw [dx_nI hc hp]
    refine sp_stepFlag (a := 2) (b := 16) (inS_stp hk.2.1 p) ?_
    rw [dy_nI hc hp]
    refine sp_stepFlag (a := 4) (b := 32) (inS_stp hk.2.2.1 p) ?_
    rw [nI_add, nI_add, e0]
    exact h
  unfold wp_X7_flagOf
  refine sp_isOn hc hp (fun z => ⟨fun y => absurd y (by decide), fun _ => kk 1 (by rw [if_pos z])⟩) (fun z => ⟨fun _ => kk 0 (by rw [if_neg z]), fun y => absurd rfl y⟩)
/-! the reference's steps and flags -/
theorem stepX_mo {S : St} {g p : Nat} {G : Gl} {P : Int32 → St → Prop} (hm : mG S g G) (hk : okG G) (hg : g < 6) (hp : p < G.2.1.sum) (h : P (stp G.2.2.1 p) S) : wp_X11_stepX S (nI g) (nI p) P := by
  have k2 := hk.1.2.1
  unfold wp_X11_stepX wp_X11_stepX_32
  have e : 16 * nI g + nI p = nI (16 * g + p) := by simp only [lit32, pk_mul, nI_add]
  rw [e, nI_clamp (by omega), (hm.2.2.2 p hp).1]
  refine ⟨pk_in _ _ (show _ < 96 by omega) rfl (by decide), ?_⟩
  refine pk_le p 0 (fun h0 => ?_) (fun h0 => ⟨?_, ?_⟩) rfl
  · unfold stp at h; rw [if_pos (by omega)] at h; exact h
  · exact pk_in (16 * g + (p - 1)) _ (show _ < 96 by omega) (by rw [show 16 * g + p = 16 * g + (p - 1) + 1 by omega, nI_pred]) (by decide)
  · rw [pk_cl (16 * g + (p - 1)) (by rw [show 16 * g + p = 16 * g + (p - 1) + 1 by omega, nI_pred]), (hm.2.2.2 (p - 1) (by omega)).1]
    unfold stp at h; rw [if_neg (by omega)] at h; exact h
theorem stepY_mo {S : St} {g p : Nat} {G : Gl} {P : Int32 → St → Prop} (hm : mG S g G) (hk : okG G) (hg : g < 6) (hp : p < G.2.1.sum) (h : P (stp G.2.2.2.1 p) S) : wp_X11_stepY S (nI g) (nI p) P := by
  have k2 := hk.1.2.1
  unfold wp_X11_stepY wp_X11_stepY_32
  have e : 16 * nI g + nI p = nI (16 * g + p) := by simp only [lit32, pk_mul, nI_add]
  rw [e, nI_clamp (by omega), (hm.2.2.2 p hp).2.1]
  refine ⟨pk_in _ _ (show _ < 96 by omega) rfl (by decide), ?_⟩
  refine pk_le p 0 (fun h0 => ?_) (fun h0 => ⟨?_, ?_⟩) rfl
  · unfold stp at h; rw [if_pos (by omega)] at h; exact h
  · exact pk_in (16 * g + (p - 1)) _ (show _ < 96 by omega) (by rw [show 16 * g + p = 16 * g + (p - 1) + 1 by omega, nI_pred]) (by decide)
  · rw [pk_cl (16 * g + (p - 1)) (by rw [show 16 * g + p = 16 * g + (p - 1) + 1 by omega, nI_pred]), (hm.2.2.2 (p - 1) (by omega)).2.1]
    unfold stp at h; rw [if_neg (by omega)] at h; exact h
theorem ge256 {x : Int32} (h : inS x) : 256 ≤ ab x ↔ 255 < x.toInt.natAbs := by
  rw [Int32.le_iff_toInt_le, ab_toInt h]
  have e : (256 : Int32).toInt = 256 := by decide
  rw [e]
  omega
theorem le255 {x : Int32} (h : inS x) : ab x ≤ 255 ↔ x.toInt.natAbs ≤ 255 := by
  rw [Int32.le_iff_toInt_le, ab_toInt h]
  have e : (255 : Int32).toInt = 255 := by decide
  rw [e]
  omega
theorem on01 {G : Gl} (hk : okG G) (p : Nat) : G.2.2.2.2.getD p 0 = 0 ∨ G.2.2.2.2.getD p 0 = 1 := by
  by_cases hp : p < G.2.2.2.2.length
  · rw [List.getD_eq_getElem?_getD, List.getElem?_eq_getElem hp]; exact hk.2.2.2.1 _ (List.getElem_mem hp)
  · rw [getD_big (by omega)]; exact Or.inl rfl
theorem sm_flag {S : St} {g p : Nat} {G : Gl} {P : Int32 → St → Prop} (hm : mG S g G) (hk : okG G) (hg : g < 6) (hp : p < G.2.1.sum) (h : P (nI (flG G p)) S) : wp_X11_flag S (nI g) (nI p) P := by
  have k2 := hk.1.2.1
  have sx := inS_stp hk.2.1 p
  have sy := inS_stp hk.2.2.1 p
  unfold flG flN at h
  have k75 : ∀ s0 : Nat, s0 = (if G.2.2.2.2.getD p 0 = 1 then 1 else 0) + sfN (stp G.2.2.1 p) 2 16 → wp_X11_flag_75 (nI g) (nI p) S (stp G.2.2.2.1 p) (nI s0) P := by
    intro s0 e0
    rw [← e0] at h
    unfold wp_X11_flag_75 wp_X11_flag_114 wp_X11_flag_117
    unfold sfN at h
    refine ⟨fun q => ?_, fun q x20 e20 => ?_⟩
    · rw [if_neg q] at h
      rw [abM]
      refine ⟨fun q2 => ?_, fun q2 => ⟨fun q3 x e => ?_, fun q3 x e => ?_⟩⟩
      · rw [if_pos ((ge256 sy).mp q2), Nat.add_zero] at h; exact h
      · rw [if_neg (fun z => q2 ((ge256 sy).mpr z)), if_pos q3] at h
        rw [e, show nI s0 + 4 = nI (s0 + 4) from nI_add s0 4]; exact h
      · rw [if_neg (fun z => q2 ((ge256 sy).mpr z)), if_neg q3] at h
        rw [e, show nI s0 + 36 = nI (s0 + 36) from nI_add s0 36]; exact h
    · rw [if_pos q] at h
      rw [e20, show nI s0 + 32 = nI (s0 + 32) from nI_add s0 32]; exact h
  have k34 : ∀ s0 : Nat, s0 = (if G.2.2.2.2.getD p 0 = 1 then 1 else 0) → wp_X11_flag_34 (nI g) (nI p) S (stp G.2.2.1 p) (stp G.2.2.2.1 p) (nI s0) P := by
    intro s0 e0
    unfold wp_X11_flag_34 wp_X11_flag_72
    rw [abM]
    refine ⟨fun q => ⟨fun q2 => k75 s0 ?_, fun q2 => ⟨fun q3 x e => ?_, fun q3 x e => ?_⟩⟩, fun q x e => ?_⟩
    · unfold sfN; rw [if_neg q, if_pos ((ge256 sx).mp q2), e0, Nat.add_zero]
    · rw [e, show nI s0 + 2 = nI (s0 + 2) from nI_add s0 2]; refine k75 (s0 + 2) ?_
      unfold sfN; rw [if_neg q, if_neg (fun z => q2 ((ge256 sx).mpr z)), if_pos q3, e0]
    · rw [e, show nI s0 + 18 = nI (s0 + 18) from nI_add s0 18]; refine k75 (s0 + 18) ?_
      unfold sfN; rw [if_neg q, if_neg (fun z => q2 ((ge256 sx).mpr z)), if_neg q3, e0]
    · rw [e, show nI s0 + 16 = nI (s0 + 16) from nI_add s0 16]; refine k75 (s0 + 16) ?_
      unfold sfN; rw [if_pos q, e0]
  unfold wp_X11_flag
  refine stepX_mo hm hk hg hp (stepY_mo hm hk hg hp ?_)
  have e : 16 * nI g + nI p = nI (16 * g + p) := by simp only [lit32, pk_mul, nI_add]
  rw [e, nI_clamp (by omega), (hm.2.2.2 p hp).2.2.1]
  refine ⟨pk_in _ _ (show _ < 96 by omega) rfl (by decide), fun q => k34 0 ?_, fun q => k34 1 ?_⟩
  · rw [q, if_neg (by decide)]
  · rw [if_pos ((on01 hk p).resolve_left q)]
/-! bytes of a step -/
def stB (x : Int32) : List Int32 := if x = 0 then [] else if x.toInt.natAbs ≤ 255 then [ab x] else numB x.toInt64 2
theorem stB_len (x : Int32) : (stB x).length ≤ 2 := by unfold stB; split; simp; split <;> simp [numB_len]
theorem sp_addStep {S : St} {x : Int32} {r : Nat} {P : St → Prop} (hr : r < 68) (hle : rowsLe S) (hx : inS x) (h : P (rApp S r (stB x))) : wp_X7_addStep S x r P := by
  unfold wp_X7_addStep wp_X7_addStep_30
  unfold stB at h
  refine ⟨fun q => ?_, fun q => ?_⟩
  · rw [if_neg q] at h
    refine sp_isSmall hx (fun z => ⟨fun y => absurd y (by decide), fun _ S12 e12 => ?_⟩) (fun z => ⟨fun _ => ⟨by unfold nnB; decide, fun S11 e11 => ?_⟩, fun y => absurd rfl y⟩)
    · rw [if_pos z] at h; rw [e12, abC]; exact h
    · rw [if_neg (by omega)] at h; rw [e11]; exact h
  · rw [if_pos q, rApp_nil hr hle] at h
    exact h
theorem sm_lay {S : St} {B : List Int32} {b : Int32} {P : St → Prop} (h : mL S 31 5 B) (hl : B.length < 1100) (hP : ∀ S2, fr (kL 31 5) S S2 → mL S2 31 5 (B ++ [b &&& 255]) → P S2) : wp_X11_lay S b P := by
  have hp := mL_push (b := b &&& 255) h (by omega) (by omega)
  refine ⟨pk_in B.length _ (show B.length < 1100 from hl) h.1 (by decide), fun S3 e3 S4 e4 => ?_⟩
  have : S4 = stM (stM S 31 (S.2.1 9 5).toNatClampNeg (b &&& 255)) 9 5 (S.2.1 9 5 + 1) := by rw [e4, e3, stM_k (k' := 9) (by omega)]
  rw [this]
  exact hP _ hp.2 hp.1
theorem sm_layStep {S : St} {B : List Int32} {x : Int32} {P : St → Prop} (hx : inS x) (h : mL S 31 5 B) (hl : B.length + 2 ≤ 1100) (hP : ∀ S2, fr (kL 31 5) S S2 → mL S2 31 5 (B ++ stB x) → P S2) : wp_X11_layStep S x P := by
  unfold wp_X11_layStep wp_X11_layStep_23 wp_X11_layStep_42
  unfold stB at hP
  simp only [abM]
  have hx2 : x.toInt.natAbs ≤ 8000 := by unfold inS at hx; omega
  refine ⟨fun q => ⟨fun q2 => ⟨fun _ => ?_, fun z => absurd q2 z⟩, fun q2 => ?_⟩, fun q => ?_⟩
  · rw [if_neg q, if_pos ((le255 hx).mp q2)] at hP
    refine sm_lay h (by omega) (fun S2 f2 h2 => hP S2 f2 ?_)
    rw [and255 ⟨x.toInt.natAbs, by have := (le255 hx).mp q2; omega, ab_nI hx⟩] at h2
    exact h2
  · have hn : ¬ x.toInt.natAbs ≤ 255 := fun z => q2 ((le255 hx).mpr z)
    rw [if_neg q, if_neg hn] at hP
    refine sm_lay h (by omega) (fun S1 f1 h1 => ⟨fun z => absurd z q2, fun _ => ?_⟩)
    refine sm_lay h1 (by simp; omega) (fun S2 f2 h2 => hP S2 (f1.trans f2) ?_)
    rw [two_bytes]
    simpa using h2
  · rw [if_pos q, List.append_nil] at hP
    exact hP S (fr.refl S) h
