/-! runs of flags -/
def run (f : Nat) : List Nat → Nat
  | [] => 0
  | x :: t => if x = f then run f t + 1 else 0
def emit (f m : Nat) : List Nat := if 2 < m then [f + 8, m - 1] else List.replicate m f
def rl : Nat → List Nat → List Nat
  | 0, _ => []
  | _ + 1, [] => []
  | n + 1, f :: t => emit f (1 + run f t) ++ rl n (t.drop (run f t))
theorem run_le (f : Nat) : ∀ l : List Nat, run f l ≤ l.length
  | [] => Nat.le_refl 0
  | x :: t => by
    have := run_le f t
    simp only [run, List.length_cons]
    split <;> omega
theorem emit_len (f m : Nat) : (emit f m).length ≤ m := by
  unfold emit
  split <;> simp <;> omega
theorem rl_fuel : ∀ (n m : Nat) (l : List Nat), l.length ≤ n → l.length ≤ m → rl n l = rl m l := by
  intro n
  induction n with
  | zero =>
    intro m l h1 h2
    have : l = [] := List.eq_nil_of_length_eq_zero (by omega)
    subst this
    cases m <;> rfl
  | succ n ih =>
    intro m l h1 h2
    cases l with
    | nil => cases m <;> rfl
    | cons f t =>
      cases m with
      | zero => simp at h2
      | succ m =>
        simp only [rl]
        rw [ih m (t.drop (run f t)) (by simp at h1 ⊢; omega) (by simp at h2 ⊢; omega)]
theorem rl_len : ∀ (n : Nat) (l : List Nat), (rl n l).length ≤ l.length := by
  intro n
  induction n with
  | zero => intro l; simp [rl]
  | succ n ih =>
    intro l
    cases l with
    | nil => simp [rl]
    | cons f t =>
      simp only [rl, List.length_append, List.length_cons]
      have h1 := emit_len f (1 + run f t)
      have h2 := ih (t.drop (run f t))
      have h3 := run_le f t
      simp only [List.length_drop] at h2
      omega
/-- the reference's way: a counter of the same -/
def out : Nat → List Nat → List Nat
  | _, [] => []
  | k, f :: t => if t.head? = some f then out (k + 1) t else emit f (k + 1) ++ out 0 t
theorem out_run : ∀ (t : List Nat) (f k : Nat), out k (f :: t) = emit f (k + 1 + run f t) ++ out 0 (t.drop (run f t)) := by
  intro t
  induction t with
  | nil => intro f k; simp [out, run]
  | cons x t ih =>
    intro f k
    by_cases hx : x = f
    · subst hx
      have e1 : out k (x :: x :: t) = out (k + 1) (x :: t) := by
        conv => lhs; rw [out]
        simp
      rw [e1, ih x (k + 1)]
      simp only [run, if_true]
      rw [show k + 1 + 1 + run x t = k + 1 + (run x t + 1) by omega]
      rfl
    · have e1 : out k (f :: x :: t) = emit f (k + 1) ++ out 0 (x :: t) := by
        conv => lhs; rw [out]
        simp [hx]
      rw [e1]
      simp only [run, hx, if_false, Nat.add_zero, List.drop_zero]
theorem out_rl : ∀ (n : Nat) (l : List Nat), l.length ≤ n → out 0 l = rl n l := by
  intro n
  induction n with
  | zero =>
    intro l h
    have : l = [] := List.eq_nil_of_length_eq_zero (by omega)
    subst this
    rfl
  | succ n ih =>
    intro l h
    cases l with
    | nil => rfl
    | cons f t =>
      rw [out_run, rl, ih (t.drop (run f t)) (by simp at h ⊢; omega), Nat.zero_add]
/-- the class's way -/
theorem rl_cl (n : Nat) (f : Nat) (t : List Nat) (h : t.length + 1 ≤ n) : rl n (f :: t) = if run f t < 2 then f :: rl n t else (f + 8) :: run f t :: rl n (t.drop (run f t)) := by
  obtain ⟨m, rfl⟩ : ∃ m, n = m + 1 := ⟨n - 1, by omega⟩
  simp only [rl]
  by_cases h2 : run f t < 2
  · rw [if_pos h2]
    unfold emit
    rw [if_neg (by omega)]
    cases t with
    | nil =>
      simp only [run, rl, List.drop_nil]
      cases m <;> rfl
    | cons x t =>
      by_cases hx : x = f
      · subst hx
        have hr : run x t = 0 := by simp [run] at h2; omega
        simp only [run, if_true, hr, rl]
        simp [emit, List.replicate]
      · simp only [run, hx, if_false, List.drop_zero]
        simp [List.replicate]
        exact rl_fuel _ _ _ (by simp at h ⊢; omega) (by simp at h ⊢; omega)
  · rw [if_neg h2]
    unfold emit
    rw [if_pos (by omega)]
    simp only [List.cons_append, List.nil_append, List.cons.injEq, true_and]
    refine ⟨by omega, rl_fuel _ _ _ (by simp; omega) (by simp; omega)⟩
/-! the last points of the contours -/
def lasts : Nat → List Nat → List Nat
  | _, [] => []
  | a, s :: t => (a + s - 1) :: lasts (a + s) t
theorem lasts_len : ∀ (sz : List Nat) (a : Nat), (lasts a sz).length = sz.length
  | [], _ => rfl
  | s :: t, a => by simp [lasts, lasts_len t]
def flL (G : Gl) : List Nat := (List.range G.2.1.sum).map (flG G)
theorem flL_len (G : Gl) : (flL G).length = G.2.1.sum := by simp [flL]
theorem flL_drop {G : Gl} {p : Nat} (h : p < G.2.1.sum) : (flL G).drop p = flG G p :: (flL G).drop (p + 1) := by
  rw [List.drop_eq_getElem_cons (by rw [flL_len]; exact h)]
  congr 1
  simp [flL]
def bodyG (G : Gl) : List Int32 := (nI G.2.1.length :: (lasts 0 G.2.1).map nI) ++ (rl 16 (flL G)).map nI ++ (List.range G.2.1.sum).flatMap (fun p => stB (stp G.2.2.1 p)) ++ (List.range G.2.1.sum).flatMap (fun p => stB (stp G.2.2.2.1 p))
def plG (G : Gl) : List Int32 := if G.2.1 = [] then [] else bodyG G ++ List.replicate ((bodyG G).length % 2) 0
theorem flat_len (l : List Int32) : ∀ n : Nat, ((List.range n).flatMap (fun p => stB (stp l p))).length ≤ 2 * n := by
  intro n
  induction n with
  | zero => simp
  | succ n ih =>
    rw [List.range_succ, List.flatMap_append, List.length_append]
    simp only [List.flatMap_cons, List.flatMap_nil, List.append_nil]
    have := stB_len (stp l n)
    omega
theorem body_len {G : Gl} (hk : okG G) : (bodyG G).length ≤ 85 := by
  have k1 := hk.1.1
  have k2 := hk.1.2.1
  have a1 := lasts_len G.2.1 0
  have a2 := rl_len 16 (flL G)
  have a3 := flat_len G.2.2.1 G.2.1.sum
  have a4 := flat_len G.2.2.2.1 G.2.1.sum
  have a5 := flL_len G
  unfold bodyG
  simp only [List.length_append, List.length_cons, List.length_map]
  omega
theorem plG_len {G : Gl} (hk : okG G) : (plG G).length ≤ 86 := by
  have := body_len hk
  unfold plG
  split
  · simp
  · rw [List.length_append, List.length_replicate]; omega
/-! the class writes it -/
theorem sp_addContours {S : St} {q r : Nat} {G : Gl} {P : St → Prop} (hc : cG S q G) (hk : okG G) (hcl : closed G) (hq : q < 12) (hr : 48 ≤ r) (h : P (rApp S r (nI G.2.1.length :: (lasts 0 G.2.1).map nI))) : wp_X7_addContours S q r P := by
  intro X12 x12 S11 e11 x12' e12
  have k1 := hk.1.1
  have k2 := hk.1.2.1
  have hl : ∀ l, fv_X4_contourCount (rApp S r l) q = nI G.2.1.length := fun l => by
    show nI ((rApp S r l).1 _).length = _
    rw [(cG_app hc hq hr).2.1, List.length_map]
  have key : ∀ (t pre : List Nat) (l : List Int32) (a : Nat), G.2.1 = pre ++ t → a = pre.sum → l ++ (lasts a t).map nI = nI G.2.1.length :: (lasts 0 G.2.1).map nI → X12 (rApp S r l) (nI a - 1) (nI pre.length) := by
    intro t
    induction t with
    | nil =>
      intro pre l a e ea el
      refine x12 _ _ _ ⟨fun _ => ?_, fun z => absurd ?_ z⟩
      · simp [lasts] at el
        rw [el]; exact h
      · rw [hl]; simp at e; rw [e]; exact Int32.le_refl _
    | cons s t ih =>
      intro pre l a e ea el
      have ell : G.2.1.length = pre.length + t.length + 1 := by rw [e]; simp; omega
      have es : G.2.1.sum = pre.sum + s + t.sum := by rw [e]; simp; omega
      have hs : 1 ≤ s := hcl s (by rw [e]; simp)
      refine x12 _ _ _ ⟨fun z => absurd z (by rw [hl]; exact nI_ge (by omega) (by omega)), fun _ x8 e8 S9 e9 x10 e10 => ?_⟩
      have hs2 : fv_X4_contourSize (rApp S r l) q (nI pre.length) = nI s := by
        show rGet (rApp S r l) (4 * q) (nI pre.length) = _
        rw [rGet_nI (by omega), (cG_app hc hq hr).2.1, e]
        simp
      have e8' : x8 = nI (a + s) - 1 := by
        rw [e8, hs2, ← nI_add, Int32.sub_eq_add_neg, Int32.sub_eq_add_neg, Int32.add_assoc, Int32.add_assoc, Int32.add_comm (-1) (nI s)]
      have e8'' : x8 = nI (a + s - 1) := e8'.trans (by have := nI_pred (a + s - 1); rwa [Nat.sub_add_cancel (by omega)] at this)
      have := ih (pre ++ [s]) (l ++ [nI (a + s - 1)]) (a + s) (by rw [e]; simp) (by simp; omega) (by rw [← el]; simp [lasts])
      rw [e9, e10, nI_1]
      show X12 (rApp (rApp S r l) r [x8]) x8 (nI (pre.length + 1))
      rw [rApp_app, e8'']
      rw [← e8', e8''] at this
      simpa using this
  have := key G.2.1 [] [nI G.2.1.length] 0 rfl rfl rfl
  rw [e11, e12]
  have e0 : fv_X4_contourCount S q = nI G.2.1.length := by show nI (S.1 _).length = _; rw [hc.2.1, List.length_map]
  rw [e0]
  exact this
theorem sp_addFlags {S : St} {q r : Nat} {G : Gl} {P : St → Prop} (hc : cG S q G) (hk : okG G) (hq : q < 12) (hr : 48 ≤ r) (hr2 : r < 68) (hle : rowsLe S) (h : P (rApp S r ((rl 16 (flL G)).map nI))) : wp_X7_addFlags S q r P := by
  intro X2 X19 X52 X85 x2 x19 x52 x85
  have k2 := hk.1.2.1
  have hn : ∀ l, fv_X4_pointCount (rApp S r l) q = nI G.2.1.sum := fun l => by
    show nI ((rApp S r l).1 _).length = _
    rw [(cG_app hc hq hr).2.2.1, hk.1.2.2.1]
  -- the inner count
  have inner : ∀ (d k p : Nat) (l : List Int32), p + k + 1 + d = G.2.1.sum → (∀ m, k + run (flG G p) ((flL G).drop (p + k + 1)) = m → X52 (rApp S r l) (nI p) (nI (flG G p)) (nI m)) → X19 (rApp S r l) (nI p) (nI (flG G p)) (nI k) := by
    intro d
    induction d with
    | zero =>
      intro k p l hd hx
      refine x19 _ _ _ _ ⟨fun _ => ?_, fun z => absurd ?_ z⟩
      · refine hx k ?_
        rw [List.drop_of_length_le (by rw [flL_len]; omega)]
        rfl
      · rw [hn, nI_add, nI_1]; exact nI_le (by omega) (by omega)
    | succ d ih =>
      intro k p l hd hx
      have hdr := flL_drop (G := G) (p := p + k + 1) (by omega)
      refine x19 _ _ _ _ ⟨fun z => absurd z (by rw [hn, nI_add, nI_1]; exact nI_ge (by omega) (by omega)), fun _ => ?_⟩
      rw [nI_add, nI_1]
      refine sp_flagOf (cG_app hc hq hr) hk (by omega) ⟨fun z => ?_, fun z x22 e22 => ?_⟩
      · refine hx k ?_
        have hne : ¬ flG G (p + k + 1) = flG G p := fun y => z (by rw [y])
        rw [hdr]
        simp only [run, hne, if_false, Nat.add_zero]
      · have he : flG G (p + k + 1) = flG G p := (nI_eq (by have := flG_le G (p + k + 1); omega) (by have := flG_le G p; omega)).mp z
        rw [e22, nI_1]
        refine ih (k + 1) p l (by omega) (fun m em => hx m ?_)
        rw [hdr]
        simp only [run, he, if_true]
        rw [← em, show p + (k + 1) + 1 = p + k + 1 + 1 by omega]
        omega
  have outer : ∀ (d p : Nat) (l : List Int32), p + d = G.2.1.sum → l ++ (rl 16 ((flL G).drop p)).map nI = (rl 16 (flL G)).map nI → X2 (rApp S r l) (nI p) := by
    intro d
    induction d using Nat.strongRecOn with
    | ind d ih =>
      intro p l hd hl
      refine x2 _ _ ⟨fun z => ?_, fun z => ?_⟩
      · rw [hn] at z
        have hp := (nI_leI (by omega) (by omega)).mp z
        rw [List.drop_of_length_le (by rw [flL_len]; omega)] at hl
        simp [rl] at hl
        rw [hl]; exact h
      · have hp : p < G.2.1.sum := by
          rw [hn] at z
          exact Classical.byContradiction fun y => z (nI_le (by omega) (by omega))
        have hf := flG_le G p
        refine sp_flagOf (cG_app hc hq hr) hk (by omega) ?_
        refine inner (G.2.1.sum - (p + 0 + 1)) 0 p l (by omega) (fun m em => ?_)
        have hdr := flL_drop hp
        have hml : m ≤ G.2.1.sum - (p + 1) := by
          have := run_le (flG G p) ((flL G).drop (p + 0 + 1))
          simp only [List.length_drop, flL_len] at this
          omega
        rw [hdr, rl_cl 16 _ _ (by simp [flL_len]; omega)] at hl
        rw [show p + 0 + 1 = p + 1 by omega, Nat.zero_add] at em
        rw [em] at hl
        refine x52 _ _ _ _ (pk_lt m 2 (fun h2 S24 e24 => ?_) (fun h2 S25 e25 S26 e26 x27 e27 => ?_) rfl)
        · refine x85 _ _ (fun x28 e28 => ?_)
          rw [if_pos h2] at hl
          rw [e24, e28, nI_1]
          unfold rAdd
          rw [rApp_app]
          exact ih (d - 1) (by omega) (p + 1) _ (by omega) (by rw [← hl]; simp)
        · refine x85 _ _ (fun x28 e28 => ?_)
          rw [if_neg (by omega)] at hl
          rw [e26, e25, e28, e27, nI_add, nI_1]
          unfold rAdd
          rw [rApp_app, rApp_app]
          refine ih (d - 1 - m) (by omega) (p + m + 1) _ (by omega) ?_
          rw [← hl]
          simp only [List.drop_drop, List.map_cons, List.append_assoc, List.cons_append, List.nil_append]
          rw [show nI (flG G p) + 8 = nI (flG G p + 8) from nI_add _ 8, show p + 1 + m = p + m + 1 by omega]
  have := outer G.2.1.sum 0 [] (by omega) (by simp)
  rw [rApp_nil hr2 hle] at this
  exact this
theorem flat_succ (f : Nat → List Int32) (n : Nat) : (List.range (n + 1)).flatMap f = (List.range n).flatMap f ++ f n := by
  rw [List.range_succ, List.flatMap_append]
  simp
theorem sp_addSteps {S : St} {q r : Nat} {G : Gl} {P : St → Prop} (hc : cG S q G) (hk : okG G) (hq : q < 12) (hr : 48 ≤ r) (hr2 : r < 68) (hle : rowsLe S) (h : P (rApp S r ((List.range G.2.1.sum).flatMap (fun p => stB (stp G.2.2.1 p)) ++ (List.range G.2.1.sum).flatMap (fun p => stB (stp G.2.2.2.1 p))))) : wp_X7_addSteps S q r P := by
  intro X2 X27 x2 x27
  have k2 := hk.1.2.1
  have hn : ∀ l, fv_X4_pointCount (rApp S r l) q = nI G.2.1.sum := fun l => by
    show nI ((rApp S r l).1 _).length = _
    rw [(cG_app hc hq hr).2.2.1, hk.1.2.2.1]
  have l27 := up_loop (X := X27) (fun j => rApp S r ((List.range G.2.1.sum).flatMap (fun p => stB (stp G.2.2.1 p)) ++ (List.range j).flatMap (fun p => stB (stp G.2.2.2.1 p)))) (N := G.2.1.sum) (x27 _ _ ⟨fun _ => h, fun z => absurd (by rw [hn]; exact Int32.le_refl _) z⟩) (fun j hj hx => x27 _ _ ⟨fun z => absurd z (by rw [hn]; exact nI_ge hj (by omega)), fun _ => ?_⟩) 0 (by omega)
  · have l2 := up_loop (X := X2) (fun j => rApp S r ((List.range j).flatMap (fun p => stB (stp G.2.2.1 p)))) (N := G.2.1.sum) (x2 _ _ ⟨fun _ => ?_, fun z => absurd (by rw [hn]; exact Int32.le_refl _) z⟩) (fun j hj hx => x2 _ _ ⟨fun z => absurd z (by rw [hn]; exact nI_ge hj (by omega)), fun _ => ?_⟩) 0 (by omega)
    · simp only [List.range_zero, List.flatMap_nil] at l2
      rw [rApp_nil hr2 hle, nI_0] at l2
      exact l2
    · simp only [List.range_zero, List.flatMap_nil, List.append_nil] at l27
      rw [nI_0] at l27
      exact l27
    · rw [dx_nI (cG_app hc hq hr) (by omega)]
      refine sp_addStep hr2 (rApp_le hle) (inS_stp hk.2.1 j) (fun x12 e12 => ?_)
      rw [e12, nI_1, rApp_app, ← flat_succ (fun p => stB (stp G.2.2.1 p)) j]
      exact hx
  · rw [dy_nI (cG_app hc hq hr) (by omega)]
    refine sp_addStep hr2 (rApp_le hle) (inS_stp hk.2.2.1 j) (fun x12 e12 => ?_)
    rw [e12, nI_1, rApp_app, List.append_assoc, ← flat_succ (fun p => stB (stp G.2.2.2.1 p)) j]
    exact hx
