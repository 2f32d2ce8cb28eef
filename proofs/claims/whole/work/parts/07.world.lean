def stX (S : St) (r : Nat) (l : List Int32) : St := (va_up S.1 r l, S.2)
def stM (S : St) (k p : Nat) (v : Int32) : St := (S.1, (fun k' => if k' = k then va_up (S.2.1 k) p v else S.2.1 k'), S.2.2)
def stO (S : St) (v : Int64) : St := (S.1, S.2.1, S.2.2.1, v)
def stT (S : St) (t : List (Nat × Nat × Nat)) : St := (S.1, S.2.1, t, S.2.2.2)
section WX
variable {f : Fx} {R : Room} {g : Gx} {cc : ByteArray} {nL cells slots pc : Nat} {own : String} {Q : State → Prop} {S : St} {lv : List (Nat × Value)} {st : List Value}
theorem va_P.one {D : va_G} {cl : List vw_C} {ws : va_W} {H : Heap} (h : va_P D cl ws H) {k : Nat} {q : Nat × va_E} (hk : ws[k]? = some q) : va_P D cl [q] H := fun j q2 hj => by
  cases j with
  | zero => simp at hj; subst hj; exact h k _ hk
  | succ j => simp at hj
/-- a field of a thing at a place of the world -/
theorem ww_getq (C : Cx f g cc nL own) {CN ref : String} {T : u_T} {N ci index a : Nat} {fl : List Value} {v : Value} (he : ∀ Gb, ∃ q0 : Nat, (wl g S Gb)[q0]? = some (a, .inr (ci, fl))) (hc : vwCl[ci]? = some (CN, T, N)) (hin : ∀ w ∈ u_ws CN T N, w ∈ bw) (k : Nat) (hk : k < N)
    (hlink : Cond.fieldLink own index ref (T k).2.1 (T k).2.2.1 ∈ bw) (href : (T k).1 = ref) (hv : fl[k]? = some v) (d : decode cc pc = .ok (.getfield index, 3)) (kk : WW f R g nL cells slots Q S (pc + 3) lv (v :: st)) : WW f R g nL cells slots Q S pc lv (.ref a :: st) := by
  intro H locs ls h hl
  obtain ⟨Gb, h1, h2, h3, h4, h5⟩ := id h
  obtain ⟨q0, hq0⟩ := he Gb
  exact va_get C.1 C.2.1 C.2.2.2.2.1 hin C.2.2.2.1 C.2.2.2.2.2.1 h2 q0 hq0 hc k hk (C.2.2.2.2.1 _ hlink) (fun x hx => by rw [← href]; exact hx) hv d (kk H locs ls h hl)
theorem ww_getf (C : Cx f g cc nL own) {i : Nat} (hi : i < 184) {CN ref : String} {T : u_T} {N ci index : Nat} {fl : List Value} {v : Value} (he : ∀ Gb, gw_e g S Gb i = .inr (ci, fl)) (hc : vwCl[ci]? = some (CN, T, N)) (hin : ∀ w ∈ u_ws CN T N, w ∈ bw) (k : Nat) (hk : k < N)
    (hlink : Cond.fieldLink own index ref (T k).2.1 (T k).2.2.1 ∈ bw) (href : (T k).1 = ref) (hv : fl[k]? = some v) (d : decode cc pc = .ok (.getfield index, 3)) (kk : WW f R g nL cells slots Q S (pc + 3) lv (v :: st)) : WW f R g nL cells slots Q S pc lv (.ref (gad g i) :: st) :=
  ww_getq C (fun Gb => ⟨i, by rw [wl_get g S Gb hi, he Gb]⟩) hc hin k hk hlink href hv d kk
/-- what an update of one thing must keep: the rows, and all other things -/
def updOK (g : Gx) (S S' : St) (i : Nat) (e : va_E) : Prop := (∀ Gb, gw_rows S Gb → ∃ Gb', gw_rows S' Gb' ∧ gw_e g S' Gb' i = e ∧ ∀ j, j < 184 → j ≠ i → gw_e g S' Gb' j = gw_e g S Gb j) ∧ S'.2.2.1 = S.2.2.1 ∧ ∀ t ∈ S.2.2.1, gw_t g S' t = gw_t g S t
theorem ww_putf (C : Cx f g cc nL own) {i : Nat} (hi : i < 184) {CN ref : String} {T : u_T} {N ci index : Nat} {fl : List Value} {v : Value} {S' : St} (he : ∀ Gb, gw_e g S Gb i = .inr (ci, fl)) (hc : vwCl[ci]? = some (CN, T, N)) (hin : ∀ w ∈ u_ws CN T N, w ∈ bw) (ty0 : Nat → FieldType) (hty : ∀ k, k < N → parseFieldDescriptor (T k).2.2.1 = some (ty0 k)) (hnm : ∀ a, a < N → ∀ b, b < N → a ≠ b → (T a).2.1 ≠ (T b).2.1) (k : Nat) (hk : k < N)
    (hlink : Cond.fieldLink own index ref (T k).2.1 (T k).2.2.1 ∈ bw) (href : (T k).1 = ref) (hfin : (T k).2.2.2 = false) {ty : FieldType} (hd : parseFieldDescriptor (T k).2.2.1 = some ty) (hn : narrow ty v = v) (hfit : fits ty v = true) (hlen : k < fl.length) (hU : updOK g S S' i (.inr (ci, fl.set k v))) (d : decode cc pc = .ok (.putfield index, 3)) (kk : WW f R g nL cells slots Q S' (pc + 3) lv st) : WW f R g nL cells slots Q S pc lv (v :: .ref (gad g i) :: st) := by
  intro H locs ls h hl
  obtain ⟨Gb, h1, h2, h3, h4, h5⟩ := id h
  obtain ⟨hG, hT, ht⟩ := hU
  obtain ⟨Gb', g1, g2, g3⟩ := hG Gb h1
  refine va_put C.1 C.2.1 C.2.2.2.2.1 hin ty0 hty hnm C.2.2.2.1 C.2.2.2.2.2.1 h2 h3 h4 i (by rw [wl_get g S Gb hi, he Gb]) hc k hk (C.2.2.2.2.1 _ hlink) (fun x hx => by rw [← href]; exact hx) hfin hd hn hfit hlen d (fun H1 locs1 hP hD hS => ?_)
  rw [wl_set g S S' Gb Gb' hi g2 g3 hT ht] at hP hD
  exact kk H1 locs1 ls ⟨Gb', g1, hP, hD, hS, h5⟩ hl
/-- a field of an object that a call made -/
theorem ww_putt (C : Cx f g cc nL own) {t : Nat × Nat × Nat} (hm : t ∈ S.2.2.1) {CN ref : String} {T : u_T} {N ci index : Nat} {fl : List Value} {v : Value} {S' : St} (he : gw_t g S t = .inr (ci, fl)) (hc : vwCl[ci]? = some (CN, T, N)) (hin : ∀ w ∈ u_ws CN T N, w ∈ bw) (ty0 : Nat → FieldType) (hty : ∀ k, k < N → parseFieldDescriptor (T k).2.2.1 = some (ty0 k)) (hnm : ∀ a, a < N → ∀ b, b < N → a ≠ b → (T a).2.1 ≠ (T b).2.1) (k : Nat) (hk : k < N)
    (hlink : Cond.fieldLink own index ref (T k).2.1 (T k).2.2.1 ∈ bw) (href : (T k).1 = ref) (hfin : (T k).2.2.2 = false) {ty : FieldType} (hd : parseFieldDescriptor (T k).2.2.1 = some ty) (hn : narrow ty v = v) (hfit : fits ty v = true) (hlen : k < fl.length) (hT : S'.2.2.1 = S.2.2.1) (hX : S'.1 = S.1) (hE : ∀ Gb j, j < 184 → gw_e g S' Gb j = gw_e g S Gb j) (he' : gw_t g S' t = .inr (ci, fl.set k v)) (ho : ∀ u : Nat × Nat × Nat, u.1 ≠ t.1 → gw_t g S' u = gw_t g S u) (d : decode cc pc = .ok (.putfield index, 3)) (kk : WW f R g nL cells slots Q S' (pc + 3) lv st) : WW f R g nL cells slots Q S pc lv (v :: .ref t.1 :: st) := by
  intro H locs ls h hl
  obtain ⟨Gb, h1, h2, h3, h4, h5⟩ := id h
  obtain ⟨k0, hk0, hw0⟩ := wl_getT g S Gb hm
  rw [he] at hw0
  refine va_put C.1 C.2.1 C.2.2.2.2.1 hin ty0 hty hnm C.2.2.2.1 C.2.2.2.2.2.1 h2 h3 h4 (184 + k0) hw0 hc k hk (C.2.2.2.2.1 _ hlink) (fun x hx => by rw [← href]; exact hx) hfin hd hn hfit hlen d (fun H1 locs1 hP hD hS => ?_)
  have e : (wl g S Gb).set (184 + k0) (t.1, .inr (ci, fl.set k v)) = wl g S' Gb := by
    unfold wl
    rw [List.set_append_right _ _ (by simp), hT]
    congr 1
    · exact List.map_congr_left fun j hj => by rw [hE Gb j (by simpa using hj)]
    · apply List.ext_getElem?
      intro j
      have hlenT : k0 < S.2.2.1.length := (List.getElem?_eq_some_iff.mp hk0).1
      have hne : 184 + k0 - (List.map (fun i => (gad g i, gw_e g S Gb i)) (List.range 184)).length = k0 := by simp
      rw [hne]
      by_cases hj : j = k0
      · subst hj
        rw [List.getElem?_set_self (by simpa using hlenT)]
        simp [hk0, he']
      · rw [List.getElem?_set_ne (fun h => hj h.symm)]
        simp only [List.getElem?_map]
        rcases hu : S.2.2.1[j]? with _ | u
        · rfl
        · have hwj : (wl g S Gb)[184 + j]? = some (u.1, gw_t g S u) := by
            unfold wl
            rw [List.getElem?_append_right (by simp)]
            simp [hu]
          have hne1 : u.1 ≠ t.1 := fun q => hj (by have := h3.1 _ _ _ _ hwj hw0 q; omega)
          simp [ho u hne1]
  rw [e] at hP hD
  exact kk H1 locs1 ls ⟨Gb, by intro r hr; rw [hX]; exact h1 r hr, hP, hD, hS, h5⟩ hl
/-- an int array of the world -/
theorem ww_iald (C : Cx f g cc nL own) {i : Nat} (hi : i < 184) {n : Nat} {v : Int32} {x : Int32} (he : ∀ Gb, gw_rows S Gb → ∃ F, gw_e g S Gb i = .inl (g.2.1.1, (n, .inl F)) ∧ F x.toNatClampNeg = v) (hin : vp_in x n) (d : decode cc pc = .ok (.iaload, 1)) (kk : WW f R g nL cells slots Q S (pc + 1) lv (.int v :: st)) : WW f R g nL cells slots Q S pc lv (.int x :: .ref (gad g i) :: st) := by
  intro H locs ls h hl
  obtain ⟨Gb, h1, h2, h3, h4, h5⟩ := id h
  obtain ⟨F, e1, e2⟩ := he Gb h1
  refine va_iald C.1 C.2.1 C.2.2.2.2.2.1 h2 i 0 (by rw [wl_get g S Gb hi, e1]) rfl hin d ?_
  rw [e2]
  exact kk H locs ls h hl
theorem ww_iast (C : Cx f g cc nL own) {i : Nat} (hi : i < 184) {n : Nat} {v x : Int32} {S' : St} (hin : vp_in x n) (hU : ∀ Gb, gw_rows S Gb → ∃ F Gb', gw_e g S Gb i = .inl (g.2.1.1, (n, .inl F)) ∧ gw_rows S' Gb' ∧ gw_e g S' Gb' i = .inl (g.2.1.1, (n, .inl (upd F x.toNatClampNeg v))) ∧ ∀ j, j < 184 → j ≠ i → gw_e g S' Gb' j = gw_e g S Gb j) (hT : S'.2.2.1 = S.2.2.1) (ht : ∀ t ∈ S.2.2.1, gw_t g S' t = gw_t g S t) (d : decode cc pc = .ok (.iastore, 1)) (kk : WW f R g nL cells slots Q S' (pc + 1) lv st) : WW f R g nL cells slots Q S pc lv (.int v :: .int x :: .ref (gad g i) :: st) := by
  intro H locs ls h hl
  obtain ⟨Gb, h1, h2, h3, h4, h5⟩ := id h
  obtain ⟨F, Gb', e1, g1, g2, g3⟩ := hU Gb h1
  refine va_iast C.1 C.2.1 C.2.2.2.2.2.1 h2 h3 h4 i 0 (by rw [wl_get g S Gb hi, e1]) rfl hin d (fun H1 locs1 hP hD hS => ?_)
  rw [wl_set g S S' Gb Gb' hi g2 g3 hT ht] at hP hD
  exact kk H1 locs1 ls ⟨Gb', g1, hP, hD, hS, h5⟩ hl
theorem ww_alen (C : Cx f g cc nL own) {i : Nat} (hi : i < 184) {cA : ClassId} {n : Nat} {ty : FieldType} (he : ∀ Gb, ∃ F, gw_e g S Gb i = .inl (cA, (n, F))) (t0 : Nat) (ht : (gtys g)[t0]? = some (cA, ty)) {v : Int32} (hv : nI n = v) (d : decode cc pc = .ok (.arraylength, 1)) (kk : WW f R g nL cells slots Q S (pc + 1) lv (.int v :: st)) : WW f R g nL cells slots Q S pc lv (.ref (gad g i) :: st) := by
  intro H locs ls h hl
  obtain ⟨Gb, h1, h2, h3, h4, h5⟩ := id h
  obtain ⟨F, e1⟩ := he Gb
  exact va_alen (x := (n, F)) C.1 C.2.1 C.2.2.2.2.2.1 h2 i t0 (by rw [wl_get g S Gb hi, e1]) ht hv d (kk H locs ls h hl)
theorem ww_aald (C : Cx f g cc nL own) {i : Nat} (hi : i < 184) {cA : ClassId} {n a : Nat} {CN : String} {F : Nat → Option Nat} {x : Int32} (he : ∀ Gb, gw_e g S Gb i = .inl (cA, (n, .inr (.inr (.inr (.inr F)))))) (t0 : Nat) (ht : (gtys g)[t0]? = some (cA, .object CN)) (hin : vp_in x n) (hv : F x.toNatClampNeg = some a) (d : decode cc pc = .ok (.aaload, 1)) (kk : WW f R g nL cells slots Q S (pc + 1) lv (.ref a :: st)) : WW f R g nL cells slots Q S pc lv (.int x :: .ref (gad g i) :: st) := by
  intro H locs ls h hl
  obtain ⟨Gb, h1, h2, h3, h4, h5⟩ := id h
  refine va_aldq C.1 C.2.1 C.2.2.2.2.2.1 h2 i t0 (by rw [wl_get g S Gb hi, he Gb]) ht hin d ?_
  rw [hv]
  exact kk H locs ls h hl
end WX
