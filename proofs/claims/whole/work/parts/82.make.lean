/-! MAKING THE WORLD: its cells are a list that grows; a constructor is called on the list's last cell and leaves its own cells in its place -/
def NU (U : State) : Prop := va_Nw (.methodLinkNest RX10 20 yX6_init RX10) U ∧ va_Nw (.methodLinkNest RX6 11 yX9_init RX10) U ∧ va_Nw (.methodLinkNest RX10 27 yX5_init RX10) U ∧ va_Nw (.methodLinkNest RX3 27 yX4_init RX10) U ∧ va_AO "FontPacker$Glyph" U ∧ va_AO "FontPacker$Row" U
theorem NU.go {s U : State} (h : NU s) (hW : s.WarmedH U.vm) : NU U := ⟨va_Nw.warmM hW h.1, va_Nw.warmM hW h.2.1, va_Nw.warmM hW h.2.2.1, va_Nw.warmM hW h.2.2.2.1, h.2.2.2.2.1.moved hW.alike, h.2.2.2.2.2.moved hW.alike⟩
theorem NU.same {s U : State} (h : NU s) (hv : U.vm = s.vm) : NU U := by
  have hal : s.vm.Alike U.vm := by rw [hv]; exact Vm.Alike.refl _
  exact ⟨va_Nw.same rfl hv.symm h.1, va_Nw.same rfl hv.symm h.2.1, va_Nw.same rfl hv.symm h.2.2.1, va_Nw.same rfl hv.symm h.2.2.2.1, h.2.2.2.2.1.moved hal, h.2.2.2.2.2.moved hal⟩
def Hu (g : Gx) (w : va_W) (H0 H : Heap) (locs : List Loc) : Prop := va_P g.1 vwCl w H ∧ va_D (gA g) w ∧ va_S (gA g) H0 H locs ∧ ∀ q, H0.size ≤ q → gA g q
def hu (g : Gx) (w : va_W) (U : State) : Prop := va_P g.1 vwCl w U.heap ∧ va_D (gA g) w ∧ va_K g.1 vwCl (gtys g) U ∧ NX g U U.heap ∧ NU U ∧ ∀ q, U.heap.size ≤ q → gA g q
def UW (f : Fx) (R : Room) (g : Gx) (nL cells slots : Nat) (Q : State → Prop) (w : va_W) (pc : Nat) (lv : List (Nat × Value)) (st : List Value) : Prop :=
  ∀ (H : Heap) (locs : List Loc) (ls : Array Slot), Hu g w (fs f).heap H locs → lv_has ls nL lv → fW f R H locs cells slots Q (F0 (fm f) pc ls st)
section UR
variable {f : Fx} {R : Room} {g : Gx} {cc : ByteArray} {nL cells slots pc : Nat} {own : String} {Q : State → Prop} {w : va_W} {lv : List (Nat × Value)} {st : List Value}
theorem uw_dup (C : Cx f g cc nL own) {v : Value} (d : decode cc pc = .ok (.dup, 1)) (hv : v.category = 1) (k : UW f R g nL cells slots Q w (pc + 1) lv (v :: v :: st)) : UW f R g nL cells slots Q w pc lv (v :: st) := fun H locs ls h hl => lv_dup C.1 C.2.1 d hv (k H locs ls h hl)
theorem uw_iconst (C : Cx f g cc nL own) {n : Int} {v : Int32} (d : decode cc pc = .ok (.iconst n, 1)) (hv : Int32.ofInt n = v) (k : UW f R g nL cells slots Q w (pc + 1) lv (.int v :: st)) : UW f R g nL cells slots Q w pc lv (st) := fun H locs ls h hl => lv_iconst C.1 C.2.1 d hv (k H locs ls h hl)
theorem uw_bipush (C : Cx f g cc nL own) {n : Int} {v : Int32} (d : decode cc pc = .ok (.bipush n, 2)) (hv : (Int8.ofInt n).toInt32 = v) (k : UW f R g nL cells slots Q w (pc + 2) lv (.int v :: st)) : UW f R g nL cells slots Q w pc lv (st) := fun H locs ls h hl => lv_bipush C.1 C.2.1 d hv (k H locs ls h hl)
theorem uw_sipush (C : Cx f g cc nL own) {n : Int} {v : Int32} (d : decode cc pc = .ok (.sipush n, 3)) (hv : (Int16.ofInt n).toInt32 = v) (k : UW f R g nL cells slots Q w (pc + 3) lv (.int v :: st)) : UW f R g nL cells slots Q w pc lv (st) := fun H locs ls h hl => lv_sipush C.1 C.2.1 d hv (k H locs ls h hl)
theorem uw_iload_n (C : Cx f g cc nL own) {j : Fin 4} {x : Int32} (d : decode cc pc = .ok (.iload_n j, 1)) (k0 : Nat) (hk : lv[k0]? = some ((j : Nat), .int x)) (k : UW f R g nL cells slots Q w (pc + 1) lv (.int x :: st)) : UW f R g nL cells slots Q w pc lv st := fun H locs ls h hl => lv_iload_n C.1 C.2.1 d rfl (lv_at hl k0 hk) (k H locs ls h hl)
theorem uw_iload (C : Cx f g cc nL own) {j : Nat} {x : Int32} (d : decode cc pc = .ok (.iload j, 2)) (k0 : Nat) (hk : lv[k0]? = some (j, .int x)) (k : UW f R g nL cells slots Q w (pc + 2) lv (.int x :: st)) : UW f R g nL cells slots Q w pc lv st := fun H locs ls h hl => lv_iload C.1 C.2.1 d (lv_at hl k0 hk) (k H locs ls h hl)
theorem uw_aload_n (C : Cx f g cc nL own) {j : Fin 4} {x : Nat} (d : decode cc pc = .ok (.aload_n j, 1)) (k0 : Nat) (hk : lv[k0]? = some ((j : Nat), .ref x)) (k : UW f R g nL cells slots Q w (pc + 1) lv (.ref x :: st)) : UW f R g nL cells slots Q w pc lv st := fun H locs ls h hl => lv_aload_n C.1 C.2.1 d rfl (lv_at hl k0 hk) (k H locs ls h hl)
theorem uw_istore_n (C : Cx f g cc nL own) {j : Fin 4} {i : Nat} {x : Int32} {lv2 : List (Nat × Value)} (d : decode cc pc = .ok (.istore_n j, 1)) (hi : (j : Nat) = i) (hn : i < nL) (hl2 : (i, .int x) :: lv.filter (fun q => !(q.1 == i) && !(q.1 + 1 == i && q.2.category == 2)) = lv2) (k : UW f R g nL cells slots Q w (pc + 1) lv2 st) : UW f R g nL cells slots Q w pc lv (.int x :: st) := fun H locs ls h hl => lv_istore_n C.1 C.2.1 d hi hl hn hl2 (fun ls2 hl3 => k H locs ls2 h hl3)
theorem uw_istore (C : Cx f g cc nL own) {i : Nat} {x : Int32} {lv2 : List (Nat × Value)} (d : decode cc pc = .ok (.istore i, 2)) (hn : i < nL) (hl2 : (i, .int x) :: lv.filter (fun q => !(q.1 == i) && !(q.1 + 1 == i && q.2.category == 2)) = lv2) (k : UW f R g nL cells slots Q w (pc + 2) lv2 st) : UW f R g nL cells slots Q w pc lv (.int x :: st) := fun H locs ls h hl => lv_istore C.1 C.2.1 d hl hn hl2 (fun ls2 hl3 => k H locs ls2 h hl3)
theorem uw_astore_n (C : Cx f g cc nL own) {j : Fin 4} {i : Nat} {x : Nat} {lv2 : List (Nat × Value)} (d : decode cc pc = .ok (.astore_n j, 1)) (hi : (j : Nat) = i) (hn : i < nL) (hl2 : (i, .ref x) :: lv.filter (fun q => !(q.1 == i) && !(q.1 + 1 == i && q.2.category == 2)) = lv2) (k : UW f R g nL cells slots Q w (pc + 1) lv2 st) : UW f R g nL cells slots Q w pc lv (.ref x :: st) := fun H locs ls h hl => lv_astore_n C.1 C.2.1 d hi hl hn hl2 (fun ls2 hl3 => k H locs ls2 h hl3)
theorem uw_iinc (C : Cx f g cc nL own) {i : Nat} {n : Int} {x v : Int32} {lv2 : List (Nat × Value)} (d : decode cc pc = .ok (.iinc i n, 3)) (k0 : Nat) (hk : lv[k0]? = some (i, .int x)) (hv : x + Int32.ofInt n = v) (hn : i < nL) (hl2 : (i, .int v) :: lv.filter (fun q => !(q.1 == i) && !(q.1 + 1 == i && q.2.category == 2)) = lv2) (k : UW f R g nL cells slots Q w (pc + 3) lv2 st) : UW f R g nL cells slots Q w pc lv st := fun H locs ls h hl => lv_iinc C.1 C.2.1 d hl hk hv hn hl2 (fun ls2 hl3 => k H locs ls2 h hl3)
theorem uw_goto (C : Cx f g cc nL own) {off : Int} (d : decode cc pc = .ok (.goto off, 3)) {tgt : Nat} (ht : (pc : Int) + off = (tgt : Int)) (k : UW f R g nL cells slots Q w tgt lv st) : UW f R g nL cells slots Q w pc lv st := fun H locs ls h hl => lv_goto C.1 C.2.1 d ht (k H locs ls h hl)
theorem uw_icmp_ge (C : Cx f g cc nL own) {x y : Int32} {off : Int} (d : decode cc pc = .ok (.if_icmp .ge off, 3)) {tgt : Nat} (ht : (pc : Int) + off = (tgt : Int)) (kt : y ≤ x → UW f R g nL cells slots Q w tgt lv st) (kf : ¬ y ≤ x → UW f R g nL cells slots Q w (pc + 3) lv st) : UW f R g nL cells slots Q w pc lv (.int y :: .int x :: st) := fun H locs ls h hl => lv_icmp_ge C.1 C.2.1 d ht (fun q => kt q H locs ls h hl) (fun q => kf q H locs ls h hl)
theorem uw_sub {lv2 : List (Nat × Value)} (ks : List Nat) (hl2 : lv_pick lv ks = lv2) (k : UW f R g nL cells slots Q w pc lv2 st) : UW f R g nL cells slots Q w pc lv st := fun H locs ls h hl => k H locs ls h (lv_sub hl ks hl2)
theorem uw_widen {c2 s2 : Nat} (h1 : cells ≤ c2) (h2 : slots ≤ s2) (k : UW f R g nL c2 s2 Q w pc lv st) : UW f R g nL cells slots Q w pc lv st := fun H locs ls h hl => W.widen h1 h2 (k H locs ls h hl)
theorem uw_obj (C : Cx f g cc nL own) {idx a : Nat} (hl : Cond.methodLink own idx objectInit ∈ bw) (d : decode cc pc = .ok (.invokespecial idx, 3)) (hf : 1 ≤ R.frames) (hlo : (st.map fun v => v.category).sum + 12 ≤ R.locals) (k : UW f R g nL cells slots Q w (pc + 3) lv st) : UW f R g nL cells slots Q w pc lv (.ref a :: st) := fun H locs ls h hl2 =>
  W.objInit C.1 C.2.1 C.2.2.2.1 (C.2.2.2.2.1 _ hl) (C.2.2.2.2.1 _ ob_link) (C.2.2.2.2.1 _ ob_code) rfl (by rw [C.2.2.1]; exact hl2.1) rfl d hf (by show 2 * 0 + _ + 12 ≤ _; omega) (W.eq (g2 := F0 (fm f) (pc + 3) ls st) rfl (k H locs ls h hl2))
theorem uw_look (C : Cx f g cc nL own) {dflt : Int} {ps : Array (Int × Int)} {len : Nat} {x : Int32} {off : Int} (d : decode cc pc = .ok (.lookupswitch dflt ps, len)) (hp : (ps.toList.zip (ps.toList.drop 1)).all (fun (a, next) => a.1 < next.1) = true) (ho : Op.lookupswitch.offset ps.toList dflt x.toInt = off) {tgt : Nat} (ht : (pc : Int) + off = (tgt : Int)) (k : UW f R g nL cells slots Q w tgt lv st) : UW f R g nL cells slots Q w pc lv (.int x :: st) := fun H locs ls h hl => lv_lookup C.1 C.2.1 d hp ho ht (k H locs ls h hl)
theorem uw_mmax (C : Cx f g cc nL own) {x y : Int32} {index : Nat} (hl : Cond.methodLink own index Lib.Math.max.name ∈ bw) (d : decode cc pc = .ok (.invokestatic index, 3)) (hf : 1 ≤ R.frames) (hlo : (st.map fun v => v.category).sum + 13 ≤ R.locals) (hc : cells ≤ R.cells) (hs : slots ≤ R.slots) (k : UW f R g nL cells slots Q w (pc + 3) lv (.int (if x < y then y else x) :: st)) : UW f R g nL cells slots Q w pc lv (.int y :: .int x :: st) := fun H locs ls h hl2 =>
  va_mmax C.1 C.2.1 (by rw [C.2.2.1]; exact hl2.1.symm) C.2.2.2.1 (C.2.2.2.2.1 _ hl) (C.2.2.2.2.1 _ (bw_at 95 (by decide +kernel) (by decide +kernel))) (C.2.2.2.2.1 _ bw_63) (C.2.2.2.2.1 _ (bw_at 96 (by decide +kernel) (by decide +kernel))) hf hlo hc hs d (k H locs ls h hl2)
theorem uw_new (C : Cx f g cc nL own) {w0 l : va_W} {CN : String} {T : u_T} {N ci index : Nat} {fl : List Value} (hc : vwCl[ci]? = some (CN, T, N)) (hin : ∀ w ∈ u_ws CN T N, w ∈ bw) (ty : Nat → FieldType) (hty : ∀ k, k < N → parseFieldDescriptor (T k).2.2.1 = some (ty k)) (h1 : Cond.classLink own index CN ∈ bw) (h2 : Cond.instantiable CN N ∈ bw) (h3 : Cond.initialized CN ∈ bw) (hfs : ∀ j, j < N → defaultValue (ty j) = vp_V fl j) (hcells : cells + 1 ≤ R.cells) (hslots : slots + N ≤ R.slots) (d : decode cc pc = .ok (.new index, 3))
    (k : ∀ q, UW f R g nL (cells + 1) (slots + N) Q (w0 ++ (l ++ [(q, .inr (ci, fl))])) (pc + 3) lv (.ref q :: st)) : UW f R g nL cells slots Q (w0 ++ l) pc lv st := by
  intro H locs ls h hl
  obtain ⟨g2, g3, g4, g5⟩ := id h
  refine va_new C.1 C.2.1 C.2.2.2.2.1 hin ty hty C.2.2.2.1 (C.2.2.2.2.1 _ h1) (C.2.2.2.2.1 _ h2) (C.2.2.2.2.1 _ h3) C.2.2.2.2.2.1 g2 g3 g4 g5 hc hfs hcells hslots d (fun q H1 hP hD hS => ?_)
  rw [List.append_assoc] at hP hD
  exact k q H1 locs ls ⟨hP, hD, hS, g5⟩ hl
theorem uw_newa (C : Cx f g cc nL own) {w0 l : va_W} {atype : ArrayType} {ty : FieldType} {cX : ClassId} (harr : Cond.arrayClass ty ∈ bw) (hty : newarray.typeOf atype = ty) (t0 : Nat) (ht : (gtys g)[t0]? = some (cX, ty)) (hRA : ∀ (U : State) (cA : ClassId), va_RA U cA ty → U.vm.findClass ("[" ++ ty.toString) = some cA) {n : Int32} {N : Nat} {a0 : vp_A} (ha : ∀ cA : ClassId, vp_cell cA a0 = arrV cA N (fun _ => defaultValue ty)) (hn : ¬ n < 0) (hN : n.toNatClampNeg = N) (hbytes : N * componentBytes ty ≤ 536870912) (hcells : cells + 1 ≤ R.cells) (hslots : slots + N ≤ R.slots) (d : decode cc pc = .ok (.newarray atype, 2))
    (k : ∀ q, UW f R g nL (cells + 1) (slots + N) Q (w0 ++ (l ++ [(q, .inl (cX, a0))])) (pc + 2) lv (.ref q :: st)) : UW f R g nL cells slots Q (w0 ++ l) pc lv (.int n :: st) := by
  intro H locs ls h hl
  obtain ⟨g2, g3, g4, g5⟩ := id h
  refine va_newa C.1 C.2.1 (by rw [hty]; exact C.2.2.2.2.1 _ harr) hty C.2.2.2.2.2.1 g2 g3 g4 g5 ha hn hN hbytes hcells hslots d (fun q cA H1 hK hP hD hS => ?_)
  have e1 := hRA _ _ (hK.2 (gtys g).length (cA, ty) (by rw [List.getElem?_append_right (Nat.le_refl _)]; simp)).2
  have e2 := hRA _ _ (C.2.2.2.2.2.1.2 t0 _ ht).2
  obtain rfl : cA = cX := Option.some.inj (e1.symm.trans e2)
  rw [List.append_assoc] at hP hD
  exact k q H1 locs ls ⟨hP, hD, hS, g5⟩ hl
theorem uw_newi (C : Cx f g cc nL own) {w0 l : va_W} {n : Int32} {N : Nat} (hn : ¬ n < 0) (hN : n.toNatClampNeg = N) (hbytes : N * 4 ≤ 536870912) (hcells : cells + 1 ≤ R.cells) (hslots : slots + N ≤ R.slots) (d : decode cc pc = .ok (.newarray .int, 2))
    (k : ∀ q, UW f R g nL (cells + 1) (slots + N) Q (w0 ++ (l ++ [(q, .inl (g.2.1.1, (N, .inl fun _ => 0)))])) (pc + 2) lv (.ref q :: st)) : UW f R g nL cells slots Q (w0 ++ l) pc lv (.int n :: st) :=
  uw_newa (ty := .int) C (bw_at 104 (by decide +kernel) (by decide +kernel)) rfl 0 rfl (fun _ _ h => h) (fun cA => rfl) hn hN hbytes hcells hslots d k
theorem uw_newz (C : Cx f g cc nL own) {w0 l : va_W} {n : Int32} {N : Nat} (hn : ¬ n < 0) (hN : n.toNatClampNeg = N) (hbytes : N * 1 ≤ 536870912) (hcells : cells + 1 ≤ R.cells) (hslots : slots + N ≤ R.slots) (d : decode cc pc = .ok (.newarray .boolean, 2))
    (k : ∀ q, UW f R g nL (cells + 1) (slots + N) Q (w0 ++ (l ++ [(q, .inl (g.2.1.2.1, (N, .inl fun _ => 0)))])) (pc + 2) lv (.ref q :: st)) : UW f R g nL cells slots Q (w0 ++ l) pc lv (.int n :: st) :=
  uw_newa (ty := .boolean) C (bw_at 1041 (by decide +kernel) (by decide +kernel)) rfl 1 rfl (fun _ _ h => h) (fun cA => rfl) hn hN hbytes hcells hslots d k
theorem uw_newl (C : Cx f g cc nL own) {w0 l : va_W} {n : Int32} {N : Nat} (hn : ¬ n < 0) (hN : n.toNatClampNeg = N) (hbytes : N * 8 ≤ 536870912) (hcells : cells + 1 ≤ R.cells) (hslots : slots + N ≤ R.slots) (d : decode cc pc = .ok (.newarray .long, 2))
    (k : ∀ q, UW f R g nL (cells + 1) (slots + N) Q (w0 ++ (l ++ [(q, .inl (g.2.1.2.2.1, (N, .inr (.inl fun _ => 0))))])) (pc + 2) lv (.ref q :: st)) : UW f R g nL cells slots Q (w0 ++ l) pc lv (.int n :: st) :=
  uw_newa (ty := .long) C (bw_at 1295 (by decide +kernel) (by decide +kernel)) rfl 2 rfl (fun _ _ h => h) (fun cA => rfl) hn hN hbytes hcells hslots d k
theorem uw_newq (C : Cx f g cc nL own) {w0 l : va_W} {CN : String} {cX : ClassId} {index : Nat} (hcl : Cond.classLink own index CN ∈ bw) (hov : va_AO CN (fs f)) (t0 : Nat) (ht : (gtys g)[t0]? = some (cX, .object CN)) {n : Int32} {N : Nat} (hn : ¬ n < 0) (hN : n.toNatClampNeg = N) (hbytes : N * 4 ≤ 536870912) (hcells : cells + 1 ≤ R.cells) (hslots : slots + N ≤ R.slots) (d : decode cc pc = .ok (.anewarray index, 3))
    (k : ∀ q, UW f R g nL (cells + 1) (slots + N) Q (w0 ++ (l ++ [(q, .inl (cX, N, .inr (.inr (.inr (.inr (fun _ => none))))))])) (pc + 3) lv (.ref q :: st)) : UW f R g nL cells slots Q (w0 ++ l) pc lv (.int n :: st) := by
  intro H locs ls h hl
  obtain ⟨g2, g3, g4, g5⟩ := id h
  refine va_newq C.1 C.2.1 C.2.2.2.1 (C.2.2.2.2.1 _ hcl) hov C.2.2.2.2.2.1 g2 g3 g4 g5 hn hN hbytes hcells hslots d (fun q cA H1 hK hP hD hS => ?_)
  obtain ⟨_, _, _, _, _, e1⟩ := (hK.2 (gtys g).length (cA, .object CN) (by rw [List.getElem?_append_right (Nat.le_refl _)]; simp)).2
  obtain ⟨_, _, _, _, _, e2⟩ := (C.2.2.2.2.2.1.2 t0 _ ht).2
  obtain rfl : cA = cX := Option.some.inj (e1.symm.trans e2)
  rw [List.append_assoc] at hP hD
  exact k q H1 locs ls ⟨hP, hD, hS, g5⟩ hl
theorem ap_get {α : Type} (w0 l : List α) (k : Nat) : (w0 ++ l)[w0.length + k]? = l[k]? := by
  rw [List.getElem?_append_right (by omega), Nat.add_sub_cancel_left]
theorem ap_set {α : Type} (w0 l : List α) (k : Nat) (x : α) : (w0 ++ l).set (w0.length + k) x = w0 ++ l.set k x := by
  rw [List.set_append_right _ _ (by omega), Nat.add_sub_cancel_left]
/-- a field of this: its cell is the first of the method's own -/
theorem uw_putF (C : Cx f g cc nL own) (hini : (fmeth f).name = "<init>") {w0 tl : va_W} {CN ref : String} {T : u_T} {N ci index a : Nat} {fl fl2 : List Value} {v : Value} (hc : vwCl[ci]? = some (CN, T, N)) (hin : ∀ w ∈ u_ws CN T N, w ∈ bw) (ty0 : Nat → FieldType) (hty : ∀ k, k < N → parseFieldDescriptor (T k).2.2.1 = some (ty0 k)) (hnm : ∀ a, a < N → ∀ b, b < N → a ≠ b → (T a).2.1 ≠ (T b).2.1) (k : Nat) (hk : k < N)
    (hlink : Cond.fieldLink own index ref (T k).2.1 (T k).2.2.1 ∈ bw) (href : (T k).1 = ref) (hfin : (T k).2.2.2 = true) (hdecl : (T k).1 = own) {ty : FieldType} (hd : parseFieldDescriptor (T k).2.2.1 = some ty) (hn : narrow ty v = v) (hfit : fits ty v = true) (hlen : k < fl.length) (hfl : fl.set k v = fl2) (d : decode cc pc = .ok (.putfield index, 3)) (kk : UW f R g nL cells slots Q (w0 ++ ((a, .inr (ci, fl2)) :: tl)) (pc + 3) lv st) : UW f R g nL cells slots Q (w0 ++ ((a, .inr (ci, fl)) :: tl)) pc lv (v :: .ref a :: st) := by
  subst hfl
  intro H locs ls h hl
  obtain ⟨g2, g3, g4, g5⟩ := id h
  refine va_putF C.1 C.2.1 C.2.2.2.2.1 hin ty0 hty hnm C.2.2.2.1 C.2.2.2.2.2.1 g2 g3 g4 (w0.length + 0) (by rw [ap_get]; rfl) hc k hk (C.2.2.2.2.1 _ hlink) (fun x hx => by rw [← href]; exact hx) hfin hini hdecl hd hn hfit hlen d (fun H1 locs1 hP hD hS => ?_)
  rw [ap_set] at hP hD
  exact kk H1 locs1 ls ⟨hP, hD, hS, g5⟩ hl
theorem uw_put (C : Cx f g cc nL own) {w0 tl : va_W} {CN ref : String} {T : u_T} {N ci index a : Nat} {fl fl2 : List Value} {v : Value} (hc : vwCl[ci]? = some (CN, T, N)) (hin : ∀ w ∈ u_ws CN T N, w ∈ bw) (ty0 : Nat → FieldType) (hty : ∀ k, k < N → parseFieldDescriptor (T k).2.2.1 = some (ty0 k)) (hnm : ∀ a, a < N → ∀ b, b < N → a ≠ b → (T a).2.1 ≠ (T b).2.1) (k : Nat) (hk : k < N)
    (hlink : Cond.fieldLink own index ref (T k).2.1 (T k).2.2.1 ∈ bw) (href : (T k).1 = ref) (hfin : (T k).2.2.2 = false) {ty : FieldType} (hd : parseFieldDescriptor (T k).2.2.1 = some ty) (hn : narrow ty v = v) (hfit : fits ty v = true) (hlen : k < fl.length) (hfl : fl.set k v = fl2) (d : decode cc pc = .ok (.putfield index, 3)) (kk : UW f R g nL cells slots Q (w0 ++ ((a, .inr (ci, fl2)) :: tl)) (pc + 3) lv st) : UW f R g nL cells slots Q (w0 ++ ((a, .inr (ci, fl)) :: tl)) pc lv (v :: .ref a :: st) := by
  subst hfl
  intro H locs ls h hl
  obtain ⟨g2, g3, g4, g5⟩ := id h
  refine va_put C.1 C.2.1 C.2.2.2.2.1 hin ty0 hty hnm C.2.2.2.1 C.2.2.2.2.2.1 g2 g3 g4 (w0.length + 0) (by rw [ap_get]; rfl) hc k hk (C.2.2.2.2.1 _ hlink) (fun x hx => by rw [← href]; exact hx) hfin hd hn hfit hlen d (fun H1 locs1 hP hD hS => ?_)
  rw [ap_set] at hP hD
  exact kk H1 locs1 ls ⟨hP, hD, hS, g5⟩ hl
theorem uw_get (C : Cx f g cc nL own) {w0 tl : va_W} {CN ref : String} {T : u_T} {N ci index a : Nat} {fl : List Value} {v : Value} (hc : vwCl[ci]? = some (CN, T, N)) (hin : ∀ w ∈ u_ws CN T N, w ∈ bw) (k : Nat) (hk : k < N)
    (hlink : Cond.fieldLink own index ref (T k).2.1 (T k).2.2.1 ∈ bw) (href : (T k).1 = ref) (hv : fl[k]? = some v) (d : decode cc pc = .ok (.getfield index, 3)) (kk : UW f R g nL cells slots Q (w0 ++ ((a, .inr (ci, fl)) :: tl)) (pc + 3) lv (v :: st)) : UW f R g nL cells slots Q (w0 ++ ((a, .inr (ci, fl)) :: tl)) pc lv (.ref a :: st) := by
  intro H locs ls h hl
  obtain ⟨g2, g3, g4, g5⟩ := id h
  exact va_get C.1 C.2.1 C.2.2.2.2.1 hin C.2.2.2.1 C.2.2.2.2.2.1 g2 (w0.length + 0) (by rw [ap_get]; rfl) hc k hk (C.2.2.2.2.1 _ hlink) (fun x hx => by rw [← href]; exact hx) hv d (kk H locs ls h hl)
theorem uw_alen (C : Cx f g cc nL own) {w0 l : va_W} (k0 : Nat) {a : Nat} {cA : ClassId} {x : vp_A} (he : l[k0]? = some (a, .inl (cA, x))) (t0 : Nat) {ty : FieldType} (ht : (gtys g)[t0]? = some (cA, ty)) {v : Int32} (hv : nI x.1 = v) (d : decode cc pc = .ok (.arraylength, 1)) (kk : UW f R g nL cells slots Q (w0 ++ l) (pc + 1) lv (.int v :: st)) : UW f R g nL cells slots Q (w0 ++ l) pc lv (.ref a :: st) := by
  intro H locs ls h hl
  obtain ⟨g2, g3, g4, g5⟩ := id h
  exact va_alen (x := x) C.1 C.2.1 C.2.2.2.2.2.1 g2 (w0.length + k0) t0 (by rw [ap_get]; exact he) ht hv d (kk H locs ls h hl)
theorem uw_ast (C : Cx f g cc nL own) {w0 l l2 : va_W} (k0 : Nat) {a : Nat} {cA : ClassId} {r : vw_C} {n v ci : Nat} {vs : List Value} {F : Nat → Option Nat} (he : l[k0]? = some (a, .inl (cA, n, .inr (.inr (.inr (.inr F)))))) (t0 : Nat) (ht : (gtys g)[t0]? = some (cA, .object r.1)) (hv : (v, .inr (ci, vs)) ∈ l) (hc : vwCl[ci]? = some r) {x : Int32} {i : Nat} (hx : x.toNatClampNeg = i) (hin : vp_in x n) (hl2 : l.set k0 (a, .inl (cA, n, .inr (.inr (.inr (.inr (va_up F i (some v))))))) = l2) (d : decode cc pc = .ok (.aastore, 1)) (kk : UW f R g nL cells slots Q (w0 ++ l2) (pc + 1) lv st) : UW f R g nL cells slots Q (w0 ++ l) pc lv (.ref v :: .int x :: .ref a :: st) := by
  subst hl2 hx
  intro H locs ls h hl
  obtain ⟨g2, g3, g4, g5⟩ := id h
  obtain ⟨qk, hqk⟩ := List.mem_iff_getElem?.mp hv
  refine va_astq C.1 C.2.1 C.2.2.2.2.2.1 g2 g3 g4 (w0.length + k0) t0 (w0.length + qk) ci (by rw [ap_get]; exact he) ht (by rw [ap_get]; exact hqk) hc hin d (fun H1 locs1 hP hD hS => ?_)
  rw [ap_set] at hP hD
  exact kk H1 locs1 ls ⟨hP, hD, hS, g5⟩ hl
theorem arrV_cg {cA : ClassId} {n : Nat} {F G : Nat → Value} (h : ∀ k, k < n → F k = G k) : arrV cA n F = arrV cA n G := by
  unfold arrV
  have : (Array.ofFn (n := n) fun j => F j.val) = Array.ofFn (n := n) fun j => G j.val := by
    congr 1
    funext j
    exact h j.val j.isLt
  rw [this]
/-- an array of references: only its first n count -/
theorem uw_acg {w0 l l2 : va_W} (k0 : Nat) {a : Nat} {cA : ClassId} {n : Nat} {F F2 : Nat → Option Nat} (he : l[k0]? = some (a, .inl (cA, n, .inr (.inr (.inr (.inr F)))))) (hF : ∀ k, k < n → F k = F2 k) (hl2 : l.set k0 (a, .inl (cA, n, .inr (.inr (.inr (.inr F2))))) = l2) (kk : UW f R g nL cells slots Q (w0 ++ l2) pc lv st) : UW f R g nL cells slots Q (w0 ++ l) pc lv st := by
  subst hl2
  intro H locs ls h hl
  obtain ⟨g2, g3, g4, g5⟩ := id h
  have he2 : (w0 ++ l)[w0.length + k0]? = some (a, .inl (cA, n, .inr (.inr (.inr (.inr F))))) := by rw [ap_get]; exact he
  have hP : va_P g.1 vwCl ((w0 ++ l).set (w0.length + k0) (a, .inl (cA, n, .inr (.inr (.inr (.inr F2)))))) H := by
    refine g2.set g3 he2 ?_ (fun q hq => rfl)
    have := g2 _ _ he2
    show H[a]? = some (vp_cell _ _)
    rw [vp_cell_q, ← arrV_cg (F := fun j => va_rf (F j)) (fun k hk => by rw [hF k hk])]
    exact this
  have hD : va_D (gA g) ((w0 ++ l).set (w0.length + k0) (a, .inl (cA, n, .inr (.inr (.inr (.inr F2)))))) := g3.set he2
  rw [ap_set] at hP hD
  exact kk H locs ls ⟨hP, hD, g4, g5⟩ hl
/-- a constructor's contract: on the last cell x; it leaves cells with post in its place -/
def CUn (g : Gx) (l : Launch) (y : MethodName) (cb : ByteArray) (nl : Nat) (rm : Room) (av : List Value) (x : Nat × va_E) (post : va_W → Prop) : Prop := ∀ w0 : va_W, Met l y (.code y cb nl none :: bw) rm (va_Pc av (hu g (w0 ++ [x]))) (va_Qv post (fun u t => hu g (w0 ++ u) t) (gA g)) rm.cells rm.slots (gA g)
theorem hu_blind {av : List Value} : FrameBlind (va_Pc av (hu g w)) := fun a U j mk q => by
  obtain ⟨q0, q1, q2, qK, qN, qU, qA⟩ := q
  exact ⟨q0, q1, q2, va_K.moved (u := U) (U := U.calling j mk a) (Vm.Alike.refl U.vm) qK, qN.same rfl, qU.same rfl, qA⟩
theorem hu_back {H : Heap} {locs : List Loc} (C : Cx f g cc nL own) (N : NU (fs f)) (h : Hu g w (fs f).heap H locs) {t : State} (ht : t.heap = H) (hW : (fs f).WarmedH t.vm) : hu g w t := by
  obtain ⟨h2, h3, h4, h5⟩ := h
  refine ⟨by rw [ht]; exact h2, h3, va_K.moved hW.alike C.2.2.2.2.2.1, ?_, N.go hW, fun q hq => h5 q (Nat.le_trans h4.1 (by rw [← ht]; exact hq))⟩
  rw [ht]
  exact C.2.2.2.2.2.2.2.go hW h4.2.1
theorem Hu.back {H0 H1 : Heap} {locs1 : List Loc} {t : State} (ht : t.heap = H1) (h : hu g w t) (hS : va_S (gA g) H0 H1 locs1) (h5 : ∀ q, H0.size ≤ q → gA g q) : Hu g w H0 H1 locs1 := by
  obtain ⟨h2, h3, -⟩ := h
  exact ⟨by rw [← ht]; exact h2, h3, hS, h5⟩
theorem cu_pre {H : Heap} {locs : List Loc} (C : Cx f g cc nL own) (N : NU (fs f)) (h : Hu g w (fs f).heap H locs) {av : List Value} : ∀ U : State, U.heap = H → (fs f).WarmedH U.vm → va_Pc av (hu g w) av.toArray U := fun U hU hW => ⟨rfl, hu_back C N h hU hW⟩
theorem cu_entry {l : Launch} {y : MethodName} {cb : ByteArray} {nl : Nat} {ret : Option FieldType} {rm : Room} {av : List Value} {Qc : Array Value → State → Outcome → State → Prop} {lv0 : List (Nat × Value)} (hy : plainFor y = true) (ho : y.cls = own) (hlen : (lg_sl av).length ≤ nl) (hlv : lv_args 0 av = lv0)
    (body : ∀ f : Fx, f.2.1 = l → Cx f g cb nl own → NU (fs f) → (fmeth f).sig.returnType = ret → (fmeth f).name = y.name → UW f rm g nl 0 0 (MQ (fbelow f) Qc (fargs f) (fs f) rm.cells rm.slots (gA g)) w 0 lv0 []) : Met l y (.code y cb nl ret :: bw) rm (va_Pc av (hu g w)) Qc rm.cells rm.slots (gA g) := by
  refine met_ofW (cc := cb) (maxL := nl) (ret := ret) hy rfl ?_
  intro p e s m args below meth c s₁ B hml hv
  obtain ⟨rfl, h2, h3, hK, hN, hU, hA⟩ := hv
  have hl := lv_entry av (n := nl) hlen
  rw [lg_entry_eq]
  rw [hlv] at hl
  exact body (p, l, e, s, m, _, below, meth, c) rfl ⟨B.exec, B.bytes, hml, by rw [← ho]; exact findClass_of_methodNamed B.named, fun w hw => atoms_spec (ws := .code y cb nl ret :: bw) B.pre w (List.mem_cons_of_mem _ hw), hK, B.notSynchronized, hN⟩ hU B.returns (name_of_methodNamed B.named B.method).1 s.heap [] _ ⟨h2, h3, va_S.rf, hA⟩ hl
theorem uw_nret (C : Cx f g cc nL own) (N : NU (fs f)) {w0 u : va_W} {post : va_W → Prop} (hr : (fmeth f).sig.returnType = none) (d : decode cc pc = .ok (.return_, 1)) (h : post u) : UW f R g nL cells slots (MQ (fbelow f) (va_Qv post (fun u t => hu g (w0 ++ u) t) (gA g)) (fargs f) (fs f) cells slots (gA g)) (w0 ++ u) pc lv [] := fun H locs ls hh hl =>
  W.vret C.1 C.2.1 hr (fun t ht hW => ⟨⟨u, rfl, h, hu_back C N hh ht hW⟩, (hh.2.2.1).F ht⟩) (hh.2.2.1).2.2 d C.2.2.2.2.2.2.1
theorem uw_cI (C : Cx f g cc nL own) (N : NU (fs f)) {w0 l0 : va_W} {x : Nat × va_E} {y : MethodName} {cb : ByteArray} {nl n index : Nat} {rm : Room} {As rest : List Value} {b : Nat} {post : va_W → Prop} (hM : IOK y cb nl n) (hl : Cond.methodLink own index y ∈ bw) (d : decode cc pc = .ok (.invokespecial index, 3)) (hc : CUn g f.2.1 y cb nl rm (.ref b :: As) x post) (hn : As.length = n) (hR : rm.frames + 1 ≤ R.frames ∧ 8 + (nl + 11) + rm.locals ≤ R.locals) (hrm : (rest.map fun v => v.category).sum ≤ 8) {c2 s2 : Nat} (hc2 : cells + rm.cells = c2) (hs2 : slots + rm.slots = s2) (hf : c2 ≤ R.cells ∧ s2 ≤ R.slots) (hst : As.reverse ++ .ref b :: rest = st)
    (k : ∀ u, post u → UW f R g nL c2 s2 Q (w0 ++ (l0 ++ u)) (pc + 3) lv rest) : UW f R g nL cells slots Q (w0 ++ (l0 ++ [x])) pc lv st := by
  subst hst hc2 hs2
  rw [← List.append_assoc]
  obtain ⟨h1, h2, h4, h6, h5⟩ := hM
  exact fun H locs ls h hl2 => va_callv (va_runI (As := As) (rest := rest) (cx_fix C) (hc (w0 ++ l0)) ⟨callB_of n C.2.2.2.2.1 (bw_sub h4) rfl rfl rfl (C.2.2.2.2.1 _ h2) (C.2.2.2.2.1 _ hl) h5 hR, h6, C.2.2.2.2.1 _ h1⟩ ⟨hu_blind, cu_pre C N h⟩ rfl hn hl2.1 rfl (lv_room hrm) d hf) h.2.2.1 (fun _ _ z => z) (fun _ z => z) (fun u t H1 locs1 ht hvm hp hB _ _ hS => by
    have := k u hp
    rw [← List.append_assoc] at this
    exact this H1 locs1 ls (Hu.back ht hB hS h.2.2.2) hl2)
/-- .. a private one, of a nest mate -/
theorem uw_cN (C : Cx f g cc nL own) (N : NU (fs f)) {w0 l0 : va_W} {x : Nat × va_E} {y : MethodName} {cb : ByteArray} {nl n index : Nat} {host : String} {rm : Room} {As rest : List Value} {b : Nat} {post : va_W → Prop} (hM : IOK y cb nl n) (hl : va_Nw (.methodLinkNest own index y host) (fs f)) (d : decode cc pc = .ok (.invokespecial index, 3)) (hc : CUn g f.2.1 y cb nl rm (.ref b :: As) x post) (hn : As.length = n) (hR : rm.frames + 1 ≤ R.frames ∧ 8 + (nl + 11) + rm.locals ≤ R.locals) (hrm : (rest.map fun v => v.category).sum ≤ 8) {c2 s2 : Nat} (hc2 : cells + rm.cells = c2) (hs2 : slots + rm.slots = s2) (hf : c2 ≤ R.cells ∧ s2 ≤ R.slots) (hst : As.reverse ++ .ref b :: rest = st)
    (k : ∀ u, post u → UW f R g nL c2 s2 Q (w0 ++ (l0 ++ u)) (pc + 3) lv rest) : UW f R g nL cells slots Q (w0 ++ (l0 ++ [x])) pc lv st := by
  subst hst hc2 hs2
  rw [← List.append_assoc]
  obtain ⟨h1, h2, h4, h6, h5⟩ := hM
  exact fun H locs ls h hl2 => va_callv (va_runIN (As := As) (rest := rest) (cx_fix C) (hc (w0 ++ l0)) ⟨va_cnB n C.2.2.2.2.1 (bw_sub h4) rfl rfl rfl hl (C.2.2.2.2.1 _ h2) h5 hR, h6, C.2.2.2.2.1 _ h1⟩ ⟨hu_blind, cu_pre C N h⟩ rfl hn hl2.1 rfl (lv_room hrm) d hf) h.2.2.1 (fun _ _ z => z) (fun _ z => z) (fun u t H1 locs1 ht hvm hp hB _ _ hS => by
    have := k u hp
    rw [← List.append_assoc] at this
    exact this H1 locs1 ls (Hu.back ht hB hS h.2.2.2) hl2)
/-- a static method that leaves the world -/
def CUi (g : Gx) (l : Launch) (y : MethodName) (cb : ByteArray) (nl : Nat) (rm : Room) (av : List Value) (v : Int32) : Prop := ∀ w : va_W, Met l y (.code y cb nl (some .int) :: bw) rm (va_Pc av (hu g w)) (va_Qi (fun r u => r = v ∧ u = w) (fun u t => hu g u t) (gA g)) rm.cells rm.slots (gA g)
theorem uw_iret (C : Cx f g cc nL own) (N : NU (fs f)) {v r : Int32} (hr : (fmeth f).sig.returnType = some .int) (d : decode cc pc = .ok (.ireturn, 1)) (h : r = v) : UW f R g nL cells slots (MQ (fbelow f) (va_Qi (fun r u => r = v ∧ u = w) (fun u t => hu g u t) (gA g)) (fargs f) (fs f) cells slots (gA g)) w pc lv [.int r] := fun H locs ls hh hl =>
  W.iret C.1 C.2.1 hr (fun t ht hW => ⟨⟨r, w, rfl, ⟨h, rfl⟩, hu_back C N hh ht hW⟩, (hh.2.2.1).F ht⟩) (hh.2.2.1).2.2 d C.2.2.2.2.2.2.1
theorem uw_cS (C : Cx f g cc nL own) (N : NU (fs f)) {y : MethodName} {cb : ByteArray} {nl n index : Nat} {rm : Room} {As rest : List Value} {v : Int32} (hM : SOK y cb nl (some .int) n) (hl : Cond.methodLink own index y ∈ bw) (d : decode cc pc = .ok (.invokestatic index, 3)) (hc : CUi g f.2.1 y cb nl rm As v) (hn : As.length = n) (hR : rm.frames + 1 ≤ R.frames ∧ 8 + (nl + 11) + rm.locals ≤ R.locals) (hrm : (rest.map fun v => v.category).sum ≤ 8) {c2 s2 : Nat} (hc2 : cells + rm.cells = c2) (hs2 : slots + rm.slots = s2) (hf : c2 ≤ R.cells ∧ s2 ≤ R.slots) (hst : As.reverse ++ rest = st)
    (k : UW f R g nL c2 s2 Q w (pc + 3) lv (.int v :: rest)) : UW f R g nL cells slots Q w pc lv st := by
  subst hst hc2 hs2
  exact fun H locs ls h hl2 => va_calli (va_runS (As := As) (rest := rest) (cx_fix C) (hc w) (cx_S C hM hl hR) ⟨hu_blind, cu_pre C N h⟩ rfl hn hl2.1 rfl (lv_room hrm) d hf) h.2.2.1 (fun _ _ z => z) (fun _ z => z) (fun r u t H1 locs1 ht hvm hp hB _ _ hS => by
    obtain ⟨rfl, rfl⟩ := hp
    exact k H1 locs1 ls (Hu.back ht hB hS h.2.2.2) hl2)
end UR
