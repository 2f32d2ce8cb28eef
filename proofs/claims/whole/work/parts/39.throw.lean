section TH
variable {f : Fx} {R : Room} {g : Gx} {cc : ByteArray} {nL cells slots pc : Nat} {own : String} {Q : State → Prop} {S : St} {lv : List (Nat × Value)} {st : List Value}
/-- the world behind a throw -/
def hwx (g : Gx) (S : St) (U : State) : Prop := (∃ Gb, gw_rows S Gb ∧ va_P g.1 vwCl (wl g S Gb) U.heap ∧ va_D (gA g) (wl g S Gb)) ∧ va_K g.1 vwCl (gtys g) U ∧ ∀ q, U.heap.size ≤ q → gA g q
def XCx (g : Gx) (T0 : List (Nat × Nat × Nat)) (E : String → St → Prop) : String → State → State → Prop := vx_X (fun _ : St => True) (fun e u t => (E e u ∧ u.2.2.1 = T0) ∧ hwx g u t) (gA g)
abbrev Qxi (f : Fx) (g : Gx) (mc ms : Nat) (T0 : List (Nat × Nat × Nat)) (P : Int32 → St → Prop) (E : String → St → Prop) : State → Prop := vx_MQ (fbelow f) (va_Qi (fun r S2 => P r S2 ∧ S2.2.2.1 = T0) (hw g) (gA g)) (XCx g T0 E) (fargs f) (fs f) mc ms (gA g)
abbrev Qxv (f : Fx) (g : Gx) (mc ms : Nat) (T0 : List (Nat × Nat × Nat)) (P : St → Prop) (E : String → St → Prop) : State → Prop := vx_MQ (fbelow f) (va_Qv (fun S2 => P S2 ∧ S2.2.2.1 = T0) (hw g) (gA g)) (XCx g T0 E) (fargs f) (fs f) mc ms (gA g)
/-- contracts of methods that may throw -/
def CXi (g : Gx) (l : Launch) (y : MethodName) (cb : ByteArray) (nl : Nat) (ret : Option FieldType) (rm : Room) (av : List Value) (S : St) (P : Int32 → St → Prop) (E : String → St → Prop) : Prop := vx_Met l y (.code y cb nl ret :: bw) rm (va_Pc av (hw g S)) (va_Qi (fun r S2 => P r S2 ∧ S2.2.2.1 = S.2.2.1) (hw g) (gA g)) (XCx g S.2.2.1 E) rm.cells rm.slots (gA g)
def CXv (g : Gx) (l : Launch) (y : MethodName) (cb : ByteArray) (nl : Nat) (ret : Option FieldType) (rm : Room) (av : List Value) (S : St) (P : St → Prop) (E : String → St → Prop) : Prop := vx_Met l y (.code y cb nl ret :: bw) rm (va_Pc av (hw g S)) (va_Qv (fun S2 => P S2 ∧ S2.2.2.1 = S.2.2.1) (hw g) (gA g)) (XCx g S.2.2.1 E) rm.cells rm.slots (gA g)
theorem ww_xiret (C : Cx f g cc nL own) {T0 : List (Nat × Nat × Nat)} {P : Int32 → St → Prop} {E : String → St → Prop} {v : Int32} (hr : (fmeth f).sig.returnType = some .int) (d : decode cc pc = .ok (.ireturn, 1)) (hT : S.2.2.1 = T0) (h : P v S) : WW f R g nL cells slots (Qxi f g cells slots T0 P E) S pc lv [.int v] := fun H locs ls hh hl => vx_ret (ww_iret (P := P) (T0 := T0) C hr d hT h H locs ls hh hl)
theorem ww_xvret (C : Cx f g cc nL own) {T0 : List (Nat × Nat × Nat)} {P : St → Prop} {E : String → St → Prop} (hr : (fmeth f).sig.returnType = none) (d : decode cc pc = .ok (.return_, 1)) (hT : S.2.2.1 = T0) (h : P S) : WW f R g nL cells slots (Qxv f g cells slots T0 P E) S pc lv [] := fun H locs ls hh hl => vx_ret (ww_vret (P := P) (T0 := T0) C hr d hT h H locs ls hh hl)
theorem cx_entry {l : Launch} {y : MethodName} {cb : ByteArray} {nl : Nat} {ret : Option FieldType} {rm : Room} {av : List Value} {Qc : Array Value → State → Outcome → State → Prop} {XC : String → State → State → Prop} {lv0 : List (Nat × Value)} (hy : plainName y.cls = true) (ho : y.cls = own) (hlen : (lg_sl av).length ≤ nl) (hlv : lv_args 0 av = lv0)
    (body : rowsLe S → ∀ f : Fx, f.2.1 = l → Cx f g cb nl own → (fmeth f).sig.returnType = ret → (∀ x ∈ (fcode f).exceptionTable.toList, False) → WW f rm g nl 0 0 (vx_MQ (fbelow f) Qc XC (fargs f) (fs f) rm.cells rm.slots (gA g)) S 0 lv0 []) : vx_Met l y (.code y cb nl ret :: bw) rm (va_Pc av (hw g S)) Qc XC rm.cells rm.slots (gA g) := by
  refine vx_ofW (cc := cb) (maxL := nl) (ret := ret) hy rfl ?_
  intro p e s m args below meth c s₁ B hml hex hv
  obtain ⟨rfl, ⟨Gb, h1, h2, h3⟩, hK, hN, hA⟩ := hv
  have hl := lv_entry av (n := nl) hlen
  rw [lg_entry_eq]
  rw [hlv] at hl
  exact body (fun r hr => (h1 r hr).1) (p, l, e, s, m, _, below, meth, c) rfl ⟨B.exec, B.bytes, hml, by rw [← ho]; exact findClass_of_methodNamed B.named, fun w hw => atoms_spec (ws := .code y cb nl ret :: bw) B.pre w (List.mem_cons_of_mem _ hw), hK, B.notSynchronized, hN⟩ B.returns hex s.heap [] _ ⟨Gb, h1, h2, h3, va_S.rf, hA⟩ hl
/-- the three kinds of throws: their words -/
def tx_sup : List String := ["java/lang/RuntimeException", "java/lang/Exception"]
def TXok (ik ic : Nat) (cls : String) : Prop := Bundle.fit cls = true ∧ Cond.classLink RX10 ik cls ∈ bw ∧ Cond.initialized cls ∈ bw ∧ (∀ w ∈ (vx_atS RX10 ic cls tx_sup).filter goodWord, w ∈ bw) ∧ (∀ w ∈ (vx_atS RX10 ic cls tx_sup).filter (fun w => !goodWord w), w ∈ ([.castable cls cls, .declares (Bundle.initS "java/lang/RuntimeException"), .declares (Bundle.initS "java/lang/Exception"), .declares (Bundle.initS Bundle.tN)] : List Cond)) ∧ (∀ w ∈ Cond.classLink RX10 ik cls :: Cond.initialized cls :: vx_atS RX10 ic cls tx_sup, vx_ot w = true)
theorem tx_iae : TXok 46 50 nx_iae := ⟨by decide +kernel, bw_253, bw_73, fun w h => List.mem_filter.mpr ⟨(by decide +kernel : ∀ w ∈ (vx_atS RX10 50 nx_iae tx_sup).filter goodWord, w ∈ lw_tbl) w h, (List.mem_filter.mp h).2⟩, by decide +kernel, by decide +kernel⟩
theorem tx_ise : TXok 57 61 nx_ise := ⟨by decide +kernel, bw_325, bw_74, fun w h => List.mem_filter.mpr ⟨(by decide +kernel : ∀ w ∈ (vx_atS RX10 61 nx_ise tx_sup).filter goodWord, w ∈ lw_tbl) w h, (List.mem_filter.mp h).2⟩, by decide +kernel, by decide +kernel⟩
theorem tx_ioe : TXok 171 175 nx_ioe := ⟨by decide +kernel, bw_844, bw_79, fun w h => List.mem_filter.mpr ⟨(by decide +kernel : ∀ w ∈ (vx_atS RX10 175 nx_ioe tx_sup).filter goodWord, w ∈ lw_tbl) w h, (List.mem_filter.mp h).2⟩, by decide +kernel, by decide +kernel⟩
theorem nx_cast {U : State} {H : Heap} {cls : String} (h : NX g U H) (hc : cls = nx_iae ∨ cls = nx_ise ∨ cls = nx_ioe) : va_Nw (.castable cls cls) U := by
  rcases hc with rfl | rfl | rfl
  · exact h.1.2.1
  · exact h.1.2.2.1
  · exact h.1.2.2.2.1
/-- 'throw new E("text")' in FontPacker -/
theorem ww_throw (C : Cx f g cc nL RX10) (htr : f.2.1.stackTraces = false) (hex : ∀ x ∈ (fcode f).exceptionTable.toList, False) {T0 : List (Nat × Nat × Nat)} {E : String → St → Prop} {Qc : Array Value → State → Outcome → State → Prop} {cls text : String} {ik is ic mc ms : Nat} (hx : TXok ik ic cls) (hcl : cls = nx_iae ∨ cls = nx_ise ∨ cls = nx_ioe) (hs : (is, text) ∈ nx_str)
    (d0 : decode cc pc = .ok (.new ik, 3)) (d3 : decode cc (pc + 3) = .ok (.dup, 1)) (d4 : decode cc (pc + 4) = .ok (.ldc is, 2)) (d6 : decode cc (pc + 6) = .ok (.invokespecial ic, 3)) (d9 : decode cc (pc + 9) = .ok (.athrow, 1))
    (hRf : 5 < R.frames) (hRl : (st.map fun v => v.category).sum + 82 ≤ R.locals) (hRc : cells + 1 ≤ R.cells) (hRs : slots + 6 ≤ R.slots) (hc : cells + 1 ≤ mc) (hs2 : slots + 6 ≤ ms) (hT : S.2.2.1 = T0) (h : E cls S) : WW f R g nL cells slots (vx_MQ (fbelow f) Qc (XCx g T0 E) (fargs f) (fs f) mc ms (gA g)) S pc lv st := by
  intro H locs ls hh hl
  obtain ⟨x1, x2, x3, x4, x5, x6⟩ := hx
  have hN := C.2.2.2.2.2.2.2
  obtain ⟨sa, hsa⟩ := hN.2.1 _ hs
  obtain ⟨Gb, g1, g2, g3, g4, g5⟩ := id hh
  refine vx_throwS (A := gA g) (names := tx_sup) (cls := cls) (own := RX10) (text := text) (sa := sa) C.1 C.2.1 htr C.2.2.2.1 x1 (by decide +kernel) (C.2.2.2.2.1 _ x2) (C.2.2.2.2.1 _ x3) hsa (vx_hat (fun w hw => C.2.2.2.2.1 _ (x4 w hw)) x5 (vx_c (va_Nw.use rfl (nx_cast hN hcl)) (vx_c (va_Nw.use rfl hN.1.2.2.2.2.1) (vx_c (va_Nw.use rfl hN.1.2.2.2.2.2.1) (vx_c (va_Nw.use rfl hN.1.2.2.2.2.2.2.1) vx_n))))) x6 hN.2.2.1 hN.2.2.2 g4 (by rw [C.2.2.1]; exact hl.1) d0 d3 d4 d6 d9 (fun x hx => (hex x hx).elim) (by show 2 + 3 < _; omega) (by show _ + (13 * (2 + 1) + 43) ≤ _; omega) hRc hRs C.2.2.2.2.2.2.1 (fun t hal hsz hk => ?_) g4.2.2 hc hs2
  refine ⟨S, trivial, ⟨⟨h, hT⟩, ⟨Gb, g1, g2.kept (fun k q hq => hk _ (vx_lt g2 hq)), g3⟩, va_K.moved hal C.2.2.2.2.2.1, fun q hq => g5 q (Nat.le_trans g4.1 (Nat.le_trans hsz hq))⟩, Nat.le_trans g4.1 hsz, fun q h1 h2 => ?_⟩
  rw [hk q (Nat.lt_of_lt_of_le h1 g4.1)]
  exact g4.2.1 q h1 h2
theorem Hp.backx {H0 H1 : Heap} {locs1 : List Loc} {S2 : St} {t : State} (ht : t.heap = H1) (h : hwx g S2 t) (hS : va_S (gA g) H0 H1 locs1) (h5 : ∀ q, H0.size ≤ q → gA g q) : Hp g S2 H0 H1 locs1 := by
  obtain ⟨⟨Gb, h1, h2, h3⟩, -, -⟩ := h
  exact ⟨Gb, h1, by rw [← ht]; exact h2, h3, hS, h5⟩
/-- a call of a method that may throw; a throw goes on to the caller -/
theorem ww_xVv (C : Cx f g cc nL own) (hex : ∀ x ∈ (fcode f).exceptionTable.toList, False) {y : MethodName} {CN : String} {cb : ByteArray} {nl n index mc ms : Nat} {ret : Option FieldType} {rm : Room} {As rest : List Value} {b : Nat} {T0 : List (Nat × Nat × Nat)} {P : St → Prop} {E E2 : String → St → Prop} {Qc : Array Value → State → Outcome → State → Prop} (hM : MOK y CN cb nl ret n) (hl : Cond.methodLink own index y ∈ bw) (d : decode cc pc = .ok (.invokevirtual index, 3)) (hc : CXv g f.2.1 y cb nl ret rm (.ref b :: As) S P E2) (hrc : Recv g S CN b) (hn : As.length = n) (hR : rm.frames + 1 ≤ R.frames ∧ 8 + (nl + 11) + rm.locals ≤ R.locals) (hrm : (rest.map fun v => v.category).sum ≤ 8) {c2 s2 : Nat} (hc2 : cells + rm.cells = c2) (hs2 : slots + rm.slots = s2) (hf : c2 ≤ R.cells ∧ s2 ≤ R.slots) (hmc : c2 ≤ mc) (hms : s2 ≤ ms) (hst : As.reverse ++ .ref b :: rest = st) (hT : S.2.2.1 = T0)
    (kx : ∀ (e : String) (S2 : St), E2 e S2 → E e S2)
    (k : ∀ (S2 : St), P S2 → S2.2.2.1 = S.2.2.1 → WW f R g nL c2 s2 (vx_MQ (fbelow f) Qc (XCx g T0 E) (fargs f) (fs f) mc ms (gA g)) S2 (pc + 3) lv rest) : WW f R g nL cells slots (vx_MQ (fbelow f) Qc (XCx g T0 E) (fargs f) (fs f) mc ms (gA g)) S pc lv st := by
  subst hst hc2 hs2
  intro H locs ls h hl2
  refine vx_callv (vx_runV (As := As) (rest := rest) (cx_fix C) hc (cx_V C hM hl hR) ⟨hw_blind, cx_recv C h hrc, cx_pre C h⟩ rfl hn hl2.1 rfl (lv_room hrm) d hf) (Hp.fr h) (fun _ _ z => z) (fun _ z => z) (fun _ _ z => z) (fun e ce q9 u t H1 locs1 ht hvm _ hB _ _ hS hcell hv hcls => ?_) (fun u t H1 locs1 ht hvm hp hB _ _ hS => k u hp.1 hp.2 H1 locs1 ls (Hp.back ht hB hS (Hp.A h)) hl2)
  obtain ⟨⟨hE, hT2⟩, hw2⟩ := hB
  refine vx_out (fun x hx => (hex x hx).elim) C.2.2.2.2.2.2.1 hcell hv hcls (fun t2 ht2 hal => ?_) hS.2.2 hmc hms
  obtain ⟨⟨Gb, h1, h2, h3⟩, hK, hA⟩ := hw2
  refine ⟨u, trivial, ⟨⟨kx e u hE, hT2.trans hT⟩, ⟨Gb, h1, by rw [ht2, ← ht]; exact h2, h3⟩, va_K.moved hal C.2.2.2.2.2.1, fun q hq => hA q (by rw [ht, ← ht2]; exact hq)⟩, hS.F ht2⟩
end TH
