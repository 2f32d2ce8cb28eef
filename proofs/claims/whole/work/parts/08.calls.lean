section WC
variable {f : Fx} {R : Room} {g : Gx} {cc : ByteArray} {nL cells slots pc : Nat} {own : String} {Q : State → Prop} {S : St} {lv : List (Nat × Value)} {st : List Value}
/-- contracts: from any state that holds S the method ends, answers r, and holds S2, with P r S2 -/
def CMi (g : Gx) (l : Launch) (y : MethodName) (cb : ByteArray) (nl : Nat) (ret : Option FieldType) (rm : Room) (av : List Value) (S : St) (P : Int32 → St → Prop) : Prop := Met l y (.code y cb nl ret :: bw) rm (va_Pc av (hw g S)) (va_Qi (fun r S2 => P r S2 ∧ S2.2.2.1 = S.2.2.1) (hw g) (gA g)) rm.cells rm.slots (gA g)
def CMv (g : Gx) (l : Launch) (y : MethodName) (cb : ByteArray) (nl : Nat) (ret : Option FieldType) (rm : Room) (av : List Value) (S : St) (P : St → Prop) : Prop := Met l y (.code y cb nl ret :: bw) rm (va_Pc av (hw g S)) (va_Qv (fun S2 => P S2 ∧ S2.2.2.1 = S.2.2.1) (hw g) (gA g)) rm.cells rm.slots (gA g)
def CMr (g : Gx) (l : Launch) (y : MethodName) (cb : ByteArray) (nl : Nat) (ret : Option FieldType) (rm : Room) (av : List Value) (S : St) (i : Nat) : Prop := Met l y (.code y cb nl ret :: bw) rm (va_Pc av (hw g S)) (va_Qr (fun S2 : St => S2 = S) (fun S2 a t => a = gad g i ∧ hw g S2 t) (gA g)) rm.cells rm.slots (gA g)
abbrev Qi (f : Fx) (g : Gx) (mc ms : Nat) (T0 : List (Nat × Nat × Nat)) (P : Int32 → St → Prop) : State → Prop := MQ (fbelow f) (va_Qi (fun r S2 => P r S2 ∧ S2.2.2.1 = T0) (hw g) (gA g)) (fargs f) (fs f) mc ms (gA g)
abbrev Qv (f : Fx) (g : Gx) (mc ms : Nat) (T0 : List (Nat × Nat × Nat)) (P : St → Prop) : State → Prop := MQ (fbelow f) (va_Qv (fun S2 => P S2 ∧ S2.2.2.1 = T0) (hw g) (gA g)) (fargs f) (fs f) mc ms (gA g)
abbrev Qr (f : Fx) (g : Gx) (mc ms : Nat) (S : St) (i : Nat) : State → Prop := MQ (fbelow f) (va_Qr (fun S2 : St => S2 = S) (fun S2 a t => a = gad g i ∧ hw g S2 t) (gA g)) (fargs f) (fs f) mc ms (gA g)
theorem hw_back {H : Heap} {locs : List Loc} (C : Cx f g cc nL own) (h : Hp g S (fs f).heap H locs) {t : State} (ht : t.heap = H) (hW : (fs f).WarmedH t.vm) : hw g S t := by
  obtain ⟨Gb, h1, h2, h3, h4, h5⟩ := h
  refine ⟨⟨Gb, h1, by rw [ht]; exact h2, h3⟩, va_K.moved hW.alike C.2.2.2.2.2.1, ?_, fun q hq => h5 q (Nat.le_trans h4.1 (by rw [← ht]; exact hq))⟩
  rw [ht]
  exact C.2.2.2.2.2.2.2.go hW h4.2.1
theorem Hp.fr {H0 H : Heap} {locs : List Loc} (h : Hp g S H0 H locs) : va_S (gA g) H0 H locs := by obtain ⟨Gb, h1, h2, h3, h4, h5⟩ := h; exact h4
theorem ww_iret (C : Cx f g cc nL own) {T0 : List (Nat × Nat × Nat)} {P : Int32 → St → Prop} {v : Int32} (hr : (fmeth f).sig.returnType = some .int) (d : decode cc pc = .ok (.ireturn, 1)) (hT : S.2.2.1 = T0) (h : P v S) : WW f R g nL cells slots (Qi f g cells slots T0 P) S pc lv [.int v] := fun H locs ls hh hl =>
  W.iret C.1 C.2.1 hr (fun t ht hW => ⟨⟨v, S, rfl, ⟨h, hT⟩, hw_back C hh ht hW⟩, (Hp.fr hh).F ht⟩) (Hp.fr hh).2.2 d C.2.2.2.2.2.2.1
theorem ww_zret (C : Cx f g cc nL own) {T0 : List (Nat × Nat × Nat)} {P : Int32 → St → Prop} {v : Int32} (hr : (fmeth f).sig.returnType = some .boolean) (d : decode cc pc = .ok (.ireturn, 1)) (hT : S.2.2.1 = T0) (hz : v = 0 ∨ v = 1) (h : P v S) : WW f R g nL cells slots (Qi f g cells slots T0 P) S pc lv [.int v] := fun H locs ls hh hl =>
  W.zret C.1 C.2.1 hr (by rcases hz with rfl | rfl <;> rfl) (fun t ht hW => ⟨⟨v, S, rfl, ⟨h, hT⟩, hw_back C hh ht hW⟩, (Hp.fr hh).F ht⟩) (Hp.fr hh).2.2 d C.2.2.2.2.2.2.1
theorem ww_vret (C : Cx f g cc nL own) {T0 : List (Nat × Nat × Nat)} {P : St → Prop} (hr : (fmeth f).sig.returnType = none) (d : decode cc pc = .ok (.return_, 1)) (hT : S.2.2.1 = T0) (h : P S) : WW f R g nL cells slots (Qv f g cells slots T0 P) S pc lv [] := fun H locs ls hh hl =>
  W.vret C.1 C.2.1 hr (fun t ht hW => ⟨⟨S, rfl, ⟨h, hT⟩, hw_back C hh ht hW⟩, (Hp.fr hh).F ht⟩) (Hp.fr hh).2.2 d C.2.2.2.2.2.2.1
theorem ww_aret (C : Cx f g cc nL own) {i : Nat} {cn : String} (hr : (fmeth f).sig.returnType = some (.object cn)) (d : decode cc pc = .ok (.areturn, 1)) : WW f R g nL cells slots (Qr f g cells slots S i) S pc lv [.ref (gad g i)] := fun H locs ls hh hl =>
  W.aret C.1 C.2.1 hr (Or.inl ⟨_, rfl⟩) (Or.inr ⟨_, rfl⟩) (fun t ht hW => ⟨⟨S, gad g i, rfl, rfl, rfl, hw_back C hh ht hW⟩, (Hp.fr hh).F ht⟩) (Hp.fr hh).2.2 d C.2.2.2.2.2.2.1
/-- as the kit's Met.ofW, for a method of any class that has no row among the natives -/
theorem met_ofW {l : Launch} {y : MethodName} {ws ws' : List Cond} {rm : Room} {Pc : Array Value → State → Prop} {Qc : Array Value → State → Outcome → State → Prop} {mc ms : Nat} {free : Addr → Prop} {cc : ByteArray} {maxL : Nat} {ret : Option FieldType}
    (hy : plainFor y = true) (hw : ws = Cond.code y cc maxL ret :: ws')
    (body : ∀ p e s m args below meth c s₁, BodyLoose p l y (headSpec ws rm) cc maxL ret e s m args below meth c s₁ → c.maxLocals = maxL → Pc args s →
      W p l e (headSpec ws rm).room s m args below meth c s.heap [] 0 0 (MQ below Qc args s mc ms free) (entryFrame m args maxL)) : Met l y ws rm Pc Qc mc ms free := by
  refine MetFree.of_bodySF (code := cc) (maxLocals := maxL) (ret := ret) hy ?_ ?_
  · intro args s m h hn
    obtain ⟨meth, c, h1, h2, h3, h4, h5, h6, -, -⟩ := Cond.code_spec hn (atoms_spec (ws := ws) h _ (by rw [hw]; exact List.mem_cons_self))
    exact ⟨meth, c, h1, h2, h3, h4, h5, h6⟩
  · intro p e s m args below meth c s₁ B hml hP _
    have hh0 : s₁.heap = s.heap := by rw [B.state]; rfl
    obtain ⟨t, a1, o, b1, b2, b3⟩ := body p e s m args below meth c s₁ B hml hP s₁ hh0 (Stand.of_body B)
    exact ⟨t, o, a1, b1, b2, ⟨b3.1, b3.2⟩⟩
def rowsLe (S : St) : Prop := ∀ r, r < 68 → (S.1 r).length ≤ gw_cap r
theorem cm_entry {l : Launch} {y : MethodName} {cb : ByteArray} {nl : Nat} {ret : Option FieldType} {rm : Room} {av : List Value} {Qc : Array Value → State → Outcome → State → Prop} {lv0 : List (Nat × Value)} (hy : plainFor y = true) (ho : y.cls = own) (hlen : (lg_sl av).length ≤ nl) (hlv : lv_args 0 av = lv0)
    (body : rowsLe S → ∀ f : Fx, f.2.1 = l → Cx f g cb nl own → (fmeth f).sig.returnType = ret → WW f rm g nl 0 0 (MQ (fbelow f) Qc (fargs f) (fs f) rm.cells rm.slots (gA g)) S 0 lv0 []) : Met l y (.code y cb nl ret :: bw) rm (va_Pc av (hw g S)) Qc rm.cells rm.slots (gA g) := by
  refine met_ofW (cc := cb) (maxL := nl) (ret := ret) hy rfl ?_
  intro p e s m args below meth c s₁ B hml hv
  obtain ⟨rfl, ⟨Gb, h1, h2, h3⟩, hK, hN, hA⟩ := hv
  have hl := lv_entry av (n := nl) hlen
  rw [lg_entry_eq]
  rw [hlv] at hl
  exact body (fun r hr => (h1 r hr).1) (p, l, e, s, m, _, below, meth, c) rfl ⟨B.exec, B.bytes, hml, by rw [← ho]; exact findClass_of_methodNamed B.named, fun w hw => atoms_spec (ws := .code y cb nl ret :: bw) B.pre w (List.mem_cons_of_mem _ hw), hK, B.notSynchronized, hN⟩ B.returns s.heap [] _ ⟨Gb, h1, h2, h3, va_S.rf, hA⟩ hl
/-- a callee's facts: an instance method, a static one -/
def MOK (y : MethodName) (CN : String) (cb : ByteArray) (nl : Nat) (ret : Option FieldType) (n : Nat) : Prop := Cond.instanceMethod y ∈ bw ∧ Cond.selects CN y y ∈ bw ∧ Cond.initialized CN ∈ bw ∧ Cond.code y cb nl ret ∈ bw ∧ (y.cls = CN ∧ y.cls ≠ "java/lang/invoke/MethodHandle" ∧ y.cls ≠ "java/lang/invoke/VarHandle" ∧ (parseMethodDescriptor y.desc).map (fun d => d.parameters.length) = some n)
def SOK (y : MethodName) (cb : ByteArray) (nl : Nat) (ret : Option FieldType) (n : Nat) : Prop := Cond.static y ∈ bw ∧ Cond.initialized y.cls ∈ bw ∧ Cond.code y cb nl ret ∈ bw ∧ (y.cls ≠ "java/lang/invoke/MethodHandle" ∧ y.cls ≠ "java/lang/invoke/VarHandle" ∧ (parseMethodDescriptor y.desc).map (fun d => d.parameters.length) = some n)
/-- the receiver is an object of the class -/
def Recv (g : Gx) (S : St) (CN : String) (b : Nat) : Prop := ∀ Gb, ∃ (q0 ci : Nat) (fl : List Value) (q : vw_C), (wl g S Gb)[q0]? = some (b, .inr (ci, fl)) ∧ vwCl[ci]? = some q ∧ q.1 = CN
theorem bw_sub {y : MethodName} {cb : ByteArray} {nl : Nat} {ret : Option FieldType} (h : Cond.code y cb nl ret ∈ bw) : GoodIn bw (.code y cb nl ret :: bw) := fun w hw => by
  have : w ∈ bw := by rcases List.mem_cons.mp hw with rfl | h2 <;> assumption
  exact ⟨this, good_of_word (bw_good this)⟩
theorem hw_blind {av : List Value} : FrameBlind (va_Pc av (hw g S)) := fun a U j mk q => by
  obtain ⟨q0, q1, qK, qN, qA⟩ := q
  exact ⟨q0, q1, va_K.moved (u := U) (U := U.calling j mk a) (Vm.Alike.refl U.vm) qK, qN.same rfl, qA⟩
theorem cx_V (C : Cx f g cc nL own) {y : MethodName} {CN : String} {cb : ByteArray} {nl n index : Nat} {ret : Option FieldType} {rm : Room} (hM : MOK y CN cb nl ret n) (hl : Cond.methodLink own index y ∈ bw) (hR : rm.frames + 1 ≤ R.frames ∧ 8 + (nl + 11) + rm.locals ≤ R.locals) : CallW R (fs f) (fargs f) own CN index y cb nl ret (.code y cb nl ret :: bw) rm rm.cells rm.slots n := by
  obtain ⟨h1, h2, h3, h4, h5⟩ := hM
  refine cwV n C.2.2.2.2.1 (fun w hw => ?_) rfl rfl rfl h5 hR
  rcases List.mem_append.mp (show w ∈ ([.methodLink own index y, .instanceMethod y, .selects CN y y, .initialized CN] : List Cond) ++ (.code y cb nl ret :: bw) from hw) with h | h
  · have : w ∈ bw := by
      rcases List.mem_cons.mp h with rfl | h
      · exact hl
      rcases List.mem_cons.mp h with rfl | h
      · exact h1
      rcases List.mem_cons.mp h with rfl | h
      · exact h2
      rcases List.mem_cons.mp h with rfl | h
      · exact h3
      cases h
    exact ⟨this, good_of_word (bw_good this)⟩
  · exact bw_sub h4 w h
theorem cx_S (C : Cx f g cc nL own) {y : MethodName} {cb : ByteArray} {nl n index : Nat} {ret : Option FieldType} {rm : Room} (hM : SOK y cb nl ret n) (hl : Cond.methodLink own index y ∈ bw) (hR : rm.frames + 1 ≤ R.frames ∧ 8 + (nl + 11) + rm.locals ≤ R.locals) : CallB R (fs f) (fargs f) own index y cb nl ret (.code y cb nl ret :: bw) rm rm.cells rm.slots n ∧ (Cond.static y).before (fargs f) (fs f) = true := by
  obtain ⟨h1, h2, h4, h5⟩ := hM
  exact ⟨callB_of n C.2.2.2.2.1 (bw_sub h4) rfl rfl rfl (C.2.2.2.2.1 _ h2) (C.2.2.2.2.1 _ hl) h5 hR, C.2.2.2.2.1 _ h1⟩
theorem cx_fix (C : Cx f g cc nL own) : CallFix f.1 (fm f) (fcode f) cc nL (fs f) (fargs f) bw own := ⟨C.1, C.2.1, C.2.2.1, C.2.2.2.1, C.2.2.2.2.1⟩
theorem cx_pre {H : Heap} {locs : List Loc} (C : Cx f g cc nL own) (h : Hp g S (fs f).heap H locs) {av : List Value} : ∀ U : State, U.heap = H → (fs f).WarmedH U.vm → va_Pc av (hw g S) av.toArray U := fun U hU hW => ⟨rfl, hw_back C h hU hW⟩
theorem cx_recv {H : Heap} {locs : List Loc} (C : Cx f g cc nL own) (h : Hp g S (fs f).heap H locs) {CN : String} {b : Nat} (hr : Recv g S CN b) : ∃ cellB : Cell, H[b]? = some cellB ∧ cellB.vm.isStatics = false ∧ (fs f).vm.findClass CN = some cellB.cls := by
  obtain ⟨Gb, h1, h2, h3, h4, h5⟩ := h
  obtain ⟨q0, ci, fl, q, e1, e2, rfl⟩ := hr Gb
  exact va_recv C.2.2.2.2.2.1 h2 e2 e1
theorem Hp.back {H0 H1 : Heap} {locs1 : List Loc} {S2 : St} {t : State} (ht : t.heap = H1) (h : hw g S2 t) (hS : va_S (gA g) H0 H1 locs1) (h5 : ∀ q, H0.size ≤ q → gA g q) : Hp g S2 H0 H1 locs1 := by
  obtain ⟨⟨Gb, h1, h2, h3⟩, -, -, -⟩ := h
  exact ⟨Gb, h1, by rw [← ht]; exact h2, h3, hS, h5⟩
theorem Hp.A {H0 H : Heap} {locs : List Loc} (h : Hp g S H0 H locs) : ∀ q, H0.size ≤ q → gA g q := by obtain ⟨Gb, h1, h2, h3, h4, h5⟩ := h; exact h5
variable {y : MethodName} {CN : String} {cb : ByteArray} {nl n index : Nat} {ret : Option FieldType} {rm : Room} {As rest : List Value} {b : Nat}
theorem ww_cVi (C : Cx f g cc nL own) {P : Int32 → St → Prop} (hM : MOK y CN cb nl ret n) (hl : Cond.methodLink own index y ∈ bw) (d : decode cc pc = .ok (.invokevirtual index, 3)) (hc : CMi g f.2.1 y cb nl ret rm (.ref b :: As) S P) (hrc : Recv g S CN b) (hn : As.length = n) (hR : rm.frames + 1 ≤ R.frames ∧ 8 + (nl + 11) + rm.locals ≤ R.locals) (hrm : (rest.map fun v => v.category).sum ≤ 8) {c2 s2 : Nat} (hc2 : cells + rm.cells = c2) (hs2 : slots + rm.slots = s2) (hf : c2 ≤ R.cells ∧ s2 ≤ R.slots) (hst : As.reverse ++ .ref b :: rest = st)
    (k : ∀ (r : Int32) (S2 : St), P r S2 → S2.2.2.1 = S.2.2.1 → WW f R g nL c2 s2 Q S2 (pc + 3) lv (.int r :: rest)) : WW f R g nL cells slots Q S pc lv st := by
  subst hst hc2 hs2
  exact fun H locs ls h hl2 => va_calli (va_runV (As := As) (rest := rest) (cx_fix C) hc (cx_V C hM hl hR) ⟨hw_blind, cx_recv C h hrc, cx_pre C h⟩ rfl hn hl2.1 rfl (lv_room hrm) d hf) (Hp.fr h) (fun _ _ z => z) (fun _ z => z) (fun r u t H1 locs1 ht hvm hp hB _ _ hS => k r u hp.1 hp.2 H1 locs1 ls (Hp.back ht hB hS (Hp.A h)) hl2)
theorem ww_cVv (C : Cx f g cc nL own) {P : St → Prop} (hM : MOK y CN cb nl ret n) (hl : Cond.methodLink own index y ∈ bw) (d : decode cc pc = .ok (.invokevirtual index, 3)) (hc : CMv g f.2.1 y cb nl ret rm (.ref b :: As) S P) (hrc : Recv g S CN b) (hn : As.length = n) (hR : rm.frames + 1 ≤ R.frames ∧ 8 + (nl + 11) + rm.locals ≤ R.locals) (hrm : (rest.map fun v => v.category).sum ≤ 8) {c2 s2 : Nat} (hc2 : cells + rm.cells = c2) (hs2 : slots + rm.slots = s2) (hf : c2 ≤ R.cells ∧ s2 ≤ R.slots) (hst : As.reverse ++ .ref b :: rest = st)
    (k : ∀ (S2 : St), P S2 → S2.2.2.1 = S.2.2.1 → WW f R g nL c2 s2 Q S2 (pc + 3) lv rest) : WW f R g nL cells slots Q S pc lv st := by
  subst hst hc2 hs2
  exact fun H locs ls h hl2 => va_callv (va_runV (As := As) (rest := rest) (cx_fix C) hc (cx_V C hM hl hR) ⟨hw_blind, cx_recv C h hrc, cx_pre C h⟩ rfl hn hl2.1 rfl (lv_room hrm) d hf) (Hp.fr h) (fun _ _ z => z) (fun _ z => z) (fun u t H1 locs1 ht hvm hp hB _ _ hS => k u hp.1 hp.2 H1 locs1 ls (Hp.back ht hB hS (Hp.A h)) hl2)
theorem ww_cVr (C : Cx f g cc nL own) {i : Nat} (hM : MOK y CN cb nl ret n) (hl : Cond.methodLink own index y ∈ bw) (d : decode cc pc = .ok (.invokevirtual index, 3)) (hc : CMr g f.2.1 y cb nl ret rm (.ref b :: As) S i) (hrc : Recv g S CN b) (hn : As.length = n) (hR : rm.frames + 1 ≤ R.frames ∧ 8 + (nl + 11) + rm.locals ≤ R.locals) (hrm : (rest.map fun v => v.category).sum ≤ 8) {c2 s2 : Nat} (hc2 : cells + rm.cells = c2) (hs2 : slots + rm.slots = s2) (hf : c2 ≤ R.cells ∧ s2 ≤ R.slots) (hst : As.reverse ++ .ref b :: rest = st)
    (k : WW f R g nL c2 s2 Q S (pc + 3) lv (.ref (gad g i) :: rest)) : WW f R g nL cells slots Q S pc lv st := by
  subst hst hc2 hs2
  exact fun H locs ls h hl2 => va_callr (va_runV (As := As) (rest := rest) (cx_fix C) hc (cx_V C hM hl hR) ⟨hw_blind, cx_recv C h hrc, cx_pre C h⟩ rfl hn hl2.1 rfl (lv_room hrm) d hf) (Hp.fr h) (fun _ _ z => z) (fun _ z => z) (fun u a t H1 locs1 ht hvm hp hB _ _ hS => by
    obtain ⟨rfl, hB⟩ := hB
    subst hp
    exact k H1 locs1 ls (Hp.back ht hB hS (Hp.A h)) hl2)
theorem ww_cSi (C : Cx f g cc nL own) {P : Int32 → St → Prop} (hM : SOK y cb nl ret n) (hl : Cond.methodLink own index y ∈ bw) (d : decode cc pc = .ok (.invokestatic index, 3)) (hc : CMi g f.2.1 y cb nl ret rm As S P) (hn : As.length = n) (hR : rm.frames + 1 ≤ R.frames ∧ 8 + (nl + 11) + rm.locals ≤ R.locals) (hrm : (rest.map fun v => v.category).sum ≤ 8) {c2 s2 : Nat} (hc2 : cells + rm.cells = c2) (hs2 : slots + rm.slots = s2) (hf : c2 ≤ R.cells ∧ s2 ≤ R.slots) (hst : As.reverse ++ rest = st)
    (k : ∀ (r : Int32) (S2 : St), P r S2 → S2.2.2.1 = S.2.2.1 → WW f R g nL c2 s2 Q S2 (pc + 3) lv (.int r :: rest)) : WW f R g nL cells slots Q S pc lv st := by
  subst hst hc2 hs2
  exact fun H locs ls h hl2 => va_calli (va_runS (As := As) (rest := rest) (cx_fix C) hc (cx_S C hM hl hR) ⟨hw_blind, cx_pre C h⟩ rfl hn hl2.1 rfl (lv_room hrm) d hf) (Hp.fr h) (fun _ _ z => z) (fun _ z => z) (fun r u t H1 locs1 ht hvm hp hB _ _ hS => k r u hp.1 hp.2 H1 locs1 ls (Hp.back ht hB hS (Hp.A h)) hl2)
theorem ww_cSv (C : Cx f g cc nL own) {P : St → Prop} (hM : SOK y cb nl ret n) (hl : Cond.methodLink own index y ∈ bw) (d : decode cc pc = .ok (.invokestatic index, 3)) (hc : CMv g f.2.1 y cb nl ret rm As S P) (hn : As.length = n) (hR : rm.frames + 1 ≤ R.frames ∧ 8 + (nl + 11) + rm.locals ≤ R.locals) (hrm : (rest.map fun v => v.category).sum ≤ 8) {c2 s2 : Nat} (hc2 : cells + rm.cells = c2) (hs2 : slots + rm.slots = s2) (hf : c2 ≤ R.cells ∧ s2 ≤ R.slots) (hst : As.reverse ++ rest = st)
    (k : ∀ (S2 : St), P S2 → S2.2.2.1 = S.2.2.1 → WW f R g nL c2 s2 Q S2 (pc + 3) lv rest) : WW f R g nL cells slots Q S pc lv st := by
  subst hst hc2 hs2
  exact fun H locs ls h hl2 => va_callv (va_runS (As := As) (rest := rest) (cx_fix C) hc (cx_S C hM hl hR) ⟨hw_blind, cx_pre C h⟩ rfl hn hl2.1 rfl (lv_room hrm) d hf) (Hp.fr h) (fun _ _ z => z) (fun _ z => z) (fun u t H1 locs1 ht hvm hp hB _ _ hS => k u hp.1 hp.2 H1 locs1 ls (Hp.back ht hB hS (Hp.A h)) hl2)
/-- the one static call of a nest mate's private method -/
theorem ww_cNi (C : Cx f g cc nL RX5) {P : Int32 → St → Prop} (hM : SOK yX10_isTooFar cb nl ret n) (d : decode cc pc = .ok (.invokestatic 182, 3)) (hc : CMi g f.2.1 yX10_isTooFar cb nl ret rm As S P) (hn : As.length = n) (hR : rm.frames + 1 ≤ R.frames ∧ 8 + (nl + 11) + rm.locals ≤ R.locals) (hrm : (rest.map fun v => v.category).sum ≤ 8) {c2 s2 : Nat} (hc2 : cells + rm.cells = c2) (hs2 : slots + rm.slots = s2) (hf : c2 ≤ R.cells ∧ s2 ≤ R.slots) (hst : As.reverse ++ rest = st)
    (k : ∀ (r : Int32) (S2 : St), P r S2 → S2.2.2.1 = S.2.2.1 → WW f R g nL c2 s2 Q S2 (pc + 3) lv (.int r :: rest)) : WW f R g nL cells slots Q S pc lv st := by
  subst hst hc2 hs2
  obtain ⟨h1, h2, h4, h5⟩ := hM
  exact fun H locs ls h hl2 => va_calli (va_runSN (As := As) (rest := rest) (cx_fix C) hc ⟨va_cnB n C.2.2.2.2.1 (bw_sub h4) rfl rfl rfl C.2.2.2.2.2.2.2.1.1 (C.2.2.2.2.1 _ h2) h5 hR, C.2.2.2.2.1 _ h1, trivial⟩ ⟨hw_blind, cx_pre C h⟩ rfl hn hl2.1 rfl (lv_room hrm) d hf) (Hp.fr h) (fun _ _ z => z) (fun _ z => z) (fun r u t H1 locs1 ht hvm hp hB _ _ hS => k r u hp.1 hp.2 H1 locs1 ls (Hp.back ht hB hS (Hp.A h)) hl2)
theorem ww_cVf (C : Cx f g cc nL own) {v : Int32} (hM : MOK y CN cb nl ret n) (hl : Cond.methodLink own index y ∈ bw) (d : decode cc pc = .ok (.invokevirtual index, 3)) (hc : CMi g f.2.1 y cb nl ret rm (.ref b :: As) S (fun r S2 => r = v ∧ S2 = S)) (hrc : Recv g S CN b) (hn : As.length = n) (hR : rm.frames + 1 ≤ R.frames ∧ 8 + (nl + 11) + rm.locals ≤ R.locals) (hrm : (rest.map fun v => v.category).sum ≤ 8) {c2 s2 : Nat} (hc2 : cells + rm.cells = c2) (hs2 : slots + rm.slots = s2) (hf : c2 ≤ R.cells ∧ s2 ≤ R.slots) (hst : As.reverse ++ .ref b :: rest = st)
    (k : WW f R g nL c2 s2 Q S (pc + 3) lv (.int v :: rest)) : WW f R g nL cells slots Q S pc lv st := ww_cVi C hM hl d hc hrc hn hR hrm hc2 hs2 hf hst (fun r S2 hp _ => by obtain ⟨rfl, rfl⟩ := hp; exact k)
theorem ww_cVg (C : Cx f g cc nL own) {S1 : St} (hM : MOK y CN cb nl ret n) (hl : Cond.methodLink own index y ∈ bw) (d : decode cc pc = .ok (.invokevirtual index, 3)) (hc : CMv g f.2.1 y cb nl ret rm (.ref b :: As) S (fun S2 => S2 = S1)) (hrc : Recv g S CN b) (hn : As.length = n) (hR : rm.frames + 1 ≤ R.frames ∧ 8 + (nl + 11) + rm.locals ≤ R.locals) (hrm : (rest.map fun v => v.category).sum ≤ 8) {c2 s2 : Nat} (hc2 : cells + rm.cells = c2) (hs2 : slots + rm.slots = s2) (hf : c2 ≤ R.cells ∧ s2 ≤ R.slots) (hst : As.reverse ++ .ref b :: rest = st)
    (k : S1.2.2.1 = S.2.2.1 → WW f R g nL c2 s2 Q S1 (pc + 3) lv rest) : WW f R g nL cells slots Q S pc lv st := ww_cVv C hM hl d hc hrc hn hR hrm hc2 hs2 hf hst (fun S2 hp hT => by subst hp; exact k hT)
theorem ww_cSf (C : Cx f g cc nL own) {v : Int32} (hM : SOK y cb nl ret n) (hl : Cond.methodLink own index y ∈ bw) (d : decode cc pc = .ok (.invokestatic index, 3)) (hc : CMi g f.2.1 y cb nl ret rm As S (fun r S2 => r = v ∧ S2 = S)) (hn : As.length = n) (hR : rm.frames + 1 ≤ R.frames ∧ 8 + (nl + 11) + rm.locals ≤ R.locals) (hrm : (rest.map fun v => v.category).sum ≤ 8) {c2 s2 : Nat} (hc2 : cells + rm.cells = c2) (hs2 : slots + rm.slots = s2) (hf : c2 ≤ R.cells ∧ s2 ≤ R.slots) (hst : As.reverse ++ rest = st)
    (k : WW f R g nL c2 s2 Q S (pc + 3) lv (.int v :: rest)) : WW f R g nL cells slots Q S pc lv st := ww_cSi C hM hl d hc hn hR hrm hc2 hs2 hf hst (fun r S2 hp _ => by obtain ⟨rfl, rfl⟩ := hp; exact k)
theorem ww_cSg (C : Cx f g cc nL own) {S1 : St} (hM : SOK y cb nl ret n) (hl : Cond.methodLink own index y ∈ bw) (d : decode cc pc = .ok (.invokestatic index, 3)) (hc : CMv g f.2.1 y cb nl ret rm As S (fun S2 => S2 = S1)) (hn : As.length = n) (hR : rm.frames + 1 ≤ R.frames ∧ 8 + (nl + 11) + rm.locals ≤ R.locals) (hrm : (rest.map fun v => v.category).sum ≤ 8) {c2 s2 : Nat} (hc2 : cells + rm.cells = c2) (hs2 : slots + rm.slots = s2) (hf : c2 ≤ R.cells ∧ s2 ≤ R.slots) (hst : As.reverse ++ rest = st)
    (k : S1.2.2.1 = S.2.2.1 → WW f R g nL c2 s2 Q S1 (pc + 3) lv rest) : WW f R g nL cells slots Q S pc lv st := ww_cSv C hM hl d hc hn hR hrm hc2 hs2 hf hst (fun S2 hp hT => by subst hp; exact k hT)
theorem ww_topi {x : Int32} (k : ∀ y : Int32, y = x → WW f R g nL cells slots Q S pc lv (.int y :: st)) : WW f R g nL cells slots Q S pc lv (.int x :: st) := k x rfl
theorem ww_topl {x : Int64} (k : ∀ y : Int64, y = x → WW f R g nL cells slots Q S pc lv (.long y :: st)) : WW f R g nL cells slots Q S pc lv (.long x :: st) := k x rfl
theorem ww_nm (k : ∀ S1 : St, S1 = S → WW f R g nL cells slots Q S1 pc lv st) : WW f R g nL cells slots Q S pc lv st := k S rfl
theorem cm_mono_i {l : Launch} {av : List Value} {P P2 : Int32 → St → Prop} (h : CMi g l y cb nl ret rm av S P) (hP : ∀ r S2, P r S2 → P2 r S2) : CMi g l y cb nl ret rm av S P2 := fun p e ha hc hk s m args below hf hx hp hz => by
  obtain ⟨k, o, h1, h2, h3, h4⟩ := h p e ha hc hk s m args below hf hx hp hz
  refine ⟨k, o, h1, h2, h3, ?_⟩
  obtain ⟨⟨⟨r, u, e1, e2, e3⟩, e4⟩, e5⟩ := h4
  exact ⟨⟨⟨r, u, e1, ⟨hP r u e2.1, e2.2⟩, e3⟩, e4⟩, e5⟩
theorem cm_mono_v {l : Launch} {av : List Value} {P P2 : St → Prop} (h : CMv g l y cb nl ret rm av S P) (hP : ∀ S2, P S2 → P2 S2) : CMv g l y cb nl ret rm av S P2 := fun p e ha hc hk s m args below hf hx hp hz => by
  obtain ⟨k, o, h1, h2, h3, h4⟩ := h p e ha hc hk s m args below hf hx hp hz
  refine ⟨k, o, h1, h2, h3, ?_⟩
  obtain ⟨⟨⟨u, e1, e2, e3⟩, e4⟩, e5⟩ := h4
  exact ⟨⟨⟨u, e1, ⟨hP u e2.1, e2.2⟩, e3⟩, e4⟩, e5⟩
end WC
