
section LW
variable {f : Fx} {R : Room} {g : Gx} {cc : ByteArray} {nL cells slots pc : Nat} {own : String} {Q : State → Prop} {S : St} {lv : List (Nat × Value)} {st : List Value}
def CHi (g : Gx) (l : Launch) (y : MethodName) (cb : ByteArray) (nl : Nat) (ret : Option FieldType) (hh : List (Nat × Nat × Nat × Nat)) (rm : Room) (av : List Value) (S : St) (P : Int32 → St → Prop) : Prop := Met l y (.codeWith y cb nl ret hh :: bw) rm (va_Pc av (hw g S)) (va_Qi (fun r S2 => P r S2 ∧ S2.2.2.1 = S.2.2.1) (hw g) (gA g)) rm.cells rm.slots (gA g)
theorem ch_entry {l : Launch} {y : MethodName} {cb : ByteArray} {nl : Nat} {ret : Option FieldType} {hh : List (Nat × Nat × Nat × Nat)} {rm : Room} {av : List Value} {Qc : Array Value → State → Outcome → State → Prop} {lv0 : List (Nat × Value)} (hy : plainName y.cls = true) (ho : y.cls = own) (hlen : (lg_sl av).length ≤ nl) (hlv : lv_args 0 av = lv0)
    (body : rowsLe S → ∀ f : Fx, f.2.1 = l → Cx f g cb nl own → (fmeth f).sig.returnType = ret → (fcode f).exceptionTable.toList = tableOf hh → WW f rm g nl 0 0 (MQ (fbelow f) Qc (fargs f) (fs f) rm.cells rm.slots (gA g)) S 0 lv0 []) : Met l y (.codeWith y cb nl ret hh :: bw) rm (va_Pc av (hw g S)) Qc rm.cells rm.slots (gA g) := by
  refine MetFree.of_bodyS (code := cb) (maxLocals := nl) (ret := ret) hy ?_ ?_
  · intro args s m h hn
    obtain ⟨m9, meth, c, hn9, h1, h2, h3, h4, -, h5, h6, -⟩ := Cond.codeWith_spec (atoms_spec (ws := .codeWith y cb nl ret hh :: bw) h _ List.mem_cons_self)
    cases hn.symm.trans hn9
    exact ⟨meth, c, h1, h2, h3, h4, h5, h6⟩
  · intro p e s m args below meth c s₁ B hml hP _
    have hh0 : s₁.heap = s.heap := by rw [B.state]; rfl
    have htab := vx_table (x := y) B (atoms_spec (ws := .codeWith y cb nl ret hh :: bw) B.pre _ List.mem_cons_self)
    obtain ⟨rfl, ⟨Gb, h1, h2, h3⟩, hK, hN, hA⟩ := hP
    have hl := lv_entry av (n := nl) hlen
    rw [hlv] at hl
    have key := body (fun r hr => (h1 r hr).1) (p, l, e, s, m, _, below, meth, c) rfl ⟨B.exec, B.bytes, hml, by rw [← ho]; exact findClass_of_methodNamed B.named, fun w hw => atoms_spec (ws := .codeWith y cb nl ret hh :: bw) B.pre w (List.mem_cons_of_mem _ hw), hK, B.notSynchronized, hN⟩ B.returns htab s.heap [] _ ⟨Gb, h1, h2, h3, va_S.rf, hA⟩ hl
    rw [lg_entry_eq]
    obtain ⟨t, a1, o, b1, b2, b3⟩ := key s₁ hh0 (Stand.of_body B)
    exact ⟨t, o, a1, b1, b2, ⟨b3.1, b3.2⟩⟩
theorem gw_e_cgO {S2 : St} {Gb : Nat → Nat → Int32} {j : Nat} (h1 : S2.1 = S.1) (h2 : S2.2.1 = S.2.1) (hne : j ≠ 183) : gw_e g S2 Gb j = gw_e g S Gb j := by simp only [gw_e, gw_fx, gw_sx, h1, h2, if_neg hne]
theorem swapP {D : va_G} {cl : List vw_C} {ws : va_W} {H : Heap} {k a : Nat} {e0 e : va_E} (h : va_P D cl (ws.set k (a, e0)) H) (he : va_at D cl (a, e0) H → va_at D cl (a, e) H) : va_P D cl (ws.set k (a, e)) H := fun j q hj => by
  by_cases hk : j = k
  · subst hk
    have hlt : j < ws.length := by have := (List.getElem?_eq_some_iff.mp hj).1; simpa using this
    rw [List.getElem?_set_self hlt] at hj
    cases hj
    exact he (h j (a, e0) (by rw [List.getElem?_set_self hlt]))
  · rw [List.getElem?_set_ne (fun z => hk z.symm)] at hj
    exact h j q (by rw [List.getElem?_set_ne (fun z => hk z.symm)]; exact hj)
theorem ww_last (C : Cx f g cc nL own) {v : Int64} (d : decode cc pc = .ok (.lastore, 1)) (k : WW f R g nL cells slots Q (stO S v) (pc + 1) lv st) : WW f R g nL cells slots Q S pc lv (.long v :: .int 0 :: .ref (gad g 183) :: st) := by
  intro H locs ls h hl
  obtain ⟨Gb, h1, h2, h3, h4, h5⟩ := id h
  refine va_last C.1 C.2.1 C.2.2.2.2.2.1 h2 h3 h4 183 2 (by rw [wl_get g S Gb (by omega), gw_183]) rfl (vp_in_nI (n := 0) (N := 1) (by omega) (by omega)) d (fun H1 locs1 hP hD hS => ?_)
  have e0 : (wl g S Gb)[183]? = some (gad g 183, gw_e g S Gb 183) := wl_get g S Gb (by omega)
  have e1 := wl_set g S (stO S v) Gb Gb (i0 := 183) (e := gw_e g (stO S v) Gb 183) (by omega) rfl (fun i hi hne => gw_e_cgO rfl rfl hne) rfl (fun t _ => rfl)
  have hD2 := h3.set (e := gw_e g (stO S v) Gb 183) e0
  rw [e1] at hD2
  have hP2 := swapP (e := gw_e g (stO S v) Gb 183) hP (fun h => by
    rw [gw_183]
    have h9 : H1[gad g 183]? = some (vp_cell _ _) := h
    show H1[gad g 183]? = some (vp_cell _ _)
    rw [h9]
    congr 1)
  rw [e1] at hP2
  exact k H1 locs1 ls ⟨Gb, h1, hP2, hD2, hS, h5⟩ hl
theorem cat1 (C : Cx f g cc nL RL) {en h1 t1 : Nat} {tl : List (Nat × Nat × Nat × Nat)} {e1 : String} (htab : (fcode f).exceptionTable.toList = tableOf ((0, en, h1, t1) :: tl)) (hpc : pc < en) (ht1 : t1 ≠ 0) (l1 : Cond.classLink RL t1 e1 ∈ bw) (c1 : va_Nw (.castable e1 e1) (fs f)) {H : Heap} {locs : List Loc} {ls : Array Slot} {q : Nat} {ce : Cell} {rest : List Value} (hh : Hp g S (fs f).heap H locs) (hl : lv_has ls nL lv) (hcell : H[q]? = some ce) (hv : ce.vm = .none) (hcl : (fs f).vm.findClass e1 = some ce.cls) (k : WW f R g nL cells slots Q S h1 lv [.ref q]) : vx_W f.1 f.2.1 f.2.2.1 R (fs f) (fm f) (fargs f) (fbelow f) (fmeth f) (fcode f) H locs cells slots Q (F0 (fm f) pc ls rest) q :=
  vx_catch C.2.2.2.1 [] ⟨0, en, h1, t1⟩ (tableOf tl) htab (fun z hz => by cases hz) (by simp [covers, hpc]) ht1 (C.2.2.2.2.1 _ l1) (va_Nw.use rfl c1) hcell hv hcl (k H locs ls hh hl)
theorem cat2 (C : Cx f g cc nL RL) {en h1 t1 h2 t2 : Nat} {e1 e2 : String} (htab : (fcode f).exceptionTable.toList = tableOf [(0, en, h1, t1), (0, en, h2, t2)]) (hpc : pc < en) (ht1 : t1 ≠ 0) (ht2 : t2 ≠ 0) (l1 : Cond.classLink RL t1 e1 ∈ bw) (l2 : Cond.classLink RL t2 e2 ∈ bw) (nc : va_Nc e2 e1 (fs f)) (c2 : va_Nw (.castable e2 e2) (fs f)) {H : Heap} {locs : List Loc} {ls : Array Slot} {q : Nat} {ce : Cell} {rest : List Value} (hh : Hp g S (fs f).heap H locs) (hl : lv_has ls nL lv) (hcell : H[q]? = some ce) (hv : ce.vm = .none) (hcl : (fs f).vm.findClass e2 = some ce.cls) (k : WW f R g nL cells slots Q S h2 lv [.ref q]) : vx_W f.1 f.2.1 f.2.2.1 R (fs f) (fm f) (fargs f) (fbelow f) (fmeth f) (fcode f) H locs cells slots Q (F0 (fm f) pc ls rest) q :=
  vx_catch C.2.2.2.1 [⟨0, en, h1, t1⟩] ⟨0, en, h2, t2⟩ [] htab (fun z hz => by
    rcases List.mem_cons.mp hz with rfl | hz
    · exact Or.inr ⟨ht1, e1, C.2.2.2.2.1 _ l1, nc⟩
    · cases hz) (by simp [covers, hpc]) ht2 (C.2.2.2.2.1 _ l2) (va_Nw.use rfl c2) hcell hv hcl (k H locs ls hh hl)
theorem ww_t1i (C : Cx f g cc nL RL) {y : MethodName} {CN : String} {cb : ByteArray} {nl n index en h1 t1 : Nat} {ret : Option FieldType} {rm : Room} {As rest : List Value} {b : Nat} {e1 : String} {P : Int32 → St → Prop} {A1 : St → Prop} (htab : (fcode f).exceptionTable.toList = tableOf [(0, en, h1, t1)]) (hpc : pc < en) (ht1 : t1 ≠ 0) (l1 : Cond.classLink RL t1 e1 ∈ bw) (k1c : va_Nw (.castable e1 e1) (fs f)) (hM : MOK y CN cb nl ret n) (hl : Cond.methodLink RL index y ∈ bw) (d : decode cc pc = .ok (.invokevirtual index, 3)) (hc : CXi g f.2.1 y cb nl ret rm (.ref b :: As) S P (fun e S2 => e = e1 ∧ A1 S2)) (hrc : Recv g S CN b) (hn : As.length = n) (hR : rm.frames + 1 ≤ R.frames ∧ 8 + (nl + 11) + rm.locals ≤ R.locals) (hrm : (rest.map fun v => v.category).sum ≤ 8) {c2 s2 : Nat} (hc2 : cells + rm.cells = c2) (hs2 : slots + rm.slots = s2) (hf : c2 ≤ R.cells ∧ s2 ≤ R.slots) (hst : As.reverse ++ .ref b :: rest = st)
    (k : ∀ (r : Int32) (S2 : St), P r S2 → S2.2.2.1 = S.2.2.1 → WW f R g nL c2 s2 Q S2 (pc + 3) lv (.int r :: rest)) (k1 : ∀ (q : Nat) (S2 : St), A1 S2 → S2.2.2.1 = S.2.2.1 → WW f R g nL c2 s2 Q S2 h1 lv [.ref q])  : WW f R g nL cells slots Q S pc lv st := by
  subst hst hc2 hs2
  intro H locs ls h hl2
  refine vx_calli (vx_runV (As := As) (rest := rest) (cx_fix C) hc (cx_V C hM hl hR) ⟨hw_blind, cx_recv C h hrc, cx_pre C h⟩ rfl hn hl2.1 rfl (lv_room hrm) d hf) (Hp.fr h) (fun _ _ z => z) (fun _ z => z) (fun _ _ z => z) (fun e ce q9 u t H1 locs1 ht hvm _ hB _ _ hS hcell hv hcls => ?_) (fun r u t H1 locs1 ht hvm hp hB _ _ hS => k r u hp.1 hp.2 H1 locs1 ls (Hp.back ht hB hS (Hp.A h)) hl2)
  obtain ⟨⟨hE, hT2⟩, hw2⟩ := hB
  obtain ⟨rfl, hE⟩ := hE
  exact cat1 C htab hpc ht1 l1 k1c (Hp.backx ht hw2 hS (Hp.A h)) hl2 hcell hv hcls (k1 q9 u hE hT2)
theorem ww_t1v (C : Cx f g cc nL RL) {y : MethodName} {CN : String} {cb : ByteArray} {nl n index en h1 t1 : Nat} {ret : Option FieldType} {rm : Room} {As rest : List Value} {b : Nat} {e1 : String} {P : St → Prop} {A1 : St → Prop} (htab : (fcode f).exceptionTable.toList = tableOf [(0, en, h1, t1)]) (hpc : pc < en) (ht1 : t1 ≠ 0) (l1 : Cond.classLink RL t1 e1 ∈ bw) (k1c : va_Nw (.castable e1 e1) (fs f)) (hM : MOK y CN cb nl ret n) (hl : Cond.methodLink RL index y ∈ bw) (d : decode cc pc = .ok (.invokevirtual index, 3)) (hc : CXv g f.2.1 y cb nl ret rm (.ref b :: As) S P (fun e S2 => e = e1 ∧ A1 S2)) (hrc : Recv g S CN b) (hn : As.length = n) (hR : rm.frames + 1 ≤ R.frames ∧ 8 + (nl + 11) + rm.locals ≤ R.locals) (hrm : (rest.map fun v => v.category).sum ≤ 8) {c2 s2 : Nat} (hc2 : cells + rm.cells = c2) (hs2 : slots + rm.slots = s2) (hf : c2 ≤ R.cells ∧ s2 ≤ R.slots) (hst : As.reverse ++ .ref b :: rest = st)
    (k : ∀ (S2 : St), P S2 → S2.2.2.1 = S.2.2.1 → WW f R g nL c2 s2 Q S2 (pc + 3) lv rest) (k1 : ∀ (q : Nat) (S2 : St), A1 S2 → S2.2.2.1 = S.2.2.1 → WW f R g nL c2 s2 Q S2 h1 lv [.ref q])  : WW f R g nL cells slots Q S pc lv st := by
  subst hst hc2 hs2
  intro H locs ls h hl2
  refine vx_callv (vx_runV (As := As) (rest := rest) (cx_fix C) hc (cx_V C hM hl hR) ⟨hw_blind, cx_recv C h hrc, cx_pre C h⟩ rfl hn hl2.1 rfl (lv_room hrm) d hf) (Hp.fr h) (fun _ _ z => z) (fun _ z => z) (fun _ _ z => z) (fun e ce q9 u t H1 locs1 ht hvm _ hB _ _ hS hcell hv hcls => ?_) (fun u t H1 locs1 ht hvm hp hB _ _ hS => k u hp.1 hp.2 H1 locs1 ls (Hp.back ht hB hS (Hp.A h)) hl2)
  obtain ⟨⟨hE, hT2⟩, hw2⟩ := hB
  obtain ⟨rfl, hE⟩ := hE
  exact cat1 C htab hpc ht1 l1 k1c (Hp.backx ht hw2 hS (Hp.A h)) hl2 hcell hv hcls (k1 q9 u hE hT2)
theorem ww_t2i (C : Cx f g cc nL RL) {y : MethodName} {CN : String} {cb : ByteArray} {nl n index en h1 t1 h2 t2 : Nat} {ret : Option FieldType} {rm : Room} {As rest : List Value} {b : Nat} {e1 e2 : String} {P : Int32 → St → Prop} {A1 A2 : St → Prop} (htab : (fcode f).exceptionTable.toList = tableOf [(0, en, h1, t1), (0, en, h2, t2)]) (hpc : pc < en) (ht1 : t1 ≠ 0) (l1 : Cond.classLink RL t1 e1 ∈ bw) (k1c : va_Nw (.castable e1 e1) (fs f)) (ht2 : t2 ≠ 0) (l2 : Cond.classLink RL t2 e2 ∈ bw) (nc : va_Nc e2 e1 (fs f)) (k2c : va_Nw (.castable e2 e2) (fs f)) (hM : MOK y CN cb nl ret n) (hl : Cond.methodLink RL index y ∈ bw) (d : decode cc pc = .ok (.invokevirtual index, 3)) (hc : CXi g f.2.1 y cb nl ret rm (.ref b :: As) S P (fun e S2 => (e = e1 ∧ A1 S2) ∨ (e = e2 ∧ A2 S2))) (hrc : Recv g S CN b) (hn : As.length = n) (hR : rm.frames + 1 ≤ R.frames ∧ 8 + (nl + 11) + rm.locals ≤ R.locals) (hrm : (rest.map fun v => v.category).sum ≤ 8) {c2 s2 : Nat} (hc2 : cells + rm.cells = c2) (hs2 : slots + rm.slots = s2) (hf : c2 ≤ R.cells ∧ s2 ≤ R.slots) (hst : As.reverse ++ .ref b :: rest = st)
    (k : ∀ (r : Int32) (S2 : St), P r S2 → S2.2.2.1 = S.2.2.1 → WW f R g nL c2 s2 Q S2 (pc + 3) lv (.int r :: rest)) (k1 : ∀ (q : Nat) (S2 : St), A1 S2 → S2.2.2.1 = S.2.2.1 → WW f R g nL c2 s2 Q S2 h1 lv [.ref q]) (k2 : ∀ (q : Nat) (S2 : St), A2 S2 → S2.2.2.1 = S.2.2.1 → WW f R g nL c2 s2 Q S2 h2 lv [.ref q]) : WW f R g nL cells slots Q S pc lv st := by
  subst hst hc2 hs2
  intro H locs ls h hl2
  refine vx_calli (vx_runV (As := As) (rest := rest) (cx_fix C) hc (cx_V C hM hl hR) ⟨hw_blind, cx_recv C h hrc, cx_pre C h⟩ rfl hn hl2.1 rfl (lv_room hrm) d hf) (Hp.fr h) (fun _ _ z => z) (fun _ z => z) (fun _ _ z => z) (fun e ce q9 u t H1 locs1 ht hvm _ hB _ _ hS hcell hv hcls => ?_) (fun r u t H1 locs1 ht hvm hp hB _ _ hS => k r u hp.1 hp.2 H1 locs1 ls (Hp.back ht hB hS (Hp.A h)) hl2)
  obtain ⟨⟨hE, hT2⟩, hw2⟩ := hB
  rcases hE with ⟨rfl, hE⟩ | ⟨rfl, hE⟩
  · exact cat1 C htab hpc ht1 l1 k1c (Hp.backx ht hw2 hS (Hp.A h)) hl2 hcell hv hcls (k1 q9 u hE hT2)
  · exact cat2 C htab hpc ht1 ht2 l1 l2 nc k2c (Hp.backx ht hw2 hS (Hp.A h)) hl2 hcell hv hcls (k2 q9 u hE hT2)
theorem ww_t2v (C : Cx f g cc nL RL) {y : MethodName} {CN : String} {cb : ByteArray} {nl n index en h1 t1 h2 t2 : Nat} {ret : Option FieldType} {rm : Room} {As rest : List Value} {b : Nat} {e1 e2 : String} {P : St → Prop} {A1 A2 : St → Prop} (htab : (fcode f).exceptionTable.toList = tableOf [(0, en, h1, t1), (0, en, h2, t2)]) (hpc : pc < en) (ht1 : t1 ≠ 0) (l1 : Cond.classLink RL t1 e1 ∈ bw) (k1c : va_Nw (.castable e1 e1) (fs f)) (ht2 : t2 ≠ 0) (l2 : Cond.classLink RL t2 e2 ∈ bw) (nc : va_Nc e2 e1 (fs f)) (k2c : va_Nw (.castable e2 e2) (fs f)) (hM : MOK y CN cb nl ret n) (hl : Cond.methodLink RL index y ∈ bw) (d : decode cc pc = .ok (.invokevirtual index, 3)) (hc : CXv g f.2.1 y cb nl ret rm (.ref b :: As) S P (fun e S2 => (e = e1 ∧ A1 S2) ∨ (e = e2 ∧ A2 S2))) (hrc : Recv g S CN b) (hn : As.length = n) (hR : rm.frames + 1 ≤ R.frames ∧ 8 + (nl + 11) + rm.locals ≤ R.locals) (hrm : (rest.map fun v => v.category).sum ≤ 8) {c2 s2 : Nat} (hc2 : cells + rm.cells = c2) (hs2 : slots + rm.slots = s2) (hf : c2 ≤ R.cells ∧ s2 ≤ R.slots) (hst : As.reverse ++ .ref b :: rest = st)
    (k : ∀ (S2 : St), P S2 → S2.2.2.1 = S.2.2.1 → WW f R g nL c2 s2 Q S2 (pc + 3) lv rest) (k1 : ∀ (q : Nat) (S2 : St), A1 S2 → S2.2.2.1 = S.2.2.1 → WW f R g nL c2 s2 Q S2 h1 lv [.ref q]) (k2 : ∀ (q : Nat) (S2 : St), A2 S2 → S2.2.2.1 = S.2.2.1 → WW f R g nL c2 s2 Q S2 h2 lv [.ref q]) : WW f R g nL cells slots Q S pc lv st := by
  subst hst hc2 hs2
  intro H locs ls h hl2
  refine vx_callv (vx_runV (As := As) (rest := rest) (cx_fix C) hc (cx_V C hM hl hR) ⟨hw_blind, cx_recv C h hrc, cx_pre C h⟩ rfl hn hl2.1 rfl (lv_room hrm) d hf) (Hp.fr h) (fun _ _ z => z) (fun _ z => z) (fun _ _ z => z) (fun e ce q9 u t H1 locs1 ht hvm _ hB _ _ hS hcell hv hcls => ?_) (fun u t H1 locs1 ht hvm hp hB _ _ hS => k u hp.1 hp.2 H1 locs1 ls (Hp.back ht hB hS (Hp.A h)) hl2)
  obtain ⟨⟨hE, hT2⟩, hw2⟩ := hB
  rcases hE with ⟨rfl, hE⟩ | ⟨rfl, hE⟩
  · exact cat1 C htab hpc ht1 l1 k1c (Hp.backx ht hw2 hS (Hp.A h)) hl2 hcell hv hcls (k1 q9 u hE hT2)
  · exact cat2 C htab hpc ht1 ht2 l1 l2 nc k2c (Hp.backx ht hw2 hS (Hp.A h)) hl2 hcell hv hcls (k2 q9 u hE hT2)
end LW
abbrev rm_L_glyph : Room := { frames := 8, cells := 1, slots := 6, locals := 123 }
def wp_L_glyph (S : St) (a : Int32) (P : Int32 → St → Prop) : Prop := wp_X10_glyph S a (fun r S1 => P 0 (stO S1 r.toInt64)) (fun e S2 => (e = nx_iae ∧ P 1 S2) ∨ (e = nx_ise ∧ P 2 S2))
set_option maxHeartbeats 4000000 in
set_option maxRecDepth 100000 in
theorem run_L_glyph {l : Launch} {g : Gx} {S : St} {a : Int32} {P : Int32 → St → Prop} (hl : l.stackTraces = false) (h : rowsLe S → wp_L_glyph S a P) : CHi g l yL_glyph cL_glyph 4 (some .int) [(0, 9, 12, 13), (0, 9, 15, 15)] rm_L_glyph [.ref (gad g 157), .int a, .ref (gad g 183)] S P := ch_entry (own := RL) (by decide) rfl (Nat.le_of_ble_eq_true rfl) rfl (fun hle f hf C hrt htab => by
  subst hf
  replace h := h hle
  obtain ⟨T0, hT⟩ : ∃ T, S.2.2.1 = T := ⟨_, rfl⟩
  rw [hT]
  unfold wp_L_glyph at h
  refine ww_aload_n C dL_glyph_0 2 rfl ?_
  refine ww_iconst (v := 0) C dL_glyph_1 (by decide) ?_
  refine ww_aload_n C dL_glyph_2 0 rfl ?_
  refine ww_iload_n C dL_glyph_3 1 rfl ?_
  refine ww_t2i (As := [.int a]) (rest := [.int 0, .ref (gad g 183)]) C htab (by decide) (by decide) bw_247 C.2.2.2.2.2.2.2.1.2.1 (by decide) bw_248 C.2.2.2.2.2.2.2.1.2.2.2.2.2.2.2.1 C.2.2.2.2.2.2.2.1.2.2.1 ok_X10_glyph bw_249 dL_glyph_4 (run_X10_glyph hl (fun _ => h)) rc_FontPacker rfl ⟨(Nat.le_of_ble_eq_true rfl), (Nat.le_of_ble_eq_true rfl)⟩ (Nat.le_of_ble_eq_true rfl) (c2 := 1) (s2 := 6) rfl rfl ⟨(Nat.le_of_ble_eq_true rfl), (Nat.le_of_ble_eq_true rfl)⟩ rfl (fun r S1 h hTg => ?_) (fun xq S1 h hTg => ?_) (fun xq S1 h hTg => ?_)
  · refine ww_i2l C dL_glyph_7 ?_
    refine ww_last C dL_glyph_8 ?_
    refine ww_goto (tgt := 18) C dL_glyph_9 (by decide) ?_
    refine ww_iconst (v := 0) C dL_glyph_18 (by decide) ?_
    exact ww_iret C hrt dL_glyph_19 (hTg.trans hT) h
  · refine ww_astore_n (lv2 := [(3, .ref xq), (0, .ref (gad g 157)), (1, .int a), (2, .ref (gad g 183))]) C dL_glyph_12 rfl (Nat.le_of_ble_eq_true rfl) rfl ?_
    refine ww_iconst (v := 1) C dL_glyph_13 (by decide) ?_
    exact ww_iret C hrt dL_glyph_14 (hTg.trans hT) h
  · refine ww_astore_n (lv2 := [(3, .ref xq), (0, .ref (gad g 157)), (1, .int a), (2, .ref (gad g 183))]) C dL_glyph_15 rfl (Nat.le_of_ble_eq_true rfl) rfl ?_
    refine ww_iconst (v := 2) C dL_glyph_16 (by decide) ?_
    exact ww_iret C hrt dL_glyph_17 (hTg.trans hT) h)
abbrev rm_L_contour : Room := { frames := 8, cells := 1, slots := 6, locals := 123 }
def wp_L_contour (S : St)  (P : Int32 → St → Prop) : Prop := wp_X10_contour S  (fun r S1 => P 0 (stO S1 r.toInt64)) (fun e S2 => e = nx_ise ∧ P 1 S2)
set_option maxHeartbeats 4000000 in
set_option maxRecDepth 100000 in
theorem run_L_contour {l : Launch} {g : Gx} {S : St}  {P : Int32 → St → Prop} (hl : l.stackTraces = false) (h : rowsLe S → wp_L_contour S  P) : CHi g l yL_contour cL_contour 3 (some .int) [(0, 8, 11, 15)] rm_L_contour [.ref (gad g 157), .ref (gad g 183)] S P := ch_entry (own := RL) (by decide) rfl (Nat.le_of_ble_eq_true rfl) rfl (fun hle f hf C hrt htab => by
  subst hf
  replace h := h hle
  obtain ⟨T0, hT⟩ : ∃ T, S.2.2.1 = T := ⟨_, rfl⟩
  rw [hT]
  unfold wp_L_contour at h
  refine ww_aload_n C dL_contour_0 1 rfl ?_
  refine ww_iconst (v := 0) C dL_contour_1 (by decide) ?_
  refine ww_aload_n C dL_contour_2 0 rfl ?_
  refine ww_t1i (As := []) (rest := [.int 0, .ref (gad g 183)]) C htab (by decide) (by decide) bw_248 C.2.2.2.2.2.2.2.1.2.2.1 ok_X10_contour bw_386 dL_contour_3 (run_X10_contour hl (fun _ => h)) rc_FontPacker rfl ⟨(Nat.le_of_ble_eq_true rfl), (Nat.le_of_ble_eq_true rfl)⟩ (Nat.le_of_ble_eq_true rfl) (c2 := 1) (s2 := 6) rfl rfl ⟨(Nat.le_of_ble_eq_true rfl), (Nat.le_of_ble_eq_true rfl)⟩ rfl (fun r S1 h hTg => ?_) (fun xq S1 h hTg => ?_)
  · refine ww_i2l C dL_contour_6 ?_
    refine ww_last C dL_contour_7 ?_
    refine ww_goto (tgt := 14) C dL_contour_8 (by decide) ?_
    refine ww_iconst (v := 0) C dL_contour_14 (by decide) ?_
    exact ww_iret C hrt dL_contour_15 (hTg.trans hT) h
  · refine ww_astore_n (lv2 := [(2, .ref xq), (0, .ref (gad g 157)), (1, .ref (gad g 183))]) C dL_contour_11 rfl (Nat.le_of_ble_eq_true rfl) rfl ?_
    refine ww_iconst (v := 1) C dL_contour_12 (by decide) ?_
    exact ww_iret C hrt dL_contour_13 (hTg.trans hT) h)
abbrev rm_L_point : Room := { frames := 7, cells := 1, slots := 6, locals := 106 }
def wp_L_point (S : St) (x : Int32) (y : Int32) (o : Int32) (P : Int32 → St → Prop) : Prop := wp_X10_point S x y o (fun r S1 => P 0 (stO S1 r.toInt64)) (fun e S2 => (e = nx_iae ∧ P 1 S2) ∨ (e = nx_ise ∧ P 2 S2))
set_option maxHeartbeats 4000000 in
set_option maxRecDepth 100000 in
theorem run_L_point {l : Launch} {g : Gx} {S : St} {x : Int32} {y : Int32} {o : Int32} {P : Int32 → St → Prop} (hl : l.stackTraces = false) (h : rowsLe S → wp_L_point S x y o P) : CHi g l yL_point cL_point 6 (some .int) [(0, 12, 15, 13), (0, 12, 19, 15)] rm_L_point [.ref (gad g 157), .int x, .int y, .int o, .ref (gad g 183)] S P := ch_entry (own := RL) (by decide) rfl (Nat.le_of_ble_eq_true rfl) rfl (fun hle f hf C hrt htab => by
  subst hf
  replace h := h hle
  obtain ⟨T0, hT⟩ : ∃ T, S.2.2.1 = T := ⟨_, rfl⟩
  rw [hT]
  unfold wp_L_point at h
  refine ww_aload C dL_point_0 4 rfl ?_
  refine ww_iconst (v := 0) C dL_point_2 (by decide) ?_
  refine ww_aload_n C dL_point_3 0 rfl ?_
  refine ww_iload_n C dL_point_4 1 rfl ?_
  refine ww_iload_n C dL_point_5 2 rfl ?_
  refine ww_iload_n C dL_point_6 3 rfl ?_
  refine ww_t2i (As := [.int x, .int y, .int o]) (rest := [.int 0, .ref (gad g 183)]) C htab (by decide) (by decide) bw_247 C.2.2.2.2.2.2.2.1.2.1 (by decide) bw_248 C.2.2.2.2.2.2.2.1.2.2.2.2.2.2.2.1 C.2.2.2.2.2.2.2.1.2.2.1 ok_X10_point bw_413 dL_point_7 (run_X10_point hl (fun _ => h)) rc_FontPacker rfl ⟨(Nat.le_of_ble_eq_true rfl), (Nat.le_of_ble_eq_true rfl)⟩ (Nat.le_of_ble_eq_true rfl) (c2 := 1) (s2 := 6) rfl rfl ⟨(Nat.le_of_ble_eq_true rfl), (Nat.le_of_ble_eq_true rfl)⟩ rfl (fun r S1 h hTg => ?_) (fun xq S1 h hTg => ?_) (fun xq S1 h hTg => ?_)
  · refine ww_i2l C dL_point_10 ?_
    refine ww_last C dL_point_11 ?_
    refine ww_goto (tgt := 23) C dL_point_12 (by decide) ?_
    refine ww_iconst (v := 0) C dL_point_23 (by decide) ?_
    exact ww_iret C hrt dL_point_24 (hTg.trans hT) h
  · refine ww_astore (lv2 := [(5, .ref xq), (0, .ref (gad g 157)), (1, .int x), (2, .int y), (3, .int o), (4, .ref (gad g 183))]) C dL_point_15 (Nat.le_of_ble_eq_true rfl) rfl ?_
    refine ww_iconst (v := 1) C dL_point_17 (by decide) ?_
    exact ww_iret C hrt dL_point_18 (hTg.trans hT) h
  · refine ww_astore (lv2 := [(5, .ref xq), (0, .ref (gad g 157)), (1, .int x), (2, .int y), (3, .int o), (4, .ref (gad g 183))]) C dL_point_19 (Nat.le_of_ble_eq_true rfl) rfl ?_
    refine ww_iconst (v := 2) C dL_point_21 (by decide) ?_
    exact ww_iret C hrt dL_point_22 (hTg.trans hT) h)
abbrev rm_L_table : Room := { frames := 7, cells := 1, slots := 6, locals := 107 }
def wp_L_table (S : St) (t : Int32) (a : Int64) (n : Int32) (P : Int32 → St → Prop) : Prop := wp_X10_table S t a n (fun r S1 => P 0 (stO S1 r.toInt64)) (fun e S2 => (e = nx_iae ∧ P 1 S2) ∨ (e = nx_ise ∧ P 2 S2))
set_option maxHeartbeats 4000000 in
set_option maxRecDepth 100000 in
theorem run_L_table {l : Launch} {g : Gx} {S : St} {t : Int32} {a : Int64} {n : Int32} {P : Int32 → St → Prop} (hl : l.stackTraces = false) (h : rowsLe S → wp_L_table S t a n P) : CHi g l yL_table cL_table 7 (some .int) [(0, 13, 16, 13), (0, 13, 20, 15)] rm_L_table [.ref (gad g 157), .int t, .long a, .int n, .ref (gad g 183)] S P := ch_entry (own := RL) (by decide) rfl (Nat.le_of_ble_eq_true rfl) rfl (fun hle f hf C hrt htab => by
  subst hf
  replace h := h hle
  obtain ⟨T0, hT⟩ : ∃ T, S.2.2.1 = T := ⟨_, rfl⟩
  rw [hT]
  unfold wp_L_table at h
  refine ww_aload C dL_table_0 4 rfl ?_
  refine ww_iconst (v := 0) C dL_table_2 (by decide) ?_
  refine ww_aload_n C dL_table_3 0 rfl ?_
  refine ww_iload_n C dL_table_4 1 rfl ?_
  refine ww_lload_n C dL_table_5 2 rfl ?_
  refine ww_iload C dL_table_6 3 rfl ?_
  refine ww_t2i (As := [.int t, .long a, .int n]) (rest := [.int 0, .ref (gad g 183)]) C htab (by decide) (by decide) bw_247 C.2.2.2.2.2.2.2.1.2.1 (by decide) bw_248 C.2.2.2.2.2.2.2.1.2.2.2.2.2.2.2.1 C.2.2.2.2.2.2.2.1.2.2.1 ok_X10_table bw_437 dL_table_8 (run_X10_table hl (fun _ => h)) rc_FontPacker rfl ⟨(Nat.le_of_ble_eq_true rfl), (Nat.le_of_ble_eq_true rfl)⟩ (Nat.le_of_ble_eq_true rfl) (c2 := 1) (s2 := 6) rfl rfl ⟨(Nat.le_of_ble_eq_true rfl), (Nat.le_of_ble_eq_true rfl)⟩ rfl (fun r S1 h hTg => ?_) (fun xq S1 h hTg => ?_) (fun xq S1 h hTg => ?_)
  · refine ww_i2l C dL_table_11 ?_
    refine ww_last C dL_table_12 ?_
    refine ww_goto (tgt := 24) C dL_table_13 (by decide) ?_
    refine ww_iconst (v := 0) C dL_table_24 (by decide) ?_
    exact ww_iret C hrt dL_table_25 (hTg.trans hT) h
  · refine ww_astore (lv2 := [(6, .ref xq), (0, .ref (gad g 157)), (1, .int t), (2, .long a), (4, .int n), (5, .ref (gad g 183))]) C dL_table_16 (Nat.le_of_ble_eq_true rfl) rfl ?_
    refine ww_iconst (v := 1) C dL_table_18 (by decide) ?_
    exact ww_iret C hrt dL_table_19 (hTg.trans hT) h
  · refine ww_astore (lv2 := [(6, .ref xq), (0, .ref (gad g 157)), (1, .int t), (2, .long a), (4, .int n), (5, .ref (gad g 183))]) C dL_table_20 (Nat.le_of_ble_eq_true rfl) rfl ?_
    refine ww_iconst (v := 2) C dL_table_22 (by decide) ?_
    exact ww_iret C hrt dL_table_23 (hTg.trans hT) h)
abbrev rm_L_pack : Room := { frames := 8, cells := 2, slots := 9, locals := 162 }
def wp_L_pack (S : St)  (P : Int32 → St → Prop) : Prop := wp_X10_pack S  (fun r S1 => P 0 (stO S1 r.toInt64)) (fun e S2 => e = nx_ise ∧ P 1 S2)
set_option maxHeartbeats 4000000 in
set_option maxRecDepth 100000 in
theorem run_L_pack {l : Launch} {g : Gx} {S : St}  {P : Int32 → St → Prop} (hl : l.stackTraces = false) (h : rowsLe S → wp_L_pack S  P) : CHi g l yL_pack cL_pack 3 (some .int) [(0, 8, 11, 15)] rm_L_pack [.ref (gad g 157), .ref (gad g 183)] S P := ch_entry (own := RL) (by decide) rfl (Nat.le_of_ble_eq_true rfl) rfl (fun hle f hf C hrt htab => by
  subst hf
  replace h := h hle
  obtain ⟨T0, hT⟩ : ∃ T, S.2.2.1 = T := ⟨_, rfl⟩
  rw [hT]
  unfold wp_L_pack at h
  refine ww_aload_n C dL_pack_0 1 rfl ?_
  refine ww_iconst (v := 0) C dL_pack_1 (by decide) ?_
  refine ww_aload_n C dL_pack_2 0 rfl ?_
  refine ww_t1i (As := []) (rest := [.int 0, .ref (gad g 183)]) C htab (by decide) (by decide) bw_248 C.2.2.2.2.2.2.2.1.2.2.1 ok_X10_pack bw_458 dL_pack_3 (run_X10_pack hl (fun _ => h)) rc_FontPacker rfl ⟨(Nat.le_of_ble_eq_true rfl), (Nat.le_of_ble_eq_true rfl)⟩ (Nat.le_of_ble_eq_true rfl) (c2 := 2) (s2 := 9) rfl rfl ⟨(Nat.le_of_ble_eq_true rfl), (Nat.le_of_ble_eq_true rfl)⟩ rfl (fun r S1 h hTg => ?_) (fun xq S1 h hTg => ?_)
  · refine ww_i2l C dL_pack_6 ?_
    refine ww_last C dL_pack_7 ?_
    refine ww_goto (tgt := 14) C dL_pack_8 (by decide) ?_
    refine ww_iconst (v := 0) C dL_pack_14 (by decide) ?_
    exact ww_iret C hrt dL_pack_15 (hTg.trans hT) h
  · refine ww_astore_n (lv2 := [(2, .ref xq), (0, .ref (gad g 157)), (1, .ref (gad g 183))]) C dL_pack_11 rfl (Nat.le_of_ble_eq_true rfl) rfl ?_
    refine ww_iconst (v := 1) C dL_pack_12 (by decide) ?_
    exact ww_iret C hrt dL_pack_13 (hTg.trans hT) h)
abbrev rm_L_plain : Room := { frames := 8, cells := 1, slots := 6, locals := 157 }
def wp_L_plain (S : St)  (P : Int32 → St → Prop) : Prop := wp_X10_plain S  (fun r S1 => P 0 (stO S1 r.toInt64)) (fun e S2 => e = nx_ise ∧ P 1 S2)
set_option maxHeartbeats 4000000 in
set_option maxRecDepth 100000 in
theorem run_L_plain {l : Launch} {g : Gx} {S : St}  {P : Int32 → St → Prop} (hl : l.stackTraces = false) (h : rowsLe S → wp_L_plain S  P) : CHi g l yL_plain cL_plain 3 (some .int) [(0, 8, 11, 15)] rm_L_plain [.ref (gad g 157), .ref (gad g 183)] S P := ch_entry (own := RL) (by decide) rfl (Nat.le_of_ble_eq_true rfl) rfl (fun hle f hf C hrt htab => by
  subst hf
  replace h := h hle
  obtain ⟨T0, hT⟩ : ∃ T, S.2.2.1 = T := ⟨_, rfl⟩
  rw [hT]
  unfold wp_L_plain at h
  refine ww_aload_n C dL_plain_0 1 rfl ?_
  refine ww_iconst (v := 0) C dL_plain_1 (by decide) ?_
  refine ww_aload_n C dL_plain_2 0 rfl ?_
  refine ww_t1i (As := []) (rest := [.int 0, .ref (gad g 183)]) C htab (by decide) (by decide) bw_248 C.2.2.2.2.2.2.2.1.2.2.1 ok_X10_plain bw_627 dL_plain_3 (run_X10_plain hl (fun _ => h)) rc_FontPacker rfl ⟨(Nat.le_of_ble_eq_true rfl), (Nat.le_of_ble_eq_true rfl)⟩ (Nat.le_of_ble_eq_true rfl) (c2 := 1) (s2 := 6) rfl rfl ⟨(Nat.le_of_ble_eq_true rfl), (Nat.le_of_ble_eq_true rfl)⟩ rfl (fun r S1 h hTg => ?_) (fun xq S1 h hTg => ?_)
  · refine ww_i2l C dL_plain_6 ?_
    refine ww_last C dL_plain_7 ?_
    refine ww_goto (tgt := 14) C dL_plain_8 (by decide) ?_
    refine ww_iconst (v := 0) C dL_plain_14 (by decide) ?_
    exact ww_iret C hrt dL_plain_15 (hTg.trans hT) h
  · refine ww_astore_n (lv2 := [(2, .ref xq), (0, .ref (gad g 157)), (1, .ref (gad g 183))]) C dL_plain_11 rfl (Nat.le_of_ble_eq_true rfl) rfl ?_
    refine ww_iconst (v := 1) C dL_plain_12 (by decide) ?_
    exact ww_iret C hrt dL_plain_13 (hTg.trans hT) h)
abbrev rm_L_read : Room := { frames := 7, cells := 7, slots := 30, locals := 169 }
def wp_L_read (S : St)  (P : Int32 → St → Prop) : Prop := wp_X10_read S  (fun r S1 => P 0 (stO S1 r.toInt64)) (fun e S2 => e = nx_iae ∧ P 1 S2)
set_option maxHeartbeats 4000000 in
set_option maxRecDepth 100000 in
theorem run_L_read {l : Launch} {g : Gx} {S : St}  {P : Int32 → St → Prop} (hl : l.stackTraces = false) (h : rowsLe S → wp_L_read S  P) : CHi g l yL_read cL_read 3 (some .int) [(0, 8, 11, 13)] rm_L_read [.ref (gad g 157), .ref (gad g 183)] S P := ch_entry (own := RL) (by decide) rfl (Nat.le_of_ble_eq_true rfl) rfl (fun hle f hf C hrt htab => by
  subst hf
  replace h := h hle
  obtain ⟨T0, hT⟩ : ∃ T, S.2.2.1 = T := ⟨_, rfl⟩
  rw [hT]
  unfold wp_L_read at h
  refine ww_aload_n C dL_read_0 1 rfl ?_
  refine ww_iconst (v := 0) C dL_read_1 (by decide) ?_
  refine ww_aload_n C dL_read_2 0 rfl ?_
  refine ww_t1i (As := []) (rest := [.int 0, .ref (gad g 183)]) C htab (by decide) (by decide) bw_247 C.2.2.2.2.2.2.2.1.2.1 ok_X10_read bw_651 dL_read_3 (run_X10_read hl (fun _ => h)) rc_FontPacker rfl ⟨(Nat.le_of_ble_eq_true rfl), (Nat.le_of_ble_eq_true rfl)⟩ (Nat.le_of_ble_eq_true rfl) (c2 := 7) (s2 := 30) rfl rfl ⟨(Nat.le_of_ble_eq_true rfl), (Nat.le_of_ble_eq_true rfl)⟩ rfl (fun r S1 h hTg => ?_) (fun xq S1 h hTg => ?_)
  · refine ww_i2l C dL_read_6 ?_
    refine ww_last C dL_read_7 ?_
    refine ww_goto (tgt := 14) C dL_read_8 (by decide) ?_
    refine ww_iconst (v := 0) C dL_read_14 (by decide) ?_
    exact ww_iret C hrt dL_read_15 (hTg.trans hT) h
  · refine ww_astore_n (lv2 := [(2, .ref xq), (0, .ref (gad g 157)), (1, .ref (gad g 183))]) C dL_read_11 rfl (Nat.le_of_ble_eq_true rfl) rfl ?_
    refine ww_iconst (v := 1) C dL_read_12 (by decide) ?_
    exact ww_iret C hrt dL_read_13 (hTg.trans hT) h)
abbrev rm_L_put : Room := { frames := 7, cells := 1, slots := 6, locals := 105 }
def wp_L_put (S : St) (a : Int64) (n : Int32) (P : Int32 → St → Prop) : Prop := wp_X10_put S a n (fun r S1 => P 0 (stO S1 r.toInt64)) (fun e S2 => (e = nx_iae ∧ P 1 S2) ∨ (e = nx_ise ∧ P 2 S2))
set_option maxHeartbeats 4000000 in
set_option maxRecDepth 100000 in
theorem run_L_put {l : Launch} {g : Gx} {S : St} {a : Int64} {n : Int32} {P : Int32 → St → Prop} (hl : l.stackTraces = false) (h : rowsLe S → wp_L_put S a n P) : CHi g l yL_put cL_put 6 (some .int) [(0, 11, 14, 13), (0, 11, 18, 15)] rm_L_put [.ref (gad g 157), .long a, .int n, .ref (gad g 183)] S P := ch_entry (own := RL) (by decide) rfl (Nat.le_of_ble_eq_true rfl) rfl (fun hle f hf C hrt htab => by
  subst hf
  replace h := h hle
  obtain ⟨T0, hT⟩ : ∃ T, S.2.2.1 = T := ⟨_, rfl⟩
  rw [hT]
  unfold wp_L_put at h
  refine ww_aload C dL_put_0 3 rfl ?_
  refine ww_iconst (v := 0) C dL_put_2 (by decide) ?_
  refine ww_aload_n C dL_put_3 0 rfl ?_
  refine ww_lload_n C dL_put_4 1 rfl ?_
  refine ww_iload_n C dL_put_5 2 rfl ?_
  refine ww_t2i (As := [.long a, .int n]) (rest := [.int 0, .ref (gad g 183)]) C htab (by decide) (by decide) bw_247 C.2.2.2.2.2.2.2.1.2.1 (by decide) bw_248 C.2.2.2.2.2.2.2.1.2.2.2.2.2.2.2.1 C.2.2.2.2.2.2.2.1.2.2.1 ok_X10_put bw_827 dL_put_6 (run_X10_put hl (fun _ => h)) rc_FontPacker rfl ⟨(Nat.le_of_ble_eq_true rfl), (Nat.le_of_ble_eq_true rfl)⟩ (Nat.le_of_ble_eq_true rfl) (c2 := 1) (s2 := 6) rfl rfl ⟨(Nat.le_of_ble_eq_true rfl), (Nat.le_of_ble_eq_true rfl)⟩ rfl (fun r S1 h hTg => ?_) (fun xq S1 h hTg => ?_) (fun xq S1 h hTg => ?_)
  · refine ww_i2l C dL_put_9 ?_
    refine ww_last C dL_put_10 ?_
    refine ww_goto (tgt := 22) C dL_put_11 (by decide) ?_
    refine ww_iconst (v := 0) C dL_put_22 (by decide) ?_
    exact ww_iret C hrt dL_put_23 (hTg.trans hT) h
  · refine ww_astore (lv2 := [(5, .ref xq), (0, .ref (gad g 157)), (1, .long a), (3, .int n), (4, .ref (gad g 183))]) C dL_put_14 (Nat.le_of_ble_eq_true rfl) rfl ?_
    refine ww_iconst (v := 1) C dL_put_16 (by decide) ?_
    exact ww_iret C hrt dL_put_17 (hTg.trans hT) h
  · refine ww_astore (lv2 := [(5, .ref xq), (0, .ref (gad g 157)), (1, .long a), (3, .int n), (4, .ref (gad g 183))]) C dL_put_18 (Nat.le_of_ble_eq_true rfl) rfl ?_
    refine ww_iconst (v := 2) C dL_put_20 (by decide) ?_
    exact ww_iret C hrt dL_put_21 (hTg.trans hT) h)
abbrev rm_L_set : Room := { frames := 8, cells := 2, slots := 12, locals := 125 }
def wp_L_set (S : St) (k : Int32) (b : Int32) (P : Int32 → St → Prop) : Prop := wp_X10_set S k b (fun S1 => P 0 S1) (fun e S2 => (e = nx_ioe ∧ P 1 S2) ∨ (e = nx_iae ∧ P 2 S2))
set_option maxHeartbeats 4000000 in
set_option maxRecDepth 100000 in
theorem run_L_set {l : Launch} {g : Gx} {S : St} {k : Int32} {b : Int32} {P : Int32 → St → Prop} (hl : l.stackTraces = false) (h : rowsLe S → wp_L_set S k b P) : CHi g l yL_set cL_set 4 (some .int) [(0, 6, 9, 46), (0, 6, 12, 13)] rm_L_set [.ref (gad g 157), .int k, .int b] S P := ch_entry (own := RL) (by decide) rfl (Nat.le_of_ble_eq_true rfl) rfl (fun hle f hf C hrt htab => by
  subst hf
  replace h := h hle
  obtain ⟨T0, hT⟩ : ∃ T, S.2.2.1 = T := ⟨_, rfl⟩
  rw [hT]
  unfold wp_L_set at h
  refine ww_aload_n C dL_set_0 0 rfl ?_
  refine ww_iload_n C dL_set_1 1 rfl ?_
  refine ww_iload_n C dL_set_2 2 rfl ?_
  refine ww_t2v (As := [.int k, .int b]) (rest := []) C htab (by decide) (by decide) bw_835 C.2.2.2.2.2.2.2.1.2.2.2.1 (by decide) bw_247 C.2.2.2.2.2.2.2.1.2.2.2.2.2.2.2.2.1 C.2.2.2.2.2.2.2.1.2.1 ok_X10_set bw_836 dL_set_3 (run_X10_set hl (fun _ => h)) rc_FontPacker rfl ⟨(Nat.le_of_ble_eq_true rfl), (Nat.le_of_ble_eq_true rfl)⟩ (Nat.le_of_ble_eq_true rfl) (c2 := 2) (s2 := 12) rfl rfl ⟨(Nat.le_of_ble_eq_true rfl), (Nat.le_of_ble_eq_true rfl)⟩ rfl (fun S1 h hTg => ?_) (fun xq S1 h hTg => ?_) (fun xq S1 h hTg => ?_)
  · refine ww_goto (tgt := 15) C dL_set_6 (by decide) ?_
    refine ww_iconst (v := 0) C dL_set_15 (by decide) ?_
    exact ww_iret C hrt dL_set_16 (hTg.trans hT) h
  · refine ww_astore_n (lv2 := [(3, .ref xq), (0, .ref (gad g 157)), (1, .int k), (2, .int b)]) C dL_set_9 rfl (Nat.le_of_ble_eq_true rfl) rfl ?_
    refine ww_iconst (v := 1) C dL_set_10 (by decide) ?_
    exact ww_iret C hrt dL_set_11 (hTg.trans hT) h
  · refine ww_astore_n (lv2 := [(3, .ref xq), (0, .ref (gad g 157)), (1, .int k), (2, .int b)]) C dL_set_12 rfl (Nat.le_of_ble_eq_true rfl) rfl ?_
    refine ww_iconst (v := 2) C dL_set_13 (by decide) ?_
    exact ww_iret C hrt dL_set_14 (hTg.trans hT) h)
abbrev rm_L_cut : Room := { frames := 7, cells := 1, slots := 6, locals := 103 }
def wp_L_cut (S : St) (n : Int32) (P : Int32 → St → Prop) : Prop := wp_X10_cut S n (fun S1 => P 0 S1) (fun e S2 => e = nx_iae ∧ P 1 S2)
set_option maxHeartbeats 4000000 in
set_option maxRecDepth 100000 in
theorem run_L_cut {l : Launch} {g : Gx} {S : St} {n : Int32} {P : Int32 → St → Prop} (hl : l.stackTraces = false) (h : rowsLe S → wp_L_cut S n P) : CHi g l yL_cut cL_cut 3 (some .int) [(0, 5, 8, 13)] rm_L_cut [.ref (gad g 157), .int n] S P := ch_entry (own := RL) (by decide) rfl (Nat.le_of_ble_eq_true rfl) rfl (fun hle f hf C hrt htab => by
  subst hf
  replace h := h hle
  obtain ⟨T0, hT⟩ : ∃ T, S.2.2.1 = T := ⟨_, rfl⟩
  rw [hT]
  unfold wp_L_cut at h
  refine ww_aload_n C dL_cut_0 0 rfl ?_
  refine ww_iload_n C dL_cut_1 1 rfl ?_
  refine ww_t1v (As := [.int n]) (rest := []) C htab (by decide) (by decide) bw_247 C.2.2.2.2.2.2.2.1.2.1 ok_X10_cut bw_865 dL_cut_2 (run_X10_cut hl (fun _ => h)) rc_FontPacker rfl ⟨(Nat.le_of_ble_eq_true rfl), (Nat.le_of_ble_eq_true rfl)⟩ (Nat.le_of_ble_eq_true rfl) (c2 := 1) (s2 := 6) rfl rfl ⟨(Nat.le_of_ble_eq_true rfl), (Nat.le_of_ble_eq_true rfl)⟩ rfl (fun S1 h hTg => ?_) (fun xq S1 h hTg => ?_)
  · refine ww_goto (tgt := 11) C dL_cut_5 (by decide) ?_
    refine ww_iconst (v := 0) C dL_cut_11 (by decide) ?_
    exact ww_iret C hrt dL_cut_12 (hTg.trans hT) h
  · refine ww_astore_n (lv2 := [(2, .ref xq), (0, .ref (gad g 157)), (1, .int n)]) C dL_cut_8 rfl (Nat.le_of_ble_eq_true rfl) rfl ?_
    refine ww_iconst (v := 1) C dL_cut_9 (by decide) ?_
    exact ww_iret C hrt dL_cut_10 (hTg.trans hT) h)
abbrev rm_L_at : Room := { frames := 8, cells := 1, slots := 6, locals := 124 }
def wp_L_at (S : St) (k : Int32) (P : Int32 → St → Prop) : Prop := wp_X10_at S k (fun r S1 => P 0 (stO S1 r.toInt64)) (fun e S2 => e = nx_ioe ∧ P 1 S2)
set_option maxHeartbeats 4000000 in
set_option maxRecDepth 100000 in
theorem run_L_at {l : Launch} {g : Gx} {S : St} {k : Int32} {P : Int32 → St → Prop} (hl : l.stackTraces = false) (h : rowsLe S → wp_L_at S k P) : CHi g l yL_at cL_at 4 (some .int) [(0, 9, 12, 46)] rm_L_at [.ref (gad g 157), .int k, .ref (gad g 183)] S P := ch_entry (own := RL) (by decide) rfl (Nat.le_of_ble_eq_true rfl) rfl (fun hle f hf C hrt htab => by
  subst hf
  replace h := h hle
  obtain ⟨T0, hT⟩ : ∃ T, S.2.2.1 = T := ⟨_, rfl⟩
  rw [hT]
  unfold wp_L_at at h
  refine ww_aload_n C dL_at_0 2 rfl ?_
  refine ww_iconst (v := 0) C dL_at_1 (by decide) ?_
  refine ww_aload_n C dL_at_2 0 rfl ?_
  refine ww_iload_n C dL_at_3 1 rfl ?_
  refine ww_t1i (As := [.int k]) (rest := [.int 0, .ref (gad g 183)]) C htab (by decide) (by decide) bw_835 C.2.2.2.2.2.2.2.1.2.2.2.1 ok_X10_at bw_877 dL_at_4 (run_X10_at hl (fun _ => h)) rc_FontPacker rfl ⟨(Nat.le_of_ble_eq_true rfl), (Nat.le_of_ble_eq_true rfl)⟩ (Nat.le_of_ble_eq_true rfl) (c2 := 1) (s2 := 6) rfl rfl ⟨(Nat.le_of_ble_eq_true rfl), (Nat.le_of_ble_eq_true rfl)⟩ rfl (fun r S1 h hTg => ?_) (fun xq S1 h hTg => ?_)
  · refine ww_i2l C dL_at_7 ?_
    refine ww_last C dL_at_8 ?_
    refine ww_goto (tgt := 15) C dL_at_9 (by decide) ?_
    refine ww_iconst (v := 0) C dL_at_15 (by decide) ?_
    exact ww_iret C hrt dL_at_16 (hTg.trans hT) h
  · refine ww_astore_n (lv2 := [(3, .ref xq), (0, .ref (gad g 157)), (1, .int k), (2, .ref (gad g 183))]) C dL_at_12 rfl (Nat.le_of_ble_eq_true rfl) rfl ?_
    refine ww_iconst (v := 1) C dL_at_13 (by decide) ?_
    exact ww_iret C hrt dL_at_14 (hTg.trans hT) h)
abbrev rm_L_count : Room := { frames := 8, cells := 1, slots := 6, locals := 124 }
def wp_L_count (S : St) (q : Int32) (P : Int32 → St → Prop) : Prop := wp_X10_count S q (fun r S1 => P 0 (stO S1 r.toInt64)) (fun e S2 => e = nx_iae ∧ P 1 S2)
set_option maxHeartbeats 4000000 in
set_option maxRecDepth 100000 in
theorem run_L_count {l : Launch} {g : Gx} {S : St} {q : Int32} {P : Int32 → St → Prop} (hl : l.stackTraces = false) (h : rowsLe S → wp_L_count S q P) : CHi g l yL_count cL_count 4 (some .int) [(0, 9, 12, 13)] rm_L_count [.ref (gad g 157), .int q, .ref (gad g 183)] S P := ch_entry (own := RL) (by decide) rfl (Nat.le_of_ble_eq_true rfl) rfl (fun hle f hf C hrt htab => by
  subst hf
  replace h := h hle
  obtain ⟨T0, hT⟩ : ∃ T, S.2.2.1 = T := ⟨_, rfl⟩
  rw [hT]
  unfold wp_L_count at h
  refine ww_aload_n C dL_count_0 2 rfl ?_
  refine ww_iconst (v := 0) C dL_count_1 (by decide) ?_
  refine ww_aload_n C dL_count_2 0 rfl ?_
  refine ww_iload_n C dL_count_3 1 rfl ?_
  refine ww_t1i (As := [.int q]) (rest := [.int 0, .ref (gad g 183)]) C htab (by decide) (by decide) bw_247 C.2.2.2.2.2.2.2.1.2.1 ok_X10_count bw_885 dL_count_4 (run_X10_count hl (fun _ => h)) rc_FontPacker rfl ⟨(Nat.le_of_ble_eq_true rfl), (Nat.le_of_ble_eq_true rfl)⟩ (Nat.le_of_ble_eq_true rfl) (c2 := 1) (s2 := 6) rfl rfl ⟨(Nat.le_of_ble_eq_true rfl), (Nat.le_of_ble_eq_true rfl)⟩ rfl (fun r S1 h hTg => ?_) (fun xq S1 h hTg => ?_)
  · refine ww_i2l C dL_count_7 ?_
    refine ww_last C dL_count_8 ?_
    refine ww_goto (tgt := 15) C dL_count_9 (by decide) ?_
    refine ww_iconst (v := 0) C dL_count_15 (by decide) ?_
    exact ww_iret C hrt dL_count_16 (hTg.trans hT) h
  · refine ww_astore_n (lv2 := [(3, .ref xq), (0, .ref (gad g 157)), (1, .int q), (2, .ref (gad g 183))]) C dL_count_12 rfl (Nat.le_of_ble_eq_true rfl) rfl ?_
    refine ww_iconst (v := 1) C dL_count_13 (by decide) ?_
    exact ww_iret C hrt dL_count_14 (hTg.trans hT) h)
abbrev rm_L_outline : Room := { frames := 8, cells := 2, slots := 12, locals := 127 }
def wp_L_outline (S : St) (q : Int32) (p : Int32) (w : Int32) (P : Int32 → St → Prop) : Prop := wp_X10_outline S q p w (fun r S1 => P 0 (stO S1 r.toInt64)) (fun e S2 => (e = nx_iae ∧ P 1 S2) ∨ (e = nx_ioe ∧ P 2 S2))
set_option maxHeartbeats 4000000 in
set_option maxRecDepth 100000 in
theorem run_L_outline {l : Launch} {g : Gx} {S : St} {q : Int32} {p : Int32} {w : Int32} {P : Int32 → St → Prop} (hl : l.stackTraces = false) (h : rowsLe S → wp_L_outline S q p w P) : CHi g l yL_outline cL_outline 6 (some .int) [(0, 12, 15, 13), (0, 12, 19, 46)] rm_L_outline [.ref (gad g 157), .int q, .int p, .int w, .ref (gad g 183)] S P := ch_entry (own := RL) (by decide) rfl (Nat.le_of_ble_eq_true rfl) rfl (fun hle f hf C hrt htab => by
  subst hf
  replace h := h hle
  obtain ⟨T0, hT⟩ : ∃ T, S.2.2.1 = T := ⟨_, rfl⟩
  rw [hT]
  unfold wp_L_outline at h
  refine ww_aload C dL_outline_0 4 rfl ?_
  refine ww_iconst (v := 0) C dL_outline_2 (by decide) ?_
  refine ww_aload_n C dL_outline_3 0 rfl ?_
  refine ww_iload_n C dL_outline_4 1 rfl ?_
  refine ww_iload_n C dL_outline_5 2 rfl ?_
  refine ww_iload_n C dL_outline_6 3 rfl ?_
  refine ww_t2i (As := [.int q, .int p, .int w]) (rest := [.int 0, .ref (gad g 183)]) C htab (by decide) (by decide) bw_247 C.2.2.2.2.2.2.2.1.2.1 (by decide) bw_835 C.2.2.2.2.2.2.2.1.2.2.2.2.2.2.2.2.2 C.2.2.2.2.2.2.2.1.2.2.2.1 ok_X10_outline bw_898 dL_outline_7 (run_X10_outline hl (fun _ => h)) rc_FontPacker rfl ⟨(Nat.le_of_ble_eq_true rfl), (Nat.le_of_ble_eq_true rfl)⟩ (Nat.le_of_ble_eq_true rfl) (c2 := 2) (s2 := 12) rfl rfl ⟨(Nat.le_of_ble_eq_true rfl), (Nat.le_of_ble_eq_true rfl)⟩ rfl (fun r S1 h hTg => ?_) (fun xq S1 h hTg => ?_) (fun xq S1 h hTg => ?_)
  · refine ww_i2l C dL_outline_10 ?_
    refine ww_last C dL_outline_11 ?_
    refine ww_goto (tgt := 23) C dL_outline_12 (by decide) ?_
    refine ww_iconst (v := 0) C dL_outline_23 (by decide) ?_
    exact ww_iret C hrt dL_outline_24 (hTg.trans hT) h
  · refine ww_astore (lv2 := [(5, .ref xq), (0, .ref (gad g 157)), (1, .int q), (2, .int p), (3, .int w), (4, .ref (gad g 183))]) C dL_outline_15 (Nat.le_of_ble_eq_true rfl) rfl ?_
    refine ww_iconst (v := 1) C dL_outline_17 (by decide) ?_
    exact ww_iret C hrt dL_outline_18 (hTg.trans hT) h
  · refine ww_astore (lv2 := [(5, .ref xq), (0, .ref (gad g 157)), (1, .int q), (2, .int p), (3, .int w), (4, .ref (gad g 183))]) C dL_outline_19 (Nat.le_of_ble_eq_true rfl) rfl ?_
    refine ww_iconst (v := 2) C dL_outline_21 (by decide) ?_
    exact ww_iret C hrt dL_outline_22 (hTg.trans hT) h)
