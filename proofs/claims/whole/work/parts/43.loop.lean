def R_law : String := "FontPackerLaw"
def lw_P (b : Addr) (xs : List Int32) (args : Array Value) (s : State) : Prop := args = #[.ref b] ∧ s.IntsAt b xs ∧ xs.length ≤ 320 ∧ (Jvm.Cond.and given_1 narrow_1).before args s = true
def lw_Q (_ : Array Value) (s : State) (o : Outcome) (t : State) : Prop := o = .returned (some (.int 1)) ∧ Framed s o t [] 600128 7301098
def lw_Z (below : List Frame) (a : Array Value) (s : State) : State → Prop := fun t => ∃ o, t.status = .running ∧ Ended t below o ∧ lw_Q a s o t
/-- the law's own end, with 1 on the stack, nothing written that was there before, its room as the claim has it -/
theorem lw_ret {p : Program} {l : Launch} {e : Env} {s : State} {m : MethodId} {below : List Frame} {meth : Method} {c : Code} {b : Nat} (hx : p.tables.exec = Jvm.exec) (hb : c.code = code) (hr : meth.sig.returnType = ret) (hlocks : meth.locks = false) {pc : Nat} {H : Heap} {ls : Array Slot} (hdg : decode code pc = .ok (.ireturn, 1)) : W p l e room_1 s m #[Value.ref b] below meth c H [] 600128 7301098 (lw_Z below #[Value.ref b] s) (F0 m pc ls [.int 1]) := by
  intro T hT X
  obtain ⟨fs, hret, hrun, hended, hW, hframe⟩ := X.leave (v := some (.int 1)) (hlocks := hlocks) (fun h => by rw [hr] at h; cases h)
  have hmeth' : T.vm.method? m = some meth := X.method'
  refine ⟨T.setFrames fs, ?_, .returned (some (.int 1)), hrun, hended, rfl, ⟨_, rfl⟩, hW, hframe⟩
  jvm_step X.here [X.here.top, hx, hb, hdg, hmeth', hr, ret, narrow_b1]
  (try refine ⟨rfl, ?_⟩); (try refine ⟨rfl, ?_⟩)
  first | (intro acts; rw [hret _ acts rfl rfl rfl]) | rw [hret _ _ rfl rfl rfl]
  exact Steps.refl _


section LL
variable {f : Fx} {R : Room} {g : Gx} {cc : ByteArray} {nL cells slots pc : Nat} {own : String} {Q : State → Prop} {S : St} {lv : List (Nat × Value)} {st : List Value}
def LwOK (f : Fx) (g : Gx) (b L : Nat) (xs : Nat → Int32) : Prop := va_X b L xs (fs f) (fs f).heap ∧ b < (fs f).heap.size ∧ gA g = (fun q => (fs f).heap.size ≤ q) ∧ fargs f = #[.ref b] ∧ f.2.1.stackTraces = false ∧ (fmeth f).sig.returnType = ret
theorem lw_nA {b L : Nat} {xs : Nat → Int32} (hw : LwOK f g b L xs) : ¬ gA g b := by rw [hw.2.2.1]; exact Nat.not_le.mpr hw.2.1
theorem ww_slen (C : Cx f g cc nL own) {b L : Nat} {xs : Nat → Int32} (hw : LwOK f g b L xs) (d : decode cc pc = .ok (.arraylength, 1)) (k : WW f R g nL cells slots Q S (pc + 1) lv (.int (nI L) :: st)) : WW f R g nL cells slots Q S pc lv (.ref b :: st) := fun H locs ls h hl => va_slen C.1 C.2.1 hw.1 hw.2.1 (lw_nA hw) (Hp.fr h) d (k H locs ls h hl)
theorem ww_sld (C : Cx f g cc nL own) {b L : Nat} {xs : Nat → Int32} {x : Int32} (hw : LwOK f g b L xs) (hin : vp_in x L) (d : decode cc pc = .ok (.iaload, 1)) (k : WW f R g nL cells slots Q S (pc + 1) lv (.int (xs x.toNatClampNeg) :: st)) : WW f R g nL cells slots Q S pc lv (.int x :: .ref b :: st) := fun H locs ls h hl => va_sld C.1 C.2.1 hw.1 hw.2.1 (lw_nA hw) (Hp.fr h) hin d (k H locs ls h hl)
theorem ww_lald (C : Cx f g cc nL own) (d : decode cc pc = .ok (.laload, 1)) (k : WW f R g nL cells slots Q S (pc + 1) lv (.long S.2.2.2 :: st)) : WW f R g nL cells slots Q S pc lv (.int 0 :: .ref (gad g 183) :: st) := by
  intro H locs ls h hl
  obtain ⟨Gb, h1, h2, h3, h4, h5⟩ := id h
  exact va_lald (f := fun _ => S.2.2.2) C.1 C.2.1 C.2.2.2.2.2.1 h2 183 2 (by rw [wl_get g S Gb (by omega), gw_183]) rfl (vp_in_nI (n := 0) (N := 1) (by omega) (by omega)) d (k H locs ls h hl)
theorem ww_lawend (C : Cx f g cL_law nL own) {b L : Nat} {xs : Nat → Int32} (hw : LwOK f g b L xs) (hc : cells ≤ 600128) (hs : slots ≤ 7301098) (d : decode cL_law pc = .ok (.ireturn, 1)) : WW f room_1 g nL cells slots (lw_Z (fbelow f) (fargs f) (fs f)) S pc lv [.int 1] := by
  intro H locs ls h hl
  have hS := Hp.fr h
  rw [hw.2.2.1] at hS
  refine va_forget hS.2.2 (W.widen hc hs ?_)
  have e := hw.2.2.2.1
  show W f.1 f.2.1 f.2.2.1 room_1 (fs f) (fm f) (fargs f) (fbelow f) (fmeth f) (fcode f) H [] 600128 7301098 (lw_Z (fbelow f) (fargs f) (fs f)) _
  rw [e]
  exact lw_ret C.1 C.2.1 hw.2.2.2.2.2 C.2.2.2.2.2.2.1 d
def HOK (y : MethodName) (cb : ByteArray) (nl : Nat) (ret : Option FieldType) (hh : List (Nat × Nat × Nat × Nat)) (n : Nat) : Prop := Cond.static y ∈ bw ∧ Cond.initialized y.cls ∈ bw ∧ Cond.codeWith y cb nl ret hh ∈ bw ∧ (y.cls ≠ "java/lang/invoke/MethodHandle" ∧ y.cls ≠ "java/lang/invoke/VarHandle" ∧ (parseMethodDescriptor y.desc).map (fun d => d.parameters.length) = some n)
theorem ww_cHi (C : Cx f g cc nL own) {y : MethodName} {cb : ByteArray} {nl n index : Nat} {ret : Option FieldType} {hh : List (Nat × Nat × Nat × Nat)} {rm : Room} {As rest : List Value} {P : Int32 → St → Prop} (hM : HOK y cb nl ret hh n) (hl : Cond.methodLink own index y ∈ bw) (d : decode cc pc = .ok (.invokestatic index, 3)) (hc : CHi g f.2.1 y cb nl ret hh rm As S P) (hn : As.length = n) (hR : rm.frames + 1 ≤ R.frames ∧ 8 + (nl + 11) + rm.locals ≤ R.locals) (hrm : (rest.map fun v => v.category).sum ≤ 8) {c2 s2 : Nat} (hc2 : cells + rm.cells = c2) (hs2 : slots + rm.slots = s2) (hf : c2 ≤ R.cells ∧ s2 ≤ R.slots) (hst : As.reverse ++ rest = st)
    (k : ∀ (r : Int32) (S2 : St), P r S2 → S2.2.2.1 = S.2.2.1 → WW f R g nL c2 s2 Q S2 (pc + 3) lv (.int r :: rest)) : WW f R g nL cells slots Q S pc lv st := by
  subst hst hc2 hs2
  obtain ⟨h1, h2, h4, h5⟩ := hM
  have hG : GoodIn bw (.codeWith y cb nl ret hh :: bw) := fun w hw => by
    have : w ∈ bw := by rcases List.mem_cons.mp hw with rfl | h2 <;> assumption
    exact ⟨this, good_of_word (bw_good this)⟩
  have cw : vx_CSW R (fs f) (fargs f) own index y cb nl ret hh (.codeWith y cb nl ret hh :: bw) rm rm.cells rm.slots n := ⟨⟨rfl, rfl, hR.1, hR.2, pay_in C.2.2.2.2.1 hG, List.mem_cons_self⟩, C.2.2.2.2.1 _ h4, C.2.2.2.2.1 _ h2, ⟨h5.1, h5.2.1⟩, fun sig h => by
    have h9 := h5.2.2
    rw [h] at h9
    exact (Option.some.inj h9).symm, C.2.2.2.2.1 _ hl, C.2.2.2.2.1 _ h1⟩
  exact fun H locs ls h hl2 => va_calli (vx_runSW (As := As) (rest := rest) (cx_fix C) hc cw ⟨hw_blind, cx_pre C h⟩ rfl hn hl2.1 rfl (lv_room hrm) d hf) (Hp.fr h) (fun _ _ z => z) (fun _ z => z) (fun r u t H1 locs1 ht hvm hp hB _ _ hS => k r u hp.1 hp.2 H1 locs1 ls (Hp.back ht hB hS (Hp.A h)) hl2)
end LL

theorem ok_L_glyph : HOK yL_glyph cL_glyph 4 (some .int) [(0, 9, 12, 13), (0, 9, 15, 15)] 3 := ⟨bw_245, bw_60, bw_at 246 (by decide +kernel) (by decide +kernel), by decide +kernel⟩
theorem ok_L_contour : HOK yL_contour cL_contour 3 (some .int) [(0, 8, 11, 15)] 2 := ⟨bw_384, bw_60, bw_at 385 (by decide +kernel) (by decide +kernel), by decide +kernel⟩
theorem ok_L_point : HOK yL_point cL_point 6 (some .int) [(0, 12, 15, 13), (0, 12, 19, 15)] 5 := ⟨bw_411, bw_60, bw_at 412 (by decide +kernel) (by decide +kernel), by decide +kernel⟩
theorem ok_L_table : HOK yL_table cL_table 7 (some .int) [(0, 13, 16, 13), (0, 13, 20, 15)] 5 := ⟨bw_435, bw_60, bw_at 436 (by decide +kernel) (by decide +kernel), by decide +kernel⟩
theorem ok_L_pack : HOK yL_pack cL_pack 3 (some .int) [(0, 8, 11, 15)] 2 := ⟨bw_456, bw_60, bw_at 457 (by decide +kernel) (by decide +kernel), by decide +kernel⟩
theorem ok_L_plain : HOK yL_plain cL_plain 3 (some .int) [(0, 8, 11, 15)] 2 := ⟨bw_625, bw_60, bw_at 626 (by decide +kernel) (by decide +kernel), by decide +kernel⟩
theorem ok_L_read : HOK yL_read cL_read 3 (some .int) [(0, 8, 11, 13)] 2 := ⟨bw_649, bw_60, bw_at 650 (by decide +kernel) (by decide +kernel), by decide +kernel⟩
theorem ok_L_put : HOK yL_put cL_put 6 (some .int) [(0, 11, 14, 13), (0, 11, 18, 15)] 4 := ⟨bw_825, bw_60, bw_at 826 (by decide +kernel) (by decide +kernel), by decide +kernel⟩
theorem ok_L_set : HOK yL_set cL_set 4 (some .int) [(0, 6, 9, 46), (0, 6, 12, 13)] 3 := ⟨bw_833, bw_60, bw_at 834 (by decide +kernel) (by decide +kernel), by decide +kernel⟩
theorem ok_L_cut : HOK yL_cut cL_cut 3 (some .int) [(0, 5, 8, 13)] 2 := ⟨bw_863, bw_60, bw_at 864 (by decide +kernel) (by decide +kernel), by decide +kernel⟩
theorem ok_L_at : HOK yL_at cL_at 4 (some .int) [(0, 9, 12, 46)] 3 := ⟨bw_875, bw_60, bw_at 876 (by decide +kernel) (by decide +kernel), by decide +kernel⟩
theorem ok_L_count : HOK yL_count cL_count 4 (some .int) [(0, 9, 12, 13)] 3 := ⟨bw_883, bw_60, bw_at 884 (by decide +kernel) (by decide +kernel), by decide +kernel⟩
theorem ok_L_outline : HOK yL_outline cL_outline 6 (some .int) [(0, 12, 15, 13), (0, 12, 19, 46)] 5 := ⟨bw_896, bw_60, bw_at 897 (by decide +kernel) (by decide +kernel), by decide +kernel⟩
def lwKC : Nat := 7
def lwKS : Nat := 30
def wp_law_952 (b L : Nat) (xs : Nat → Int32) (S : St) (v4 : Int32) (K : St → Int32 → Prop) : Prop :=
  ∀ x115 : Int32, x115 = v4 + 5 → K S x115
set_option maxHeartbeats 4000000 in
set_option maxRecDepth 100000 in
theorem run_law_952 {f : Fx} {g : Gx} {T0 : List (Nat × Nat × Nat)} {S : St} {b L : Nat} {xs : Nat → Int32} {cN sN : Nat} {K : St → Int32 → Prop} (C : Cx f g cL_law 7 RL) (hw : LwOK f g b L xs) (hcN : cN + 7 ≤ 600128) (hsN : sN + 30 ≤ 7301098) (hK : ∀ (S : St) (v : Int32), K S v → S.2.2.1 = T0 → WW f room_1 g 7 (cN + 7) (sN + 30) (lw_Z (fbelow f) (fargs f) (fs f)) S 23 [(0, .ref b), (1, .ref (gad g 157)), (2, .ref (gad g 158)), (3, .ref (gad g 183)), (4, .int v)] []) {v4 : Int32} (hT : S.2.2.1 = T0) (h : wp_law_952 b L xs S v4 K) : WW f room_1 g 7 (cN + 7) (sN + 30) (lw_Z (fbelow f) (fargs f) (fs f)) S 952 [(0, .ref b), (1, .ref (gad g 157)), (2, .ref (gad g 158)), (3, .ref (gad g 183)), (4, .int v4)] [] := by
  unfold wp_law_952 at h
  obtain ⟨x115, e_x115⟩ : ∃ z : Int32, z = v4 + 5 := ⟨_, rfl⟩
  replace h := h x115 e_x115
  refine ww_iinc (v := x115) (lv2 := [(4, .int x115), (0, .ref b), (1, .ref (gad g 157)), (2, .ref (gad g 158)), (3, .ref (gad g 183))]) C dL_law_952 4 rfl (by rw [e_x115]; rfl) (Nat.le_of_ble_eq_true rfl) rfl ?_
  refine ww_goto (tgt := 23) C dL_law_955 (by decide) ?_
  exact ww_sub [1, 2, 3, 4, 0] rfl (hK _ _ h hT)
def wp_law_949 (b L : Nat) (xs : Nat → Int32) (S : St) (v4 : Int32) (K : St → Int32 → Prop) : Prop :=
  wp_law_952 b L xs S v4 K
set_option maxHeartbeats 4000000 in
set_option maxRecDepth 100000 in
theorem run_law_949 {f : Fx} {g : Gx} {T0 : List (Nat × Nat × Nat)} {S : St} {b L : Nat} {xs : Nat → Int32} {cN sN : Nat} {K : St → Int32 → Prop} (C : Cx f g cL_law 7 RL) (hw : LwOK f g b L xs) (hcN : cN + 7 ≤ 600128) (hsN : sN + 30 ≤ 7301098) (hK : ∀ (S : St) (v : Int32), K S v → S.2.2.1 = T0 → WW f room_1 g 7 (cN + 7) (sN + 30) (lw_Z (fbelow f) (fargs f) (fs f)) S 23 [(0, .ref b), (1, .ref (gad g 157)), (2, .ref (gad g 158)), (3, .ref (gad g 183)), (4, .int v)] []) {v4 : Int32} (hT : S.2.2.1 = T0) (h : wp_law_949 b L xs S v4 K) : WW f room_1 g 7 (cN + 2) (sN + 12) (lw_Z (fbelow f) (fargs f) (fs f)) S 949 [(0, .ref b), (1, .ref (gad g 157)), (2, .ref (gad g 158)), (3, .ref (gad g 183)), (4, .int v4)] [] := by
  unfold wp_law_949 at h
  refine ww_goto (tgt := 952) C dL_law_949 (by decide) ?_
  refine ww_widen (c2 := cN + 7) (s2 := sN + 30) (by omega) (by omega) ?_
  exact ww_sub [0, 1, 2, 3, 4] rfl (run_law_952 C hw hcN hsN hK hT  h)
def wp_law_869 (b L : Nat) (xs : Nat → Int32) (S : St) (v4 : Int32) (K : St → Int32 → Prop) : Prop :=
  wp_law_952 b L xs S v4 K
set_option maxHeartbeats 4000000 in
set_option maxRecDepth 100000 in
theorem run_law_869 {f : Fx} {g : Gx} {T0 : List (Nat × Nat × Nat)} {S : St} {b L : Nat} {xs : Nat → Int32} {cN sN : Nat} {K : St → Int32 → Prop} (C : Cx f g cL_law 7 RL) (hw : LwOK f g b L xs) (hcN : cN + 7 ≤ 600128) (hsN : sN + 30 ≤ 7301098) (hK : ∀ (S : St) (v : Int32), K S v → S.2.2.1 = T0 → WW f room_1 g 7 (cN + 7) (sN + 30) (lw_Z (fbelow f) (fargs f) (fs f)) S 23 [(0, .ref b), (1, .ref (gad g 157)), (2, .ref (gad g 158)), (3, .ref (gad g 183)), (4, .int v)] []) {v4 : Int32} (hT : S.2.2.1 = T0) (h : wp_law_869 b L xs S v4 K) : WW f room_1 g 7 (cN + 1) (sN + 6) (lw_Z (fbelow f) (fargs f) (fs f)) S 869 [(0, .ref b), (1, .ref (gad g 157)), (2, .ref (gad g 158)), (3, .ref (gad g 183)), (4, .int v4)] [] := by
  unfold wp_law_869 at h
  refine ww_goto (tgt := 952) C dL_law_869 (by decide) ?_
  refine ww_widen (c2 := cN + 7) (s2 := sN + 30) (by omega) (by omega) ?_
  exact ww_sub [0, 1, 2, 3, 4] rfl (run_law_952 C hw hcN hsN hK hT  h)
def wp_law_813 (b L : Nat) (xs : Nat → Int32) (S : St) (v4 : Int32) (K : St → Int32 → Prop) : Prop :=
  wp_law_952 b L xs S v4 K
set_option maxHeartbeats 4000000 in
set_option maxRecDepth 100000 in
theorem run_law_813 {f : Fx} {g : Gx} {T0 : List (Nat × Nat × Nat)} {S : St} {b L : Nat} {xs : Nat → Int32} {cN sN : Nat} {K : St → Int32 → Prop} (C : Cx f g cL_law 7 RL) (hw : LwOK f g b L xs) (hcN : cN + 7 ≤ 600128) (hsN : sN + 30 ≤ 7301098) (hK : ∀ (S : St) (v : Int32), K S v → S.2.2.1 = T0 → WW f room_1 g 7 (cN + 7) (sN + 30) (lw_Z (fbelow f) (fargs f) (fs f)) S 23 [(0, .ref b), (1, .ref (gad g 157)), (2, .ref (gad g 158)), (3, .ref (gad g 183)), (4, .int v)] []) {v4 : Int32} (hT : S.2.2.1 = T0) (h : wp_law_813 b L xs S v4 K) : WW f room_1 g 7 (cN + 1) (sN + 6) (lw_Z (fbelow f) (fargs f) (fs f)) S 813 [(0, .ref b), (1, .ref (gad g 157)), (2, .ref (gad g 158)), (3, .ref (gad g 183)), (4, .int v4)] [] := by
  unfold wp_law_813 at h
  refine ww_goto (tgt := 952) C dL_law_813 (by decide) ?_
  refine ww_widen (c2 := cN + 7) (s2 := sN + 30) (by omega) (by omega) ?_
  exact ww_sub [0, 1, 2, 3, 4] rfl (run_law_952 C hw hcN hsN hK hT  h)
def wp_law_673 (b L : Nat) (xs : Nat → Int32) (S : St) (v4 : Int32) (K : St → Int32 → Prop) : Prop :=
  wp_law_952 b L xs S v4 K
set_option maxHeartbeats 4000000 in
set_option maxRecDepth 100000 in
theorem run_law_673 {f : Fx} {g : Gx} {T0 : List (Nat × Nat × Nat)} {S : St} {b L : Nat} {xs : Nat → Int32} {cN sN : Nat} {K : St → Int32 → Prop} (C : Cx f g cL_law 7 RL) (hw : LwOK f g b L xs) (hcN : cN + 7 ≤ 600128) (hsN : sN + 30 ≤ 7301098) (hK : ∀ (S : St) (v : Int32), K S v → S.2.2.1 = T0 → WW f room_1 g 7 (cN + 7) (sN + 30) (lw_Z (fbelow f) (fargs f) (fs f)) S 23 [(0, .ref b), (1, .ref (gad g 157)), (2, .ref (gad g 158)), (3, .ref (gad g 183)), (4, .int v)] []) {v4 : Int32} (hT : S.2.2.1 = T0) (h : wp_law_673 b L xs S v4 K) : WW f room_1 g 7 (cN + 1) (sN + 6) (lw_Z (fbelow f) (fargs f) (fs f)) S 673 [(0, .ref b), (1, .ref (gad g 157)), (2, .ref (gad g 158)), (3, .ref (gad g 183)), (4, .int v4)] [] := by
  unfold wp_law_673 at h
  refine ww_goto (tgt := 952) C dL_law_673 (by decide) ?_
  refine ww_widen (c2 := cN + 7) (s2 := sN + 30) (by omega) (by omega) ?_
  exact ww_sub [0, 1, 2, 3, 4] rfl (run_law_952 C hw hcN hsN hK hT  h)
def wp_law_560 (b L : Nat) (xs : Nat → Int32) (S : St) (v4 : Int32) (K : St → Int32 → Prop) : Prop :=
  wp_law_952 b L xs S v4 K
set_option maxHeartbeats 4000000 in
set_option maxRecDepth 100000 in
theorem run_law_560 {f : Fx} {g : Gx} {T0 : List (Nat × Nat × Nat)} {S : St} {b L : Nat} {xs : Nat → Int32} {cN sN : Nat} {K : St → Int32 → Prop} (C : Cx f g cL_law 7 RL) (hw : LwOK f g b L xs) (hcN : cN + 7 ≤ 600128) (hsN : sN + 30 ≤ 7301098) (hK : ∀ (S : St) (v : Int32), K S v → S.2.2.1 = T0 → WW f room_1 g 7 (cN + 7) (sN + 30) (lw_Z (fbelow f) (fargs f) (fs f)) S 23 [(0, .ref b), (1, .ref (gad g 157)), (2, .ref (gad g 158)), (3, .ref (gad g 183)), (4, .int v)] []) {v4 : Int32} (hT : S.2.2.1 = T0) (h : wp_law_560 b L xs S v4 K) : WW f room_1 g 7 (cN + 7) (sN + 30) (lw_Z (fbelow f) (fargs f) (fs f)) S 560 [(0, .ref b), (1, .ref (gad g 157)), (2, .ref (gad g 158)), (3, .ref (gad g 183)), (4, .int v4)] [] := by
  unfold wp_law_560 at h
  refine ww_goto (tgt := 952) C dL_law_560 (by decide) ?_
  exact ww_sub [0, 1, 2, 3, 4] rfl (run_law_952 C hw hcN hsN hK hT  h)
def wp_law_516 (b L : Nat) (xs : Nat → Int32) (S : St) (v4 : Int32) (K : St → Int32 → Prop) : Prop :=
  wp_law_952 b L xs S v4 K
set_option maxHeartbeats 4000000 in
set_option maxRecDepth 100000 in
theorem run_law_516 {f : Fx} {g : Gx} {T0 : List (Nat × Nat × Nat)} {S : St} {b L : Nat} {xs : Nat → Int32} {cN sN : Nat} {K : St → Int32 → Prop} (C : Cx f g cL_law 7 RL) (hw : LwOK f g b L xs) (hcN : cN + 7 ≤ 600128) (hsN : sN + 30 ≤ 7301098) (hK : ∀ (S : St) (v : Int32), K S v → S.2.2.1 = T0 → WW f room_1 g 7 (cN + 7) (sN + 30) (lw_Z (fbelow f) (fargs f) (fs f)) S 23 [(0, .ref b), (1, .ref (gad g 157)), (2, .ref (gad g 158)), (3, .ref (gad g 183)), (4, .int v)] []) {v4 : Int32} (hT : S.2.2.1 = T0) (h : wp_law_516 b L xs S v4 K) : WW f room_1 g 7 (cN + 1) (sN + 6) (lw_Z (fbelow f) (fargs f) (fs f)) S 516 [(0, .ref b), (1, .ref (gad g 157)), (2, .ref (gad g 158)), (3, .ref (gad g 183)), (4, .int v4)] [] := by
  unfold wp_law_516 at h
  refine ww_goto (tgt := 952) C dL_law_516 (by decide) ?_
  refine ww_widen (c2 := cN + 7) (s2 := sN + 30) (by omega) (by omega) ?_
  exact ww_sub [0, 1, 2, 3, 4] rfl (run_law_952 C hw hcN hsN hK hT  h)
def wp_law_472 (b L : Nat) (xs : Nat → Int32) (S : St) (v4 : Int32) (K : St → Int32 → Prop) : Prop :=
  wp_law_952 b L xs S v4 K
set_option maxHeartbeats 4000000 in
set_option maxRecDepth 100000 in
theorem run_law_472 {f : Fx} {g : Gx} {T0 : List (Nat × Nat × Nat)} {S : St} {b L : Nat} {xs : Nat → Int32} {cN sN : Nat} {K : St → Int32 → Prop} (C : Cx f g cL_law 7 RL) (hw : LwOK f g b L xs) (hcN : cN + 7 ≤ 600128) (hsN : sN + 30 ≤ 7301098) (hK : ∀ (S : St) (v : Int32), K S v → S.2.2.1 = T0 → WW f room_1 g 7 (cN + 7) (sN + 30) (lw_Z (fbelow f) (fargs f) (fs f)) S 23 [(0, .ref b), (1, .ref (gad g 157)), (2, .ref (gad g 158)), (3, .ref (gad g 183)), (4, .int v)] []) {v4 : Int32} (hT : S.2.2.1 = T0) (h : wp_law_472 b L xs S v4 K) : WW f room_1 g 7 (cN + 2) (sN + 9) (lw_Z (fbelow f) (fargs f) (fs f)) S 472 [(0, .ref b), (1, .ref (gad g 157)), (2, .ref (gad g 158)), (3, .ref (gad g 183)), (4, .int v4)] [] := by
  unfold wp_law_472 at h
  refine ww_goto (tgt := 952) C dL_law_472 (by decide) ?_
  refine ww_widen (c2 := cN + 7) (s2 := sN + 30) (by omega) (by omega) ?_
  exact ww_sub [0, 1, 2, 3, 4] rfl (run_law_952 C hw hcN hsN hK hT  h)
def wp_law_417 (b L : Nat) (xs : Nat → Int32) (S : St) (v4 : Int32) (K : St → Int32 → Prop) : Prop :=
  wp_law_952 b L xs S v4 K
set_option maxHeartbeats 4000000 in
set_option maxRecDepth 100000 in
theorem run_law_417 {f : Fx} {g : Gx} {T0 : List (Nat × Nat × Nat)} {S : St} {b L : Nat} {xs : Nat → Int32} {cN sN : Nat} {K : St → Int32 → Prop} (C : Cx f g cL_law 7 RL) (hw : LwOK f g b L xs) (hcN : cN + 7 ≤ 600128) (hsN : sN + 30 ≤ 7301098) (hK : ∀ (S : St) (v : Int32), K S v → S.2.2.1 = T0 → WW f room_1 g 7 (cN + 7) (sN + 30) (lw_Z (fbelow f) (fargs f) (fs f)) S 23 [(0, .ref b), (1, .ref (gad g 157)), (2, .ref (gad g 158)), (3, .ref (gad g 183)), (4, .int v)] []) {v4 : Int32} (hT : S.2.2.1 = T0) (h : wp_law_417 b L xs S v4 K) : WW f room_1 g 7 (cN + 1) (sN + 6) (lw_Z (fbelow f) (fargs f) (fs f)) S 417 [(0, .ref b), (1, .ref (gad g 157)), (2, .ref (gad g 158)), (3, .ref (gad g 183)), (4, .int v4)] [] := by
  unfold wp_law_417 at h
  refine ww_goto (tgt := 952) C dL_law_417 (by decide) ?_
  refine ww_widen (c2 := cN + 7) (s2 := sN + 30) (by omega) (by omega) ?_
  exact ww_sub [0, 1, 2, 3, 4] rfl (run_law_952 C hw hcN hsN hK hT  h)
def wp_law_305 (b L : Nat) (xs : Nat → Int32) (S : St) (v4 : Int32) (K : St → Int32 → Prop) : Prop :=
  wp_law_952 b L xs S v4 K
set_option maxHeartbeats 4000000 in
set_option maxRecDepth 100000 in
theorem run_law_305 {f : Fx} {g : Gx} {T0 : List (Nat × Nat × Nat)} {S : St} {b L : Nat} {xs : Nat → Int32} {cN sN : Nat} {K : St → Int32 → Prop} (C : Cx f g cL_law 7 RL) (hw : LwOK f g b L xs) (hcN : cN + 7 ≤ 600128) (hsN : sN + 30 ≤ 7301098) (hK : ∀ (S : St) (v : Int32), K S v → S.2.2.1 = T0 → WW f room_1 g 7 (cN + 7) (sN + 30) (lw_Z (fbelow f) (fargs f) (fs f)) S 23 [(0, .ref b), (1, .ref (gad g 157)), (2, .ref (gad g 158)), (3, .ref (gad g 183)), (4, .int v)] []) {v4 : Int32} (hT : S.2.2.1 = T0) (h : wp_law_305 b L xs S v4 K) : WW f room_1 g 7 (cN + 1) (sN + 6) (lw_Z (fbelow f) (fargs f) (fs f)) S 305 [(0, .ref b), (1, .ref (gad g 157)), (2, .ref (gad g 158)), (3, .ref (gad g 183)), (4, .int v4)] [] := by
  unfold wp_law_305 at h
  refine ww_goto (tgt := 952) C dL_law_305 (by decide) ?_
  refine ww_widen (c2 := cN + 7) (s2 := sN + 30) (by omega) (by omega) ?_
  exact ww_sub [0, 1, 2, 3, 4] rfl (run_law_952 C hw hcN hsN hK hT  h)
def wp_law_272 (b L : Nat) (xs : Nat → Int32) (S : St) (v4 : Int32) (v5 : Int32) (s0 : Int32) (s1 : Int32) (s2 : Int32) (K : St → Int32 → Prop) : Prop :=
  wp_X11_point S s2 s1 s0 (fun r117 S116 => (((fv_X11_thrown S116) = v5 → ((¬ v5 = 0 → wp_law_305 b L xs S116 v4 K) ∧ (v5 = 0 → (((lg_cmp S116.2.2.2 r117.toInt64) = 0 → wp_law_305 b L xs S116 v4 K) ∧ (¬ (lg_cmp S116.2.2.2 r117.toInt64) = 0 → False))))) ∧ (¬ (fv_X11_thrown S116) = v5 → False)))
set_option maxHeartbeats 4000000 in
set_option maxRecDepth 100000 in
theorem run_law_272 {f : Fx} {g : Gx} {T0 : List (Nat × Nat × Nat)} {S : St} {b L : Nat} {xs : Nat → Int32} {cN sN : Nat} {K : St → Int32 → Prop} (C : Cx f g cL_law 7 RL) (hw : LwOK f g b L xs) (hcN : cN + 7 ≤ 600128) (hsN : sN + 30 ≤ 7301098) (hK : ∀ (S : St) (v : Int32), K S v → S.2.2.1 = T0 → WW f room_1 g 7 (cN + 7) (sN + 30) (lw_Z (fbelow f) (fargs f) (fs f)) S 23 [(0, .ref b), (1, .ref (gad g 157)), (2, .ref (gad g 158)), (3, .ref (gad g 183)), (4, .int v)] []) {v4 : Int32} {v5 : Int32} {s0 : Int32} {s1 : Int32} {s2 : Int32} (hT : S.2.2.1 = T0) (h : wp_law_272 b L xs S v4 v5 s0 s1 s2 K) : WW f room_1 g 7 (cN + 1) (sN + 6) (lw_Z (fbelow f) (fargs f) (fs f)) S 272 [(0, .ref b), (1, .ref (gad g 157)), (2, .ref (gad g 158)), (3, .ref (gad g 183)), (4, .int v4), (5, .int v5)] [.int s0, .int s1, .int s2, .ref (gad g 158)] := by
  unfold wp_law_272 at h
  refine ww_cVi (As := [.int s2, .int s1, .int s0]) (rest := []) C ok_X11_point bw_1061 dL_law_272 (run_X11_point  (fun _ => h)) rc_Model rfl ⟨Nat.le_of_ble_eq_true rfl, Nat.le_of_ble_eq_true rfl⟩ (Nat.le_of_ble_eq_true rfl) (c2 := cN + 1) (s2 := sN + 6) rfl rfl ⟨by show cN + 1 ≤ 600128; omega, by show sN + 6 ≤ 7301098; omega⟩ rfl (fun r117 S116 hp hTg => ?_)
  replace h := hp
  have hT_S116 : S116.2.2.1 = T0 := by rw [hTg]; exact hT
  refine ww_istore (lv2 := [(6, .int r117), (0, .ref b), (1, .ref (gad g 157)), (2, .ref (gad g 158)), (3, .ref (gad g 183)), (4, .int v4), (5, .int v5)]) C dL_law_275 (Nat.le_of_ble_eq_true rfl) rfl ?_
  refine ww_aload_n C dL_law_277 3 rfl ?_
  refine ww_cVf (As := []) (rest := []) C ok_X11_thrown bw_1042 dL_law_278 cm_X11_thrown rc_Model rfl ⟨Nat.le_of_ble_eq_true rfl, Nat.le_of_ble_eq_true rfl⟩ (Nat.le_of_ble_eq_true rfl) (c2 := cN + 1) (s2 := sN + 6) rfl rfl ⟨by show cN + 1 ≤ 600128; omega, by show sN + 6 ≤ 7301098; omega⟩ rfl ?_
  refine ww_iload C dL_law_281 6 rfl ?_
  refine ww_icmp_eq (tgt := 288) C dL_law_283 (by decide) (fun q118 => ?_) (fun q118 => ?_)
  · replace h := h.1 q118
    refine ww_iload C dL_law_288 6 rfl ?_
    refine ww_if_ne (tgt := 305) C dL_law_290 (by decide) (fun q119 => ?_) (fun q119 => ?_)
    · replace h := h.1 q119
      exact ww_sub [1, 2, 3, 4, 5] rfl (run_law_305 C hw hcN hsN hK hT_S116  h)
    · replace h := h.2 q119
      refine ww_aload_n C dL_law_293 4 rfl ?_
      refine ww_iconst (v := 0) C dL_law_294 (by decide) ?_
      refine ww_lald C dL_law_295 ?_
      refine ww_iload C dL_law_296 0 rfl ?_
      refine ww_i2l C dL_law_298 ?_
      refine ww_lcmp C dL_law_299 ?_
      refine ww_if_eq (tgt := 305) C dL_law_300 (by decide) (fun q120 => ?_) (fun q120 => ?_)
      · replace h := h.1 q120
        exact ww_sub [1, 2, 3, 4, 5] rfl (run_law_305 C hw hcN hsN hK hT_S116  h)
      · replace h := h.2 q120
        refine ww_iconst (v := 0) C dL_law_303 (by decide) ?_
        exact h.elim
  · replace h := h.2 q118
    refine ww_iconst (v := 0) C dL_law_286 (by decide) ?_
    exact h.elim
def wp_law_239 (b L : Nat) (xs : Nat → Int32) (S : St) (v4 : Int32) (s0 : Int32) (s1 : Int32) (s2 : Int32) (K : St → Int32 → Prop) : Prop :=
  wp_L_point S s2 s1 s0 (fun r122 S121 => (vp_in (v4 + 1) L ∧ (vp_in (v4 + 2) L ∧ (vp_in (v4 + 3) L ∧ (((xs ((v4 + 3).toNatClampNeg)) = 0 → wp_law_272 b L xs S121 v4 r122 0 (xs ((v4 + 2).toNatClampNeg)) (xs ((v4 + 1).toNatClampNeg)) K) ∧ (¬ (xs ((v4 + 3).toNatClampNeg)) = 0 → wp_law_272 b L xs S121 v4 r122 1 (xs ((v4 + 2).toNatClampNeg)) (xs ((v4 + 1).toNatClampNeg)) K))))))
set_option maxHeartbeats 4000000 in
set_option maxRecDepth 100000 in
theorem run_law_239 {f : Fx} {g : Gx} {T0 : List (Nat × Nat × Nat)} {S : St} {b L : Nat} {xs : Nat → Int32} {cN sN : Nat} {K : St → Int32 → Prop} (C : Cx f g cL_law 7 RL) (hw : LwOK f g b L xs) (hcN : cN + 7 ≤ 600128) (hsN : sN + 30 ≤ 7301098) (hK : ∀ (S : St) (v : Int32), K S v → S.2.2.1 = T0 → WW f room_1 g 7 (cN + 7) (sN + 30) (lw_Z (fbelow f) (fargs f) (fs f)) S 23 [(0, .ref b), (1, .ref (gad g 157)), (2, .ref (gad g 158)), (3, .ref (gad g 183)), (4, .int v)] []) {v4 : Int32} {s0 : Int32} {s1 : Int32} {s2 : Int32} (hT : S.2.2.1 = T0) (h : wp_law_239 b L xs S v4 s0 s1 s2 K) : WW f room_1 g 7 (cN + 0) (sN + 0) (lw_Z (fbelow f) (fargs f) (fs f)) S 239 [(0, .ref b), (1, .ref (gad g 157)), (2, .ref (gad g 158)), (3, .ref (gad g 183)), (4, .int v4)] [.int s0, .int s1, .int s2, .ref (gad g 157)] := by
  unfold wp_law_239 at h
  refine ww_aload_n C dL_law_239 3 rfl ?_
  refine ww_cHi (As := [.ref (gad g 157), .int s2, .int s1, .int s0, .ref (gad g 183)]) (rest := []) C ok_L_point bw_410 dL_law_240 (run_L_point hw.2.2.2.2.1 (fun _ => h)) rfl ⟨Nat.le_of_ble_eq_true rfl, Nat.le_of_ble_eq_true rfl⟩ (Nat.le_of_ble_eq_true rfl) (c2 := cN + 1) (s2 := sN + 6) rfl rfl ⟨by show cN + 1 ≤ 600128; omega, by show sN + 6 ≤ 7301098; omega⟩ rfl (fun r122 S121 hp hTg => ?_)
  replace h := hp
  have hT_S121 : S121.2.2.1 = T0 := by rw [hTg]; exact hT
  refine ww_istore (lv2 := [(5, .int r122), (0, .ref b), (1, .ref (gad g 157)), (2, .ref (gad g 158)), (3, .ref (gad g 183)), (4, .int v4)]) C dL_law_243 (Nat.le_of_ble_eq_true rfl) rfl ?_
  refine ww_aload_n C dL_law_245 3 rfl ?_
  refine ww_aload_n C dL_law_246 1 rfl ?_
  refine ww_iload C dL_law_247 5 rfl ?_
  refine ww_iconst (v := 1) C dL_law_249 (by decide) ?_
  refine ww_iadd C dL_law_250 ?_
  refine ww_sld C hw h.1 dL_law_251 ?_
  replace h := h.2
  refine ww_aload_n C dL_law_252 1 rfl ?_
  refine ww_iload C dL_law_253 5 rfl ?_
  refine ww_iconst (v := 2) C dL_law_255 (by decide) ?_
  refine ww_iadd C dL_law_256 ?_
  refine ww_sld C hw h.1 dL_law_257 ?_
  replace h := h.2
  refine ww_aload_n C dL_law_258 1 rfl ?_
  refine ww_iload C dL_law_259 5 rfl ?_
  refine ww_iconst (v := 3) C dL_law_261 (by decide) ?_
  refine ww_iadd C dL_law_262 ?_
  refine ww_sld C hw h.1 dL_law_263 ?_
  replace h := h.2
  refine ww_if_eq (tgt := 271) C dL_law_264 (by decide) (fun q123 => ?_) (fun q123 => ?_)
  · replace h := h.1 q123
    refine ww_iconst (v := 0) C dL_law_271 (by decide) ?_
    exact ww_sub [1, 2, 3, 4, 5, 0] rfl (run_law_272 C hw hcN hsN hK hT_S121  h)
  · replace h := h.2 q123
    refine ww_iconst (v := 1) C dL_law_267 (by decide) ?_
    refine ww_goto (tgt := 272) C dL_law_268 (by decide) ?_
    exact ww_sub [1, 2, 3, 4, 5, 0] rfl (run_law_272 C hw hcN hsN hK hT_S121  h)
def wp_law_209 (b L : Nat) (xs : Nat → Int32) (S : St) (v4 : Int32) (K : St → Int32 → Prop) : Prop :=
  wp_law_952 b L xs S v4 K
set_option maxHeartbeats 4000000 in
set_option maxRecDepth 100000 in
theorem run_law_209 {f : Fx} {g : Gx} {T0 : List (Nat × Nat × Nat)} {S : St} {b L : Nat} {xs : Nat → Int32} {cN sN : Nat} {K : St → Int32 → Prop} (C : Cx f g cL_law 7 RL) (hw : LwOK f g b L xs) (hcN : cN + 7 ≤ 600128) (hsN : sN + 30 ≤ 7301098) (hK : ∀ (S : St) (v : Int32), K S v → S.2.2.1 = T0 → WW f room_1 g 7 (cN + 7) (sN + 30) (lw_Z (fbelow f) (fargs f) (fs f)) S 23 [(0, .ref b), (1, .ref (gad g 157)), (2, .ref (gad g 158)), (3, .ref (gad g 183)), (4, .int v)] []) {v4 : Int32} (hT : S.2.2.1 = T0) (h : wp_law_209 b L xs S v4 K) : WW f room_1 g 7 (cN + 1) (sN + 6) (lw_Z (fbelow f) (fargs f) (fs f)) S 209 [(0, .ref b), (1, .ref (gad g 157)), (2, .ref (gad g 158)), (3, .ref (gad g 183)), (4, .int v4)] [] := by
  unfold wp_law_209 at h
  refine ww_goto (tgt := 952) C dL_law_209 (by decide) ?_
  refine ww_widen (c2 := cN + 7) (s2 := sN + 30) (by omega) (by omega) ?_
  exact ww_sub [0, 1, 2, 3, 4] rfl (run_law_952 C hw hcN hsN hK hT  h)
def wp_law_165 (b L : Nat) (xs : Nat → Int32) (S : St) (v4 : Int32) (K : St → Int32 → Prop) : Prop :=
  wp_law_952 b L xs S v4 K
set_option maxHeartbeats 4000000 in
set_option maxRecDepth 100000 in
theorem run_law_165 {f : Fx} {g : Gx} {T0 : List (Nat × Nat × Nat)} {S : St} {b L : Nat} {xs : Nat → Int32} {cN sN : Nat} {K : St → Int32 → Prop} (C : Cx f g cL_law 7 RL) (hw : LwOK f g b L xs) (hcN : cN + 7 ≤ 600128) (hsN : sN + 30 ≤ 7301098) (hK : ∀ (S : St) (v : Int32), K S v → S.2.2.1 = T0 → WW f room_1 g 7 (cN + 7) (sN + 30) (lw_Z (fbelow f) (fargs f) (fs f)) S 23 [(0, .ref b), (1, .ref (gad g 157)), (2, .ref (gad g 158)), (3, .ref (gad g 183)), (4, .int v)] []) {v4 : Int32} (hT : S.2.2.1 = T0) (h : wp_law_165 b L xs S v4 K) : WW f room_1 g 7 (cN + 1) (sN + 6) (lw_Z (fbelow f) (fargs f) (fs f)) S 165 [(0, .ref b), (1, .ref (gad g 157)), (2, .ref (gad g 158)), (3, .ref (gad g 183)), (4, .int v4)] [] := by
  unfold wp_law_165 at h
  refine ww_goto (tgt := 952) C dL_law_165 (by decide) ?_
  refine ww_widen (c2 := cN + 7) (s2 := sN + 30) (by omega) (by omega) ?_
  exact ww_sub [0, 1, 2, 3, 4] rfl (run_law_952 C hw hcN hsN hK hT  h)
def wp_law (b L : Nat) (xs : Nat → Int32) (S : St) (v4 : Int32) (K : St → Int32 → Prop) : Prop :=
  ((((nI L) - 5) < v4 → True) ∧ (¬ ((nI L) - 5) < v4 → (vp_in v4 L ∧ ((((xs v4.toNatClampNeg) &&& 15) = 0 → (vp_in (v4 + 1) L ∧ wp_L_glyph S (xs ((v4 + 1).toNatClampNeg)) (fun r126 S125 => (vp_in (v4 + 1) L ∧ wp_X11_glyph S125 (xs ((v4 + 1).toNatClampNeg)) (fun r128 S127 => (((fv_X11_thrown S127) = r126 → ((¬ r126 = 0 → wp_law_165 b L xs S127 v4 K) ∧ (r126 = 0 → (((lg_cmp S127.2.2.2 r128.toInt64) = 0 → wp_law_165 b L xs S127 v4 K) ∧ (¬ (lg_cmp S127.2.2.2 r128.toInt64) = 0 → False))))) ∧ (¬ (fv_X11_thrown S127) = r126 → False))))))) ∧ (((xs v4.toNatClampNeg) &&& 15) = 1 → wp_L_contour S (fun r134 S133 => wp_X11_contour S133 (fun r136 S135 => (((fv_X11_thrown S135) = r134 → ((¬ r134 = 0 → wp_law_209 b L xs S135 v4 K) ∧ (r134 = 0 → (((lg_cmp S135.2.2.2 r136.toInt64) = 0 → wp_law_209 b L xs S135 v4 K) ∧ (¬ (lg_cmp S135.2.2.2 r136.toInt64) = 0 → False))))) ∧ (¬ (fv_X11_thrown S135) = r134 → False))))) ∧ (((xs v4.toNatClampNeg) &&& 15) = 2 → (vp_in (v4 + 1) L ∧ (vp_in (v4 + 2) L ∧ (vp_in (v4 + 3) L ∧ (((xs ((v4 + 3).toNatClampNeg)) = 0 → wp_law_239 b L xs S v4 0 (xs ((v4 + 2).toNatClampNeg)) (xs ((v4 + 1).toNatClampNeg)) K) ∧ (¬ (xs ((v4 + 3).toNatClampNeg)) = 0 → wp_law_239 b L xs S v4 1 (xs ((v4 + 2).toNatClampNeg)) (xs ((v4 + 1).toNatClampNeg)) K)))))) ∧ (((xs v4.toNatClampNeg) &&& 15) = 3 → (vp_in (v4 + 1) L ∧ (vp_in (v4 + 2) L ∧ (vp_in (v4 + 3) L ∧ (vp_in (v4 + 4) L ∧ wp_L_table S (xs ((v4 + 1).toNatClampNeg)) ((((xs ((v4 + 2).toNatClampNeg)).toInt64) <<< ((32 : Int32).toInt64 &&& 63)) ||| (((xs ((v4 + 3).toNatClampNeg)).toInt64) &&& 4294967295)) (xs ((v4 + 4).toNatClampNeg)) (fun r144 S143 => (vp_in (v4 + 1) L ∧ (vp_in (v4 + 2) L ∧ (vp_in (v4 + 3) L ∧ (vp_in (v4 + 4) L ∧ wp_X11_table S143 (xs ((v4 + 1).toNatClampNeg)) ((((xs ((v4 + 2).toNatClampNeg)).toInt64) <<< ((32 : Int32).toInt64 &&& 63)) ||| (((xs ((v4 + 3).toNatClampNeg)).toInt64) &&& 4294967295)) (xs ((v4 + 4).toNatClampNeg)) (fun r146 S145 => (((fv_X11_thrown S145) = r144 → ((¬ r144 = 0 → wp_law_417 b L xs S145 v4 K) ∧ (r144 = 0 → (((lg_cmp S145.2.2.2 r146.toInt64) = 0 → wp_law_417 b L xs S145 v4 K) ∧ (¬ (lg_cmp S145.2.2.2 r146.toInt64) = 0 → False))))) ∧ (¬ (fv_X11_thrown S145) = r144 → False))))))))))))) ∧ (((xs v4.toNatClampNeg) &&& 15) = 4 → wp_X10_clear S (fun S151 => wp_X11_clear S151 (fun S153 => wp_law_952 b L xs S153 v4 K))) ∧ (((xs v4.toNatClampNeg) &&& 15) = 5 → wp_L_pack S (fun r157 S156 => wp_X11_pack S156 (fun r159 S158 => (((fv_X11_thrown S158) = r157 → ((¬ r157 = 0 → wp_law_472 b L xs S158 v4 K) ∧ (r157 = 0 → (((lg_cmp S158.2.2.2 r159.toInt64) = 0 → wp_law_472 b L xs S158 v4 K) ∧ (¬ (lg_cmp S158.2.2.2 r159.toInt64) = 0 → False))))) ∧ (¬ (fv_X11_thrown S158) = r157 → False))))) ∧ (((xs v4.toNatClampNeg) &&& 15) = 6 → wp_L_plain S (fun r165 S164 => wp_X11_plain S164 (fun r167 S166 => (((fv_X11_thrown S166) = r165 → ((¬ r165 = 0 → wp_law_516 b L xs S166 v4 K) ∧ (r165 = 0 → (((lg_cmp S166.2.2.2 r167.toInt64) = 0 → wp_law_516 b L xs S166 v4 K) ∧ (¬ (lg_cmp S166.2.2.2 r167.toInt64) = 0 → False))))) ∧ (¬ (fv_X11_thrown S166) = r165 → False))))) ∧ (((xs v4.toNatClampNeg) &&& 15) = 7 → wp_L_read S (fun r173 S172 => wp_X11_read S172 (fun r175 S174 => (((fv_X11_thrown S174) = r173 → ((¬ r173 = 0 → wp_law_560 b L xs S174 v4 K) ∧ (r173 = 0 → (((lg_cmp S174.2.2.2 r175.toInt64) = 0 → wp_law_560 b L xs S174 v4 K) ∧ (¬ (lg_cmp S174.2.2.2 r175.toInt64) = 0 → False))))) ∧ (¬ (fv_X11_thrown S174) = r173 → False))))) ∧ (((xs v4.toNatClampNeg) &&& 15) = 8 → ∀ (r181 : Int32) (S180 : St), r181 = fv_X11_stage S → S180 = fs_X11_stage S → (((fv_X10_stage S) = r181 → wp_law_952 b L xs S180 v4 K) ∧ (¬ (fv_X10_stage S) = r181 → False))) ∧ (((xs v4.toNatClampNeg) &&& 15) = 9 → (vp_in (v4 + 1) L ∧ (vp_in (v4 + 2) L ∧ (vp_in (v4 + 3) L ∧ wp_L_put S ((((xs ((v4 + 1).toNatClampNeg)).toInt64) <<< ((32 : Int32).toInt64 &&& 63)) ||| (((xs ((v4 + 2).toNatClampNeg)).toInt64) &&& 4294967295)) (xs ((v4 + 3).toNatClampNeg)) (fun r185 S184 => (vp_in (v4 + 1) L ∧ (vp_in (v4 + 2) L ∧ (vp_in (v4 + 3) L ∧ wp_X11_put S184 ((((xs ((v4 + 1).toNatClampNeg)).toInt64) <<< ((32 : Int32).toInt64 &&& 63)) ||| (((xs ((v4 + 2).toNatClampNeg)).toInt64) &&& 4294967295)) (xs ((v4 + 3).toNatClampNeg)) (fun r187 S186 => (((fv_X11_thrown S186) = r185 → ((¬ r185 = 0 → wp_law_673 b L xs S186 v4 K) ∧ (r185 = 0 → (((lg_cmp S186.2.2.2 r187.toInt64) = 0 → wp_law_673 b L xs S186 v4 K) ∧ (¬ (lg_cmp S186.2.2.2 r187.toInt64) = 0 → False))))) ∧ (¬ (fv_X11_thrown S186) = r185 → False))))))))))) ∧ (((xs v4.toNatClampNeg) &&& 15) = 10 → (vp_in (v4 + 1) L ∧ (vp_in (v4 + 2) L ∧ wp_L_set S (xs ((v4 + 1).toNatClampNeg)) (xs ((v4 + 2).toNatClampNeg)) (fun r193 S192 => (vp_in (v4 + 1) L ∧ (vp_in (v4 + 2) L ∧ wp_X11_set S192 (xs ((v4 + 1).toNatClampNeg)) (xs ((v4 + 2).toNatClampNeg)) (fun S194 => (((fv_X11_thrown S194) = r193 → wp_law_952 b L xs S194 v4 K) ∧ (¬ (fv_X11_thrown S194) = r193 → False))))))))) ∧ (((xs v4.toNatClampNeg) &&& 15) = 11 → (vp_in (v4 + 1) L ∧ wp_L_cut S (xs ((v4 + 1).toNatClampNeg)) (fun r199 S198 => (vp_in (v4 + 1) L ∧ ∀ S200 : St, S200 = fs_X11_cut S198 (xs ((v4 + 1).toNatClampNeg)) → (((fv_X11_thrown S200) = r199 → wp_law_952 b L xs S200 v4 K) ∧ (¬ (fv_X11_thrown S200) = r199 → False)))))) ∧ (((xs v4.toNatClampNeg) &&& 15) = 12 → (vp_in (v4 + 1) L ∧ wp_L_at S (xs ((v4 + 1).toNatClampNeg)) (fun r204 S203 => (vp_in (v4 + 1) L ∧ wp_X11_at S203 (xs ((v4 + 1).toNatClampNeg)) (fun r206 S205 => (((fv_X11_thrown S205) = r204 → ((¬ r204 = 0 → wp_law_813 b L xs S205 v4 K) ∧ (r204 = 0 → (((lg_cmp S205.2.2.2 r206.toInt64) = 0 → wp_law_813 b L xs S205 v4 K) ∧ (¬ (lg_cmp S205.2.2.2 r206.toInt64) = 0 → False))))) ∧ (¬ (fv_X11_thrown S205) = r204 → False))))))) ∧ (((xs v4.toNatClampNeg) &&& 15) = 13 → (vp_in (v4 + 1) L ∧ wp_L_count S (xs ((v4 + 1).toNatClampNeg)) (fun r212 S211 => (vp_in (v4 + 1) L ∧ wp_X11_count S211 (xs ((v4 + 1).toNatClampNeg)) (fun r214 S213 => (((fv_X11_thrown S213) = r212 → ((¬ r212 = 0 → wp_law_869 b L xs S213 v4 K) ∧ (r212 = 0 → (((lg_cmp S213.2.2.2 r214.toInt64) = 0 → wp_law_869 b L xs S213 v4 K) ∧ (¬ (lg_cmp S213.2.2.2 r214.toInt64) = 0 → False))))) ∧ (¬ (fv_X11_thrown S213) = r212 → False))))))) ∧ (((xs v4.toNatClampNeg) &&& 15) = 14 → (vp_in (v4 + 1) L ∧ (vp_in (v4 + 2) L ∧ (vp_in (v4 + 3) L ∧ wp_L_outline S (xs ((v4 + 1).toNatClampNeg)) (xs ((v4 + 2).toNatClampNeg)) (xs ((v4 + 3).toNatClampNeg)) (fun r220 S219 => (vp_in (v4 + 1) L ∧ (vp_in (v4 + 2) L ∧ (vp_in (v4 + 3) L ∧ wp_X11_outline S219 (xs ((v4 + 1).toNatClampNeg)) (xs ((v4 + 2).toNatClampNeg)) (xs ((v4 + 3).toNatClampNeg)) (fun r222 S221 => (((fv_X11_thrown S221) = r220 → ((¬ r220 = 0 → wp_law_949 b L xs S221 v4 K) ∧ (r220 = 0 → (((lg_cmp S221.2.2.2 r222.toInt64) = 0 → wp_law_949 b L xs S221 v4 K) ∧ (¬ (lg_cmp S221.2.2.2 r222.toInt64) = 0 → False))))) ∧ (¬ (fv_X11_thrown S221) = r220 → False))))))))))) ∧ (¬ ((xs v4.toNatClampNeg) &&& 15) = 0 → ¬ ((xs v4.toNatClampNeg) &&& 15) = 1 → ¬ ((xs v4.toNatClampNeg) &&& 15) = 2 → ¬ ((xs v4.toNatClampNeg) &&& 15) = 3 → ¬ ((xs v4.toNatClampNeg) &&& 15) = 4 → ¬ ((xs v4.toNatClampNeg) &&& 15) = 5 → ¬ ((xs v4.toNatClampNeg) &&& 15) = 6 → ¬ ((xs v4.toNatClampNeg) &&& 15) = 7 → ¬ ((xs v4.toNatClampNeg) &&& 15) = 8 → ¬ ((xs v4.toNatClampNeg) &&& 15) = 9 → ¬ ((xs v4.toNatClampNeg) &&& 15) = 10 → ¬ ((xs v4.toNatClampNeg) &&& 15) = 11 → ¬ ((xs v4.toNatClampNeg) &&& 15) = 12 → ¬ ((xs v4.toNatClampNeg) &&& 15) = 13 → ¬ ((xs v4.toNatClampNeg) &&& 15) = 14 → wp_law_952 b L xs S v4 K)))))
set_option maxHeartbeats 4000000 in
set_option maxRecDepth 100000 in
theorem run_law {f : Fx} {g : Gx} {T0 : List (Nat × Nat × Nat)} {S : St} {b L : Nat} {xs : Nat → Int32} {cN sN : Nat} {K : St → Int32 → Prop} (C : Cx f g cL_law 7 RL) (hw : LwOK f g b L xs) (hcN : cN + 7 ≤ 600128) (hsN : sN + 30 ≤ 7301098) (hK : ∀ (S : St) (v : Int32), K S v → S.2.2.1 = T0 → WW f room_1 g 7 (cN + 7) (sN + 30) (lw_Z (fbelow f) (fargs f) (fs f)) S 23 [(0, .ref b), (1, .ref (gad g 157)), (2, .ref (gad g 158)), (3, .ref (gad g 183)), (4, .int v)] []) {v4 : Int32} (hT : S.2.2.1 = T0) (h : wp_law b L xs S v4 K) : WW f room_1 g 7 (cN + 0) (sN + 0) (lw_Z (fbelow f) (fargs f) (fs f)) S 23 [(0, .ref b), (1, .ref (gad g 157)), (2, .ref (gad g 158)), (3, .ref (gad g 183)), (4, .int v4)] [] := by
  unfold wp_law at h
  refine ww_iload C dL_law_23 4 rfl ?_
  refine ww_aload_n C dL_law_25 0 rfl ?_
  refine ww_slen C hw dL_law_26 ?_
  refine ww_iconst (v := 5) C dL_law_27 (by decide) ?_
  refine ww_isub C dL_law_28 ?_
  refine ww_icmp_gt (tgt := 958) C dL_law_29 (by decide) (fun q124 => ?_) (fun q124 => ?_)
  · replace h := h.1 q124
    refine ww_iconst (v := 1) C dL_law_958 (by decide) ?_
    exact ww_lawend C hw (by omega) (by omega) dL_law_959
  · replace h := h.2 q124
    refine ww_aload_n C dL_law_32 0 rfl ?_
    refine ww_iload C dL_law_33 4 rfl ?_
    refine ww_sld C hw h.1 dL_law_35 ?_
    replace h := h.2
    refine ww_bipush (v := 15) C dL_law_36 (by decide) ?_
    refine ww_iand C dL_law_38 ?_
    by_cases q132 : ((xs v4.toNatClampNeg) &&& 15) = 0
    · replace h := h.1 q132
      refine ww_table_in (off := 73) (tgt := 112) C dL_law_39 (by rw [q132]; decide) (by rw [q132]; decide) (by rw [q132]; decide) (by decide) ?_
      refine ww_aload_n C dL_law_112 1 rfl ?_
      refine ww_aload_n C dL_law_113 0 rfl ?_
      refine ww_iload C dL_law_114 4 rfl ?_
      refine ww_iconst (v := 1) C dL_law_116 (by decide) ?_
      refine ww_iadd C dL_law_117 ?_
      refine ww_sld C hw h.1 dL_law_118 ?_
      replace h := h.2
      refine ww_aload_n C dL_law_119 3 rfl ?_
      refine ww_cHi (As := [.ref (gad g 157), .int (xs ((v4 + 1).toNatClampNeg)), .ref (gad g 183)]) (rest := []) C ok_L_glyph bw_244 dL_law_120 (run_L_glyph hw.2.2.2.2.1 (fun _ => h)) rfl ⟨Nat.le_of_ble_eq_true rfl, Nat.le_of_ble_eq_true rfl⟩ (Nat.le_of_ble_eq_true rfl) (c2 := cN + 1) (s2 := sN + 6) rfl rfl ⟨by show cN + 1 ≤ 600128; omega, by show sN + 6 ≤ 7301098; omega⟩ rfl (fun r126 S125 hp hTg => ?_)
      replace h := hp
      have hT_S125 : S125.2.2.1 = T0 := by rw [hTg]; exact hT
      refine ww_istore (lv2 := [(5, .int r126), (0, .ref b), (1, .ref (gad g 157)), (2, .ref (gad g 158)), (3, .ref (gad g 183)), (4, .int v4)]) C dL_law_123 (Nat.le_of_ble_eq_true rfl) rfl ?_
      refine ww_aload_n C dL_law_125 3 rfl ?_
      refine ww_aload_n C dL_law_126 1 rfl ?_
      refine ww_iload C dL_law_127 5 rfl ?_
      refine ww_iconst (v := 1) C dL_law_129 (by decide) ?_
      refine ww_iadd C dL_law_130 ?_
      refine ww_sld C hw h.1 dL_law_131 ?_
      replace h := h.2
      refine ww_cVi (As := [.int (xs ((v4 + 1).toNatClampNeg))]) (rest := []) C ok_X11_glyph bw_1046 dL_law_132 (run_X11_glyph  (fun _ => h)) rc_Model rfl ⟨Nat.le_of_ble_eq_true rfl, Nat.le_of_ble_eq_true rfl⟩ (Nat.le_of_ble_eq_true rfl) (c2 := cN + 1) (s2 := sN + 6) rfl rfl ⟨by show cN + 1 ≤ 600128; omega, by show sN + 6 ≤ 7301098; omega⟩ rfl (fun r128 S127 hp hTg => ?_)
      replace h := hp
      have hT_S127 : S127.2.2.1 = T0 := by rw [hTg]; exact hT_S125
      refine ww_istore (lv2 := [(6, .int r128), (5, .int r126), (0, .ref b), (1, .ref (gad g 157)), (2, .ref (gad g 158)), (3, .ref (gad g 183)), (4, .int v4)]) C dL_law_135 (Nat.le_of_ble_eq_true rfl) rfl ?_
      refine ww_aload_n C dL_law_137 4 rfl ?_
      refine ww_cVf (As := []) (rest := []) C ok_X11_thrown bw_1042 dL_law_138 cm_X11_thrown rc_Model rfl ⟨Nat.le_of_ble_eq_true rfl, Nat.le_of_ble_eq_true rfl⟩ (Nat.le_of_ble_eq_true rfl) (c2 := cN + 1) (s2 := sN + 6) rfl rfl ⟨by show cN + 1 ≤ 600128; omega, by show sN + 6 ≤ 7301098; omega⟩ rfl ?_
      refine ww_iload C dL_law_141 1 rfl ?_
      refine ww_icmp_eq (tgt := 148) C dL_law_143 (by decide) (fun q129 => ?_) (fun q129 => ?_)
      · replace h := h.1 q129
        refine ww_iload C dL_law_148 1 rfl ?_
        refine ww_if_ne (tgt := 165) C dL_law_150 (by decide) (fun q130 => ?_) (fun q130 => ?_)
        · replace h := h.1 q130
          exact ww_sub [2, 3, 4, 5, 6] rfl (run_law_165 C hw hcN hsN hK hT_S127  h)
        · replace h := h.2 q130
          refine ww_aload_n C dL_law_153 5 rfl ?_
          refine ww_iconst (v := 0) C dL_law_154 (by decide) ?_
          refine ww_lald C dL_law_155 ?_
          refine ww_iload C dL_law_156 0 rfl ?_
          refine ww_i2l C dL_law_158 ?_
          refine ww_lcmp C dL_law_159 ?_
          refine ww_if_eq (tgt := 165) C dL_law_160 (by decide) (fun q131 => ?_) (fun q131 => ?_)
          · replace h := h.1 q131
            exact ww_sub [2, 3, 4, 5, 6] rfl (run_law_165 C hw hcN hsN hK hT_S127  h)
          · replace h := h.2 q131
            refine ww_iconst (v := 0) C dL_law_163 (by decide) ?_
            exact h.elim
      · replace h := h.2 q129
        refine ww_iconst (v := 0) C dL_law_146 (by decide) ?_
        exact h.elim
    by_cases q140 : ((xs v4.toNatClampNeg) &&& 15) = 1
    · replace h := h.2.1 q140
      refine ww_table_in (off := 129) (tgt := 168) C dL_law_39 (by rw [q140]; decide) (by rw [q140]; decide) (by rw [q140]; decide) (by decide) ?_
      refine ww_aload_n C dL_law_168 1 rfl ?_
      refine ww_aload_n C dL_law_169 3 rfl ?_
      refine ww_cHi (As := [.ref (gad g 157), .ref (gad g 183)]) (rest := []) C ok_L_contour bw_383 dL_law_170 (run_L_contour hw.2.2.2.2.1 (fun _ => h)) rfl ⟨Nat.le_of_ble_eq_true rfl, Nat.le_of_ble_eq_true rfl⟩ (Nat.le_of_ble_eq_true rfl) (c2 := cN + 1) (s2 := sN + 6) rfl rfl ⟨by show cN + 1 ≤ 600128; omega, by show sN + 6 ≤ 7301098; omega⟩ rfl (fun r134 S133 hp hTg => ?_)
      replace h := hp
      have hT_S133 : S133.2.2.1 = T0 := by rw [hTg]; exact hT
      refine ww_istore (lv2 := [(5, .int r134), (0, .ref b), (1, .ref (gad g 157)), (2, .ref (gad g 158)), (3, .ref (gad g 183)), (4, .int v4)]) C dL_law_173 (Nat.le_of_ble_eq_true rfl) rfl ?_
      refine ww_aload_n C dL_law_175 3 rfl ?_
      refine ww_cVi (As := []) (rest := []) C ok_X11_contour bw_1057 dL_law_176 (run_X11_contour  (fun _ => h)) rc_Model rfl ⟨Nat.le_of_ble_eq_true rfl, Nat.le_of_ble_eq_true rfl⟩ (Nat.le_of_ble_eq_true rfl) (c2 := cN + 1) (s2 := sN + 6) rfl rfl ⟨by show cN + 1 ≤ 600128; omega, by show sN + 6 ≤ 7301098; omega⟩ rfl (fun r136 S135 hp hTg => ?_)
      replace h := hp
      have hT_S135 : S135.2.2.1 = T0 := by rw [hTg]; exact hT_S133
      refine ww_istore (lv2 := [(6, .int r136), (5, .int r134), (0, .ref b), (1, .ref (gad g 157)), (2, .ref (gad g 158)), (3, .ref (gad g 183)), (4, .int v4)]) C dL_law_179 (Nat.le_of_ble_eq_true rfl) rfl ?_
      refine ww_aload_n C dL_law_181 4 rfl ?_
      refine ww_cVf (As := []) (rest := []) C ok_X11_thrown bw_1042 dL_law_182 cm_X11_thrown rc_Model rfl ⟨Nat.le_of_ble_eq_true rfl, Nat.le_of_ble_eq_true rfl⟩ (Nat.le_of_ble_eq_true rfl) (c2 := cN + 1) (s2 := sN + 6) rfl rfl ⟨by show cN + 1 ≤ 600128; omega, by show sN + 6 ≤ 7301098; omega⟩ rfl ?_
      refine ww_iload C dL_law_185 1 rfl ?_
      refine ww_icmp_eq (tgt := 192) C dL_law_187 (by decide) (fun q137 => ?_) (fun q137 => ?_)
      · replace h := h.1 q137
        refine ww_iload C dL_law_192 1 rfl ?_
        refine ww_if_ne (tgt := 209) C dL_law_194 (by decide) (fun q138 => ?_) (fun q138 => ?_)
        · replace h := h.1 q138
          exact ww_sub [2, 3, 4, 5, 6] rfl (run_law_209 C hw hcN hsN hK hT_S135  h)
        · replace h := h.2 q138
          refine ww_aload_n C dL_law_197 5 rfl ?_
          refine ww_iconst (v := 0) C dL_law_198 (by decide) ?_
          refine ww_lald C dL_law_199 ?_
          refine ww_iload C dL_law_200 0 rfl ?_
          refine ww_i2l C dL_law_202 ?_
          refine ww_lcmp C dL_law_203 ?_
          refine ww_if_eq (tgt := 209) C dL_law_204 (by decide) (fun q139 => ?_) (fun q139 => ?_)
          · replace h := h.1 q139
            exact ww_sub [2, 3, 4, 5, 6] rfl (run_law_209 C hw hcN hsN hK hT_S135  h)
          · replace h := h.2 q139
            refine ww_iconst (v := 0) C dL_law_207 (by decide) ?_
            exact h.elim
      · replace h := h.2 q137
        refine ww_iconst (v := 0) C dL_law_190 (by decide) ?_
        exact h.elim
    by_cases q142 : ((xs v4.toNatClampNeg) &&& 15) = 2
    · replace h := h.2.2.1 q142
      refine ww_table_in (off := 173) (tgt := 212) C dL_law_39 (by rw [q142]; decide) (by rw [q142]; decide) (by rw [q142]; decide) (by decide) ?_
      refine ww_aload_n C dL_law_212 1 rfl ?_
      refine ww_aload_n C dL_law_213 0 rfl ?_
      refine ww_iload C dL_law_214 4 rfl ?_
      refine ww_iconst (v := 1) C dL_law_216 (by decide) ?_
      refine ww_iadd C dL_law_217 ?_
      refine ww_sld C hw h.1 dL_law_218 ?_
      replace h := h.2
      refine ww_aload_n C dL_law_219 0 rfl ?_
      refine ww_iload C dL_law_220 4 rfl ?_
      refine ww_iconst (v := 2) C dL_law_222 (by decide) ?_
      refine ww_iadd C dL_law_223 ?_
      refine ww_sld C hw h.1 dL_law_224 ?_
      replace h := h.2
      refine ww_aload_n C dL_law_225 0 rfl ?_
      refine ww_iload C dL_law_226 4 rfl ?_
      refine ww_iconst (v := 3) C dL_law_228 (by decide) ?_
      refine ww_iadd C dL_law_229 ?_
      refine ww_sld C hw h.1 dL_law_230 ?_
      replace h := h.2
      refine ww_if_eq (tgt := 238) C dL_law_231 (by decide) (fun q141 => ?_) (fun q141 => ?_)
      · replace h := h.1 q141
        refine ww_iconst (v := 0) C dL_law_238 (by decide) ?_
        exact ww_sub [0, 1, 2, 3, 4] rfl (run_law_239 C hw hcN hsN hK hT  h)
      · replace h := h.2 q141
        refine ww_iconst (v := 1) C dL_law_234 (by decide) ?_
        refine ww_goto (tgt := 239) C dL_law_235 (by decide) ?_
        exact ww_sub [0, 1, 2, 3, 4] rfl (run_law_239 C hw hcN hsN hK hT  h)
    by_cases q150 : ((xs v4.toNatClampNeg) &&& 15) = 3
    · replace h := h.2.2.2.1 q150
      refine ww_table_in (off := 269) (tgt := 308) C dL_law_39 (by rw [q150]; decide) (by rw [q150]; decide) (by rw [q150]; decide) (by decide) ?_
      refine ww_aload_n C dL_law_308 1 rfl ?_
      refine ww_aload_n C dL_law_309 0 rfl ?_
      refine ww_iload C dL_law_310 4 rfl ?_
      refine ww_iconst (v := 1) C dL_law_312 (by decide) ?_
      refine ww_iadd C dL_law_313 ?_
      refine ww_sld C hw h.1 dL_law_314 ?_
      replace h := h.2
      refine ww_aload_n C dL_law_315 0 rfl ?_
      refine ww_iload C dL_law_316 4 rfl ?_
      refine ww_iconst (v := 2) C dL_law_318 (by decide) ?_
      refine ww_iadd C dL_law_319 ?_
      refine ww_sld C hw h.1 dL_law_320 ?_
      replace h := h.2
      refine ww_i2l C dL_law_321 ?_
      refine ww_bipush (v := 32) C dL_law_322 (by decide) ?_
      refine ww_lshl C dL_law_324 ?_
      refine ww_aload_n C dL_law_325 0 rfl ?_
      refine ww_iload C dL_law_326 4 rfl ?_
      refine ww_iconst (v := 3) C dL_law_328 (by decide) ?_
      refine ww_iadd C dL_law_329 ?_
      refine ww_sld C hw h.1 dL_law_330 ?_
      replace h := h.2
      refine ww_i2l C dL_law_331 ?_
      refine ww_ldc2 (v := 4294967295) C dL_law_332 bw_1294 ?_
      refine ww_land C dL_law_335 ?_
      refine ww_lor C dL_law_336 ?_
      refine ww_aload_n C dL_law_337 0 rfl ?_
      refine ww_iload C dL_law_338 4 rfl ?_
      refine ww_iconst (v := 4) C dL_law_340 (by decide) ?_
      refine ww_iadd C dL_law_341 ?_
      refine ww_sld C hw h.1 dL_law_342 ?_
      replace h := h.2
      refine ww_aload_n C dL_law_343 3 rfl ?_
      refine ww_cHi (As := [.ref (gad g 157), .int (xs ((v4 + 1).toNatClampNeg)), .long ((((xs ((v4 + 2).toNatClampNeg)).toInt64) <<< ((32 : Int32).toInt64 &&& 63)) ||| (((xs ((v4 + 3).toNatClampNeg)).toInt64) &&& 4294967295)), .int (xs ((v4 + 4).toNatClampNeg)), .ref (gad g 183)]) (rest := []) C ok_L_table bw_434 dL_law_344 (run_L_table hw.2.2.2.2.1 (fun _ => h)) rfl ⟨Nat.le_of_ble_eq_true rfl, Nat.le_of_ble_eq_true rfl⟩ (Nat.le_of_ble_eq_true rfl) (c2 := cN + 1) (s2 := sN + 6) rfl rfl ⟨by show cN + 1 ≤ 600128; omega, by show sN + 6 ≤ 7301098; omega⟩ rfl (fun r144 S143 hp hTg => ?_)
      replace h := hp
      have hT_S143 : S143.2.2.1 = T0 := by rw [hTg]; exact hT
      refine ww_istore (lv2 := [(5, .int r144), (0, .ref b), (1, .ref (gad g 157)), (2, .ref (gad g 158)), (3, .ref (gad g 183)), (4, .int v4)]) C dL_law_347 (Nat.le_of_ble_eq_true rfl) rfl ?_
      refine ww_aload_n C dL_law_349 3 rfl ?_
      refine ww_aload_n C dL_law_350 1 rfl ?_
      refine ww_iload C dL_law_351 5 rfl ?_
      refine ww_iconst (v := 1) C dL_law_353 (by decide) ?_
      refine ww_iadd C dL_law_354 ?_
      refine ww_sld C hw h.1 dL_law_355 ?_
      replace h := h.2
      refine ww_aload_n C dL_law_356 1 rfl ?_
      refine ww_iload C dL_law_357 5 rfl ?_
      refine ww_iconst (v := 2) C dL_law_359 (by decide) ?_
      refine ww_iadd C dL_law_360 ?_
      refine ww_sld C hw h.1 dL_law_361 ?_
      replace h := h.2
      refine ww_i2l C dL_law_362 ?_
      refine ww_bipush (v := 32) C dL_law_363 (by decide) ?_
      refine ww_lshl C dL_law_365 ?_
      refine ww_aload_n C dL_law_366 1 rfl ?_
      refine ww_iload C dL_law_367 5 rfl ?_
      refine ww_iconst (v := 3) C dL_law_369 (by decide) ?_
      refine ww_iadd C dL_law_370 ?_
      refine ww_sld C hw h.1 dL_law_371 ?_
      replace h := h.2
      refine ww_i2l C dL_law_372 ?_
      refine ww_ldc2 (v := 4294967295) C dL_law_373 bw_1294 ?_
      refine ww_land C dL_law_376 ?_
      refine ww_lor C dL_law_377 ?_
      refine ww_aload_n C dL_law_378 1 rfl ?_
      refine ww_iload C dL_law_379 5 rfl ?_
      refine ww_iconst (v := 4) C dL_law_381 (by decide) ?_
      refine ww_iadd C dL_law_382 ?_
      refine ww_sld C hw h.1 dL_law_383 ?_
      replace h := h.2
      refine ww_cVi (As := [.int (xs ((v4 + 1).toNatClampNeg)), .long ((((xs ((v4 + 2).toNatClampNeg)).toInt64) <<< ((32 : Int32).toInt64 &&& 63)) ||| (((xs ((v4 + 3).toNatClampNeg)).toInt64) &&& 4294967295)), .int (xs ((v4 + 4).toNatClampNeg))]) (rest := []) C ok_X11_table bw_1068 dL_law_384 (run_X11_table  (fun _ => h)) rc_Model rfl ⟨Nat.le_of_ble_eq_true rfl, Nat.le_of_ble_eq_true rfl⟩ (Nat.le_of_ble_eq_true rfl) (c2 := cN + 1) (s2 := sN + 6) rfl rfl ⟨by show cN + 1 ≤ 600128; omega, by show sN + 6 ≤ 7301098; omega⟩ rfl (fun r146 S145 hp hTg => ?_)
      replace h := hp
      have hT_S145 : S145.2.2.1 = T0 := by rw [hTg]; exact hT_S143
      refine ww_istore (lv2 := [(6, .int r146), (5, .int r144), (0, .ref b), (1, .ref (gad g 157)), (2, .ref (gad g 158)), (3, .ref (gad g 183)), (4, .int v4)]) C dL_law_387 (Nat.le_of_ble_eq_true rfl) rfl ?_
      refine ww_aload_n C dL_law_389 4 rfl ?_
      refine ww_cVf (As := []) (rest := []) C ok_X11_thrown bw_1042 dL_law_390 cm_X11_thrown rc_Model rfl ⟨Nat.le_of_ble_eq_true rfl, Nat.le_of_ble_eq_true rfl⟩ (Nat.le_of_ble_eq_true rfl) (c2 := cN + 1) (s2 := sN + 6) rfl rfl ⟨by show cN + 1 ≤ 600128; omega, by show sN + 6 ≤ 7301098; omega⟩ rfl ?_
      refine ww_iload C dL_law_393 1 rfl ?_
      refine ww_icmp_eq (tgt := 400) C dL_law_395 (by decide) (fun q147 => ?_) (fun q147 => ?_)
      · replace h := h.1 q147
        refine ww_iload C dL_law_400 1 rfl ?_
        refine ww_if_ne (tgt := 417) C dL_law_402 (by decide) (fun q148 => ?_) (fun q148 => ?_)
        · replace h := h.1 q148
          exact ww_sub [2, 3, 4, 5, 6] rfl (run_law_417 C hw hcN hsN hK hT_S145  h)
        · replace h := h.2 q148
          refine ww_aload_n C dL_law_405 5 rfl ?_
          refine ww_iconst (v := 0) C dL_law_406 (by decide) ?_
          refine ww_lald C dL_law_407 ?_
          refine ww_iload C dL_law_408 0 rfl ?_
          refine ww_i2l C dL_law_410 ?_
          refine ww_lcmp C dL_law_411 ?_
          refine ww_if_eq (tgt := 417) C dL_law_412 (by decide) (fun q149 => ?_) (fun q149 => ?_)
          · replace h := h.1 q149
            exact ww_sub [2, 3, 4, 5, 6] rfl (run_law_417 C hw hcN hsN hK hT_S145  h)
          · replace h := h.2 q149
            refine ww_iconst (v := 0) C dL_law_415 (by decide) ?_
            exact h.elim
      · replace h := h.2 q147
        refine ww_iconst (v := 0) C dL_law_398 (by decide) ?_
        exact h.elim
    by_cases q155 : ((xs v4.toNatClampNeg) &&& 15) = 4
    · replace h := h.2.2.2.2.1 q155
      refine ww_table_in (off := 381) (tgt := 420) C dL_law_39 (by rw [q155]; decide) (by rw [q155]; decide) (by rw [q155]; decide) (by decide) ?_
      refine ww_aload_n C dL_law_420 1 rfl ?_
      refine ww_cVv (As := []) (rest := []) C ok_X10_clear bw_228 dL_law_421 (run_X10_clear  (fun _ => h)) rc_FontPacker rfl ⟨Nat.le_of_ble_eq_true rfl, Nat.le_of_ble_eq_true rfl⟩ (Nat.le_of_ble_eq_true rfl) (c2 := cN + 0) (s2 := sN + 0) rfl rfl ⟨by show cN + 0 ≤ 600128; omega, by show sN + 0 ≤ 7301098; omega⟩ rfl (fun S151 hp hTg => ?_)
      replace h := hp
      have hT_S151 : S151.2.2.1 = T0 := by rw [hTg]; exact hT
      refine ww_aload_n C dL_law_424 2 rfl ?_
      refine ww_cVv (As := []) (rest := []) C ok_X11_clear bw_1073 dL_law_425 (run_X11_clear  (fun _ => h)) rc_Model rfl ⟨Nat.le_of_ble_eq_true rfl, Nat.le_of_ble_eq_true rfl⟩ (Nat.le_of_ble_eq_true rfl) (c2 := cN + 0) (s2 := sN + 0) rfl rfl ⟨by show cN + 0 ≤ 600128; omega, by show sN + 0 ≤ 7301098; omega⟩ rfl (fun S153 hp hTg => ?_)
      replace h := hp
      have hT_S153 : S153.2.2.1 = T0 := by rw [hTg]; exact hT_S151
      refine ww_goto (tgt := 952) C dL_law_428 (by decide) ?_
      refine ww_widen (c2 := cN + 7) (s2 := sN + 30) (by omega) (by omega) ?_
      exact ww_sub [0, 1, 2, 3, 4] rfl (run_law_952 C hw hcN hsN hK hT_S153  h)
    by_cases q163 : ((xs v4.toNatClampNeg) &&& 15) = 5
    · replace h := h.2.2.2.2.2.1 q163
      refine ww_table_in (off := 392) (tgt := 431) C dL_law_39 (by rw [q163]; decide) (by rw [q163]; decide) (by rw [q163]; decide) (by decide) ?_
      refine ww_aload_n C dL_law_431 1 rfl ?_
      refine ww_aload_n C dL_law_432 3 rfl ?_
      refine ww_cHi (As := [.ref (gad g 157), .ref (gad g 183)]) (rest := []) C ok_L_pack bw_455 dL_law_433 (run_L_pack hw.2.2.2.2.1 (fun _ => h)) rfl ⟨Nat.le_of_ble_eq_true rfl, Nat.le_of_ble_eq_true rfl⟩ (Nat.le_of_ble_eq_true rfl) (c2 := cN + 2) (s2 := sN + 9) rfl rfl ⟨by show cN + 2 ≤ 600128; omega, by show sN + 9 ≤ 7301098; omega⟩ rfl (fun r157 S156 hp hTg => ?_)
      replace h := hp
      have hT_S156 : S156.2.2.1 = T0 := by rw [hTg]; exact hT
      refine ww_istore (lv2 := [(5, .int r157), (0, .ref b), (1, .ref (gad g 157)), (2, .ref (gad g 158)), (3, .ref (gad g 183)), (4, .int v4)]) C dL_law_436 (Nat.le_of_ble_eq_true rfl) rfl ?_
      refine ww_aload_n C dL_law_438 3 rfl ?_
      refine ww_cVi (As := []) (rest := []) C ok_X11_pack bw_1077 dL_law_439 (run_X11_pack  (fun _ => h)) rc_Model rfl ⟨Nat.le_of_ble_eq_true rfl, Nat.le_of_ble_eq_true rfl⟩ (Nat.le_of_ble_eq_true rfl) (c2 := cN + 2) (s2 := sN + 9) rfl rfl ⟨by show cN + 2 ≤ 600128; omega, by show sN + 9 ≤ 7301098; omega⟩ rfl (fun r159 S158 hp hTg => ?_)
      replace h := hp
      have hT_S158 : S158.2.2.1 = T0 := by rw [hTg]; exact hT_S156
      refine ww_istore (lv2 := [(6, .int r159), (5, .int r157), (0, .ref b), (1, .ref (gad g 157)), (2, .ref (gad g 158)), (3, .ref (gad g 183)), (4, .int v4)]) C dL_law_442 (Nat.le_of_ble_eq_true rfl) rfl ?_
      refine ww_aload_n C dL_law_444 4 rfl ?_
      refine ww_cVf (As := []) (rest := []) C ok_X11_thrown bw_1042 dL_law_445 cm_X11_thrown rc_Model rfl ⟨Nat.le_of_ble_eq_true rfl, Nat.le_of_ble_eq_true rfl⟩ (Nat.le_of_ble_eq_true rfl) (c2 := cN + 2) (s2 := sN + 9) rfl rfl ⟨by show cN + 2 ≤ 600128; omega, by show sN + 9 ≤ 7301098; omega⟩ rfl ?_
      refine ww_iload C dL_law_448 1 rfl ?_
      refine ww_icmp_eq (tgt := 455) C dL_law_450 (by decide) (fun q160 => ?_) (fun q160 => ?_)
      · replace h := h.1 q160
        refine ww_iload C dL_law_455 1 rfl ?_
        refine ww_if_ne (tgt := 472) C dL_law_457 (by decide) (fun q161 => ?_) (fun q161 => ?_)
        · replace h := h.1 q161
          exact ww_sub [2, 3, 4, 5, 6] rfl (run_law_472 C hw hcN hsN hK hT_S158  h)
        · replace h := h.2 q161
          refine ww_aload_n C dL_law_460 5 rfl ?_
          refine ww_iconst (v := 0) C dL_law_461 (by decide) ?_
          refine ww_lald C dL_law_462 ?_
          refine ww_iload C dL_law_463 0 rfl ?_
          refine ww_i2l C dL_law_465 ?_
          refine ww_lcmp C dL_law_466 ?_
          refine ww_if_eq (tgt := 472) C dL_law_467 (by decide) (fun q162 => ?_) (fun q162 => ?_)
          · replace h := h.1 q162
            exact ww_sub [2, 3, 4, 5, 6] rfl (run_law_472 C hw hcN hsN hK hT_S158  h)
          · replace h := h.2 q162
            refine ww_iconst (v := 0) C dL_law_470 (by decide) ?_
            exact h.elim
      · replace h := h.2 q160
        refine ww_iconst (v := 0) C dL_law_453 (by decide) ?_
        exact h.elim
    by_cases q171 : ((xs v4.toNatClampNeg) &&& 15) = 6
    · replace h := h.2.2.2.2.2.2.1 q171
      refine ww_table_in (off := 436) (tgt := 475) C dL_law_39 (by rw [q171]; decide) (by rw [q171]; decide) (by rw [q171]; decide) (by decide) ?_
      refine ww_aload_n C dL_law_475 1 rfl ?_
      refine ww_aload_n C dL_law_476 3 rfl ?_
      refine ww_cHi (As := [.ref (gad g 157), .ref (gad g 183)]) (rest := []) C ok_L_plain bw_624 dL_law_477 (run_L_plain hw.2.2.2.2.1 (fun _ => h)) rfl ⟨Nat.le_of_ble_eq_true rfl, Nat.le_of_ble_eq_true rfl⟩ (Nat.le_of_ble_eq_true rfl) (c2 := cN + 1) (s2 := sN + 6) rfl rfl ⟨by show cN + 1 ≤ 600128; omega, by show sN + 6 ≤ 7301098; omega⟩ rfl (fun r165 S164 hp hTg => ?_)
      replace h := hp
      have hT_S164 : S164.2.2.1 = T0 := by rw [hTg]; exact hT
      refine ww_istore (lv2 := [(5, .int r165), (0, .ref b), (1, .ref (gad g 157)), (2, .ref (gad g 158)), (3, .ref (gad g 183)), (4, .int v4)]) C dL_law_480 (Nat.le_of_ble_eq_true rfl) rfl ?_
      refine ww_aload_n C dL_law_482 3 rfl ?_
      refine ww_cVi (As := []) (rest := []) C ok_X11_plain bw_1172 dL_law_483 (run_X11_plain  (fun _ => h)) rc_Model rfl ⟨Nat.le_of_ble_eq_true rfl, Nat.le_of_ble_eq_true rfl⟩ (Nat.le_of_ble_eq_true rfl) (c2 := cN + 1) (s2 := sN + 6) rfl rfl ⟨by show cN + 1 ≤ 600128; omega, by show sN + 6 ≤ 7301098; omega⟩ rfl (fun r167 S166 hp hTg => ?_)
      replace h := hp
      have hT_S166 : S166.2.2.1 = T0 := by rw [hTg]; exact hT_S164
      refine ww_istore (lv2 := [(6, .int r167), (5, .int r165), (0, .ref b), (1, .ref (gad g 157)), (2, .ref (gad g 158)), (3, .ref (gad g 183)), (4, .int v4)]) C dL_law_486 (Nat.le_of_ble_eq_true rfl) rfl ?_
      refine ww_aload_n C dL_law_488 4 rfl ?_
      refine ww_cVf (As := []) (rest := []) C ok_X11_thrown bw_1042 dL_law_489 cm_X11_thrown rc_Model rfl ⟨Nat.le_of_ble_eq_true rfl, Nat.le_of_ble_eq_true rfl⟩ (Nat.le_of_ble_eq_true rfl) (c2 := cN + 1) (s2 := sN + 6) rfl rfl ⟨by show cN + 1 ≤ 600128; omega, by show sN + 6 ≤ 7301098; omega⟩ rfl ?_
      refine ww_iload C dL_law_492 1 rfl ?_
      refine ww_icmp_eq (tgt := 499) C dL_law_494 (by decide) (fun q168 => ?_) (fun q168 => ?_)
      · replace h := h.1 q168
        refine ww_iload C dL_law_499 1 rfl ?_
        refine ww_if_ne (tgt := 516) C dL_law_501 (by decide) (fun q169 => ?_) (fun q169 => ?_)
        · replace h := h.1 q169
          exact ww_sub [2, 3, 4, 5, 6] rfl (run_law_516 C hw hcN hsN hK hT_S166  h)
        · replace h := h.2 q169
          refine ww_aload_n C dL_law_504 5 rfl ?_
          refine ww_iconst (v := 0) C dL_law_505 (by decide) ?_
          refine ww_lald C dL_law_506 ?_
          refine ww_iload C dL_law_507 0 rfl ?_
          refine ww_i2l C dL_law_509 ?_
          refine ww_lcmp C dL_law_510 ?_
          refine ww_if_eq (tgt := 516) C dL_law_511 (by decide) (fun q170 => ?_) (fun q170 => ?_)
          · replace h := h.1 q170
            exact ww_sub [2, 3, 4, 5, 6] rfl (run_law_516 C hw hcN hsN hK hT_S166  h)
          · replace h := h.2 q170
            refine ww_iconst (v := 0) C dL_law_514 (by decide) ?_
            exact h.elim
      · replace h := h.2 q168
        refine ww_iconst (v := 0) C dL_law_497 (by decide) ?_
        exact h.elim
    by_cases q179 : ((xs v4.toNatClampNeg) &&& 15) = 7
    · replace h := h.2.2.2.2.2.2.2.1 q179
      refine ww_table_in (off := 480) (tgt := 519) C dL_law_39 (by rw [q179]; decide) (by rw [q179]; decide) (by rw [q179]; decide) (by decide) ?_
      refine ww_aload_n C dL_law_519 1 rfl ?_
      refine ww_aload_n C dL_law_520 3 rfl ?_
      refine ww_cHi (As := [.ref (gad g 157), .ref (gad g 183)]) (rest := []) C ok_L_read bw_648 dL_law_521 (run_L_read hw.2.2.2.2.1 (fun _ => h)) rfl ⟨Nat.le_of_ble_eq_true rfl, Nat.le_of_ble_eq_true rfl⟩ (Nat.le_of_ble_eq_true rfl) (c2 := cN + 7) (s2 := sN + 30) rfl rfl ⟨by show cN + 7 ≤ 600128; omega, by show sN + 30 ≤ 7301098; omega⟩ rfl (fun r173 S172 hp hTg => ?_)
      replace h := hp
      have hT_S172 : S172.2.2.1 = T0 := by rw [hTg]; exact hT
      refine ww_istore (lv2 := [(5, .int r173), (0, .ref b), (1, .ref (gad g 157)), (2, .ref (gad g 158)), (3, .ref (gad g 183)), (4, .int v4)]) C dL_law_524 (Nat.le_of_ble_eq_true rfl) rfl ?_
      refine ww_aload_n C dL_law_526 3 rfl ?_
      refine ww_cVi (As := []) (rest := []) C ok_X11_read bw_1183 dL_law_527 (run_X11_read  (fun _ => h)) rc_Model rfl ⟨Nat.le_of_ble_eq_true rfl, Nat.le_of_ble_eq_true rfl⟩ (Nat.le_of_ble_eq_true rfl) (c2 := cN + 7) (s2 := sN + 30) rfl rfl ⟨by show cN + 7 ≤ 600128; omega, by show sN + 30 ≤ 7301098; omega⟩ rfl (fun r175 S174 hp hTg => ?_)
      replace h := hp
      have hT_S174 : S174.2.2.1 = T0 := by rw [hTg]; exact hT_S172
      refine ww_istore (lv2 := [(6, .int r175), (5, .int r173), (0, .ref b), (1, .ref (gad g 157)), (2, .ref (gad g 158)), (3, .ref (gad g 183)), (4, .int v4)]) C dL_law_530 (Nat.le_of_ble_eq_true rfl) rfl ?_
      refine ww_aload_n C dL_law_532 4 rfl ?_
      refine ww_cVf (As := []) (rest := []) C ok_X11_thrown bw_1042 dL_law_533 cm_X11_thrown rc_Model rfl ⟨Nat.le_of_ble_eq_true rfl, Nat.le_of_ble_eq_true rfl⟩ (Nat.le_of_ble_eq_true rfl) (c2 := cN + 7) (s2 := sN + 30) rfl rfl ⟨by show cN + 7 ≤ 600128; omega, by show sN + 30 ≤ 7301098; omega⟩ rfl ?_
      refine ww_iload C dL_law_536 1 rfl ?_
      refine ww_icmp_eq (tgt := 543) C dL_law_538 (by decide) (fun q176 => ?_) (fun q176 => ?_)
      · replace h := h.1 q176
        refine ww_iload C dL_law_543 1 rfl ?_
        refine ww_if_ne (tgt := 560) C dL_law_545 (by decide) (fun q177 => ?_) (fun q177 => ?_)
        · replace h := h.1 q177
          exact ww_sub [2, 3, 4, 5, 6] rfl (run_law_560 C hw hcN hsN hK hT_S174  h)
        · replace h := h.2 q177
          refine ww_aload_n C dL_law_548 5 rfl ?_
          refine ww_iconst (v := 0) C dL_law_549 (by decide) ?_
          refine ww_lald C dL_law_550 ?_
          refine ww_iload C dL_law_551 0 rfl ?_
          refine ww_i2l C dL_law_553 ?_
          refine ww_lcmp C dL_law_554 ?_
          refine ww_if_eq (tgt := 560) C dL_law_555 (by decide) (fun q178 => ?_) (fun q178 => ?_)
          · replace h := h.1 q178
            exact ww_sub [2, 3, 4, 5, 6] rfl (run_law_560 C hw hcN hsN hK hT_S174  h)
          · replace h := h.2 q178
            refine ww_iconst (v := 0) C dL_law_558 (by decide) ?_
            exact h.elim
      · replace h := h.2 q176
        refine ww_iconst (v := 0) C dL_law_541 (by decide) ?_
        exact h.elim
    by_cases q183 : ((xs v4.toNatClampNeg) &&& 15) = 8
    · replace h := h.2.2.2.2.2.2.2.2.1 q183
      refine ww_table_in (off := 524) (tgt := 563) C dL_law_39 (by rw [q183]; decide) (by rw [q183]; decide) (by rw [q183]; decide) (by decide) ?_
      refine ww_aload_n C dL_law_563 1 rfl ?_
      refine ww_cVf (As := []) (rest := []) C ok_X10_stage bw_240 dL_law_564 cm_X10_stage rc_FontPacker rfl ⟨Nat.le_of_ble_eq_true rfl, Nat.le_of_ble_eq_true rfl⟩ (Nat.le_of_ble_eq_true rfl) (c2 := cN + 0) (s2 := sN + 0) rfl rfl ⟨by show cN + 0 ≤ 600128; omega, by show sN + 0 ≤ 7301098; omega⟩ rfl ?_
      refine ww_aload_n C dL_law_567 2 rfl ?_
      refine ww_cVi (As := []) (rest := [.int (fv_X10_stage S)]) C ok_X11_stage bw_1262 dL_law_568 cm_X11_stage rc_Model rfl ⟨Nat.le_of_ble_eq_true rfl, Nat.le_of_ble_eq_true rfl⟩ (Nat.le_of_ble_eq_true rfl) (c2 := cN + 0) (s2 := sN + 0) rfl rfl ⟨by show cN + 0 ≤ 600128; omega, by show sN + 0 ≤ 7301098; omega⟩ rfl (fun r181 S180 hp hTg => ?_)
      obtain ⟨e_r181, e_S180⟩ := hp
      replace h := h r181 S180 e_r181 e_S180
      have hT_S180 : S180.2.2.1 = T0 := by rw [hTg]; exact hT
      refine ww_icmp_eq (tgt := 952) C dL_law_571 (by decide) (fun q182 => ?_) (fun q182 => ?_)
      · replace h := h.1 q182
        refine ww_widen (c2 := cN + 7) (s2 := sN + 30) (by omega) (by omega) ?_
        exact ww_sub [0, 1, 2, 3, 4] rfl (run_law_952 C hw hcN hsN hK hT_S180  h)
      · replace h := h.2 q182
        refine ww_iconst (v := 0) C dL_law_574 (by decide) ?_
        exact h.elim
    by_cases q191 : ((xs v4.toNatClampNeg) &&& 15) = 9
    · replace h := h.2.2.2.2.2.2.2.2.2.1 q191
      refine ww_table_in (off := 537) (tgt := 576) C dL_law_39 (by rw [q191]; decide) (by rw [q191]; decide) (by rw [q191]; decide) (by decide) ?_
      refine ww_aload_n C dL_law_576 1 rfl ?_
      refine ww_aload_n C dL_law_577 0 rfl ?_
      refine ww_iload C dL_law_578 4 rfl ?_
      refine ww_iconst (v := 1) C dL_law_580 (by decide) ?_
      refine ww_iadd C dL_law_581 ?_
      refine ww_sld C hw h.1 dL_law_582 ?_
      replace h := h.2
      refine ww_i2l C dL_law_583 ?_
      refine ww_bipush (v := 32) C dL_law_584 (by decide) ?_
      refine ww_lshl C dL_law_586 ?_
      refine ww_aload_n C dL_law_587 0 rfl ?_
      refine ww_iload C dL_law_588 4 rfl ?_
      refine ww_iconst (v := 2) C dL_law_590 (by decide) ?_
      refine ww_iadd C dL_law_591 ?_
      refine ww_sld C hw h.1 dL_law_592 ?_
      replace h := h.2
      refine ww_i2l C dL_law_593 ?_
      refine ww_ldc2 (v := 4294967295) C dL_law_594 bw_1294 ?_
      refine ww_land C dL_law_597 ?_
      refine ww_lor C dL_law_598 ?_
      refine ww_aload_n C dL_law_599 0 rfl ?_
      refine ww_iload C dL_law_600 4 rfl ?_
      refine ww_iconst (v := 3) C dL_law_602 (by decide) ?_
      refine ww_iadd C dL_law_603 ?_
      refine ww_sld C hw h.1 dL_law_604 ?_
      replace h := h.2
      refine ww_aload_n C dL_law_605 3 rfl ?_
      refine ww_cHi (As := [.ref (gad g 157), .long ((((xs ((v4 + 1).toNatClampNeg)).toInt64) <<< ((32 : Int32).toInt64 &&& 63)) ||| (((xs ((v4 + 2).toNatClampNeg)).toInt64) &&& 4294967295)), .int (xs ((v4 + 3).toNatClampNeg)), .ref (gad g 183)]) (rest := []) C ok_L_put bw_824 dL_law_606 (run_L_put hw.2.2.2.2.1 (fun _ => h)) rfl ⟨Nat.le_of_ble_eq_true rfl, Nat.le_of_ble_eq_true rfl⟩ (Nat.le_of_ble_eq_true rfl) (c2 := cN + 1) (s2 := sN + 6) rfl rfl ⟨by show cN + 1 ≤ 600128; omega, by show sN + 6 ≤ 7301098; omega⟩ rfl (fun r185 S184 hp hTg => ?_)
      replace h := hp
      have hT_S184 : S184.2.2.1 = T0 := by rw [hTg]; exact hT
      refine ww_istore (lv2 := [(5, .int r185), (0, .ref b), (1, .ref (gad g 157)), (2, .ref (gad g 158)), (3, .ref (gad g 183)), (4, .int v4)]) C dL_law_609 (Nat.le_of_ble_eq_true rfl) rfl ?_
      refine ww_aload_n C dL_law_611 3 rfl ?_
      refine ww_aload_n C dL_law_612 1 rfl ?_
      refine ww_iload C dL_law_613 5 rfl ?_
      refine ww_iconst (v := 1) C dL_law_615 (by decide) ?_
      refine ww_iadd C dL_law_616 ?_
      refine ww_sld C hw h.1 dL_law_617 ?_
      replace h := h.2
      refine ww_i2l C dL_law_618 ?_
      refine ww_bipush (v := 32) C dL_law_619 (by decide) ?_
      refine ww_lshl C dL_law_621 ?_
      refine ww_aload_n C dL_law_622 1 rfl ?_
      refine ww_iload C dL_law_623 5 rfl ?_
      refine ww_iconst (v := 2) C dL_law_625 (by decide) ?_
      refine ww_iadd C dL_law_626 ?_
      refine ww_sld C hw h.1 dL_law_627 ?_
      replace h := h.2
      refine ww_i2l C dL_law_628 ?_
      refine ww_ldc2 (v := 4294967295) C dL_law_629 bw_1294 ?_
      refine ww_land C dL_law_632 ?_
      refine ww_lor C dL_law_633 ?_
      refine ww_aload_n C dL_law_634 1 rfl ?_
      refine ww_iload C dL_law_635 5 rfl ?_
      refine ww_iconst (v := 3) C dL_law_637 (by decide) ?_
      refine ww_iadd C dL_law_638 ?_
      refine ww_sld C hw h.1 dL_law_639 ?_
      replace h := h.2
      refine ww_cVi (As := [.long ((((xs ((v4 + 1).toNatClampNeg)).toInt64) <<< ((32 : Int32).toInt64 &&& 63)) ||| (((xs ((v4 + 2).toNatClampNeg)).toInt64) &&& 4294967295)), .int (xs ((v4 + 3).toNatClampNeg))]) (rest := []) C ok_X11_put bw_1266 dL_law_640 (run_X11_put  (fun _ => h)) rc_Model rfl ⟨Nat.le_of_ble_eq_true rfl, Nat.le_of_ble_eq_true rfl⟩ (Nat.le_of_ble_eq_true rfl) (c2 := cN + 1) (s2 := sN + 6) rfl rfl ⟨by show cN + 1 ≤ 600128; omega, by show sN + 6 ≤ 7301098; omega⟩ rfl (fun r187 S186 hp hTg => ?_)
      replace h := hp
      have hT_S186 : S186.2.2.1 = T0 := by rw [hTg]; exact hT_S184
      refine ww_istore (lv2 := [(6, .int r187), (5, .int r185), (0, .ref b), (1, .ref (gad g 157)), (2, .ref (gad g 158)), (3, .ref (gad g 183)), (4, .int v4)]) C dL_law_643 (Nat.le_of_ble_eq_true rfl) rfl ?_
      refine ww_aload_n C dL_law_645 4 rfl ?_
      refine ww_cVf (As := []) (rest := []) C ok_X11_thrown bw_1042 dL_law_646 cm_X11_thrown rc_Model rfl ⟨Nat.le_of_ble_eq_true rfl, Nat.le_of_ble_eq_true rfl⟩ (Nat.le_of_ble_eq_true rfl) (c2 := cN + 1) (s2 := sN + 6) rfl rfl ⟨by show cN + 1 ≤ 600128; omega, by show sN + 6 ≤ 7301098; omega⟩ rfl ?_
      refine ww_iload C dL_law_649 1 rfl ?_
      refine ww_icmp_eq (tgt := 656) C dL_law_651 (by decide) (fun q188 => ?_) (fun q188 => ?_)
      · replace h := h.1 q188
        refine ww_iload C dL_law_656 1 rfl ?_
        refine ww_if_ne (tgt := 673) C dL_law_658 (by decide) (fun q189 => ?_) (fun q189 => ?_)
        · replace h := h.1 q189
          exact ww_sub [2, 3, 4, 5, 6] rfl (run_law_673 C hw hcN hsN hK hT_S186  h)
        · replace h := h.2 q189
          refine ww_aload_n C dL_law_661 5 rfl ?_
          refine ww_iconst (v := 0) C dL_law_662 (by decide) ?_
          refine ww_lald C dL_law_663 ?_
          refine ww_iload C dL_law_664 0 rfl ?_
          refine ww_i2l C dL_law_666 ?_
          refine ww_lcmp C dL_law_667 ?_
          refine ww_if_eq (tgt := 673) C dL_law_668 (by decide) (fun q190 => ?_) (fun q190 => ?_)
          · replace h := h.1 q190
            exact ww_sub [2, 3, 4, 5, 6] rfl (run_law_673 C hw hcN hsN hK hT_S186  h)
          · replace h := h.2 q190
            refine ww_iconst (v := 0) C dL_law_671 (by decide) ?_
            exact h.elim
      · replace h := h.2 q188
        refine ww_iconst (v := 0) C dL_law_654 (by decide) ?_
        exact h.elim
    by_cases q197 : ((xs v4.toNatClampNeg) &&& 15) = 10
    · replace h := h.2.2.2.2.2.2.2.2.2.2.1 q197
      refine ww_table_in (off := 637) (tgt := 676) C dL_law_39 (by rw [q197]; decide) (by rw [q197]; decide) (by rw [q197]; decide) (by decide) ?_
      refine ww_aload_n C dL_law_676 1 rfl ?_
      refine ww_aload_n C dL_law_677 0 rfl ?_
      refine ww_iload C dL_law_678 4 rfl ?_
      refine ww_iconst (v := 1) C dL_law_680 (by decide) ?_
      refine ww_iadd C dL_law_681 ?_
      refine ww_sld C hw h.1 dL_law_682 ?_
      replace h := h.2
      refine ww_aload_n C dL_law_683 0 rfl ?_
      refine ww_iload C dL_law_684 4 rfl ?_
      refine ww_iconst (v := 2) C dL_law_686 (by decide) ?_
      refine ww_iadd C dL_law_687 ?_
      refine ww_sld C hw h.1 dL_law_688 ?_
      replace h := h.2
      refine ww_cHi (As := [.ref (gad g 157), .int (xs ((v4 + 1).toNatClampNeg)), .int (xs ((v4 + 2).toNatClampNeg))]) (rest := []) C ok_L_set bw_832 dL_law_689 (run_L_set hw.2.2.2.2.1 (fun _ => h)) rfl ⟨Nat.le_of_ble_eq_true rfl, Nat.le_of_ble_eq_true rfl⟩ (Nat.le_of_ble_eq_true rfl) (c2 := cN + 2) (s2 := sN + 12) rfl rfl ⟨by show cN + 2 ≤ 600128; omega, by show sN + 12 ≤ 7301098; omega⟩ rfl (fun r193 S192 hp hTg => ?_)
      replace h := hp
      have hT_S192 : S192.2.2.1 = T0 := by rw [hTg]; exact hT
      refine ww_istore (lv2 := [(5, .int r193), (0, .ref b), (1, .ref (gad g 157)), (2, .ref (gad g 158)), (3, .ref (gad g 183)), (4, .int v4)]) C dL_law_692 (Nat.le_of_ble_eq_true rfl) rfl ?_
      refine ww_aload_n C dL_law_694 3 rfl ?_
      refine ww_aload_n C dL_law_695 1 rfl ?_
      refine ww_iload C dL_law_696 5 rfl ?_
      refine ww_iconst (v := 1) C dL_law_698 (by decide) ?_
      refine ww_iadd C dL_law_699 ?_
      refine ww_sld C hw h.1 dL_law_700 ?_
      replace h := h.2
      refine ww_aload_n C dL_law_701 1 rfl ?_
      refine ww_iload C dL_law_702 5 rfl ?_
      refine ww_iconst (v := 2) C dL_law_704 (by decide) ?_
      refine ww_iadd C dL_law_705 ?_
      refine ww_sld C hw h.1 dL_law_706 ?_
      replace h := h.2
      refine ww_cVv (As := [.int (xs ((v4 + 1).toNatClampNeg)), .int (xs ((v4 + 2).toNatClampNeg))]) (rest := []) C ok_X11_set bw_1270 dL_law_707 (run_X11_set  (fun _ => h)) rc_Model rfl ⟨Nat.le_of_ble_eq_true rfl, Nat.le_of_ble_eq_true rfl⟩ (Nat.le_of_ble_eq_true rfl) (c2 := cN + 2) (s2 := sN + 12) rfl rfl ⟨by show cN + 2 ≤ 600128; omega, by show sN + 12 ≤ 7301098; omega⟩ rfl (fun S194 hp hTg => ?_)
      replace h := hp
      have hT_S194 : S194.2.2.1 = T0 := by rw [hTg]; exact hT_S192
      refine ww_aload_n C dL_law_710 3 rfl ?_
      refine ww_cVf (As := []) (rest := []) C ok_X11_thrown bw_1042 dL_law_711 cm_X11_thrown rc_Model rfl ⟨Nat.le_of_ble_eq_true rfl, Nat.le_of_ble_eq_true rfl⟩ (Nat.le_of_ble_eq_true rfl) (c2 := cN + 2) (s2 := sN + 12) rfl rfl ⟨by show cN + 2 ≤ 600128; omega, by show sN + 12 ≤ 7301098; omega⟩ rfl ?_
      refine ww_iload C dL_law_714 0 rfl ?_
      refine ww_icmp_eq (tgt := 721) C dL_law_716 (by decide) (fun q196 => ?_) (fun q196 => ?_)
      · replace h := h.1 q196
        refine ww_goto (tgt := 952) C dL_law_721 (by decide) ?_
        refine ww_widen (c2 := cN + 7) (s2 := sN + 30) (by omega) (by omega) ?_
        exact ww_sub [1, 2, 3, 4, 5] rfl (run_law_952 C hw hcN hsN hK hT_S194  h)
      · replace h := h.2 q196
        refine ww_iconst (v := 0) C dL_law_719 (by decide) ?_
        exact h.elim
    by_cases q202 : ((xs v4.toNatClampNeg) &&& 15) = 11
    · replace h := h.2.2.2.2.2.2.2.2.2.2.2.1 q202
      refine ww_table_in (off := 685) (tgt := 724) C dL_law_39 (by rw [q202]; decide) (by rw [q202]; decide) (by rw [q202]; decide) (by decide) ?_
      refine ww_aload_n C dL_law_724 1 rfl ?_
      refine ww_aload_n C dL_law_725 0 rfl ?_
      refine ww_iload C dL_law_726 4 rfl ?_
      refine ww_iconst (v := 1) C dL_law_728 (by decide) ?_
      refine ww_iadd C dL_law_729 ?_
      refine ww_sld C hw h.1 dL_law_730 ?_
      replace h := h.2
      refine ww_cHi (As := [.ref (gad g 157), .int (xs ((v4 + 1).toNatClampNeg))]) (rest := []) C ok_L_cut bw_862 dL_law_731 (run_L_cut hw.2.2.2.2.1 (fun _ => h)) rfl ⟨Nat.le_of_ble_eq_true rfl, Nat.le_of_ble_eq_true rfl⟩ (Nat.le_of_ble_eq_true rfl) (c2 := cN + 1) (s2 := sN + 6) rfl rfl ⟨by show cN + 1 ≤ 600128; omega, by show sN + 6 ≤ 7301098; omega⟩ rfl (fun r199 S198 hp hTg => ?_)
      replace h := hp
      have hT_S198 : S198.2.2.1 = T0 := by rw [hTg]; exact hT
      refine ww_istore (lv2 := [(5, .int r199), (0, .ref b), (1, .ref (gad g 157)), (2, .ref (gad g 158)), (3, .ref (gad g 183)), (4, .int v4)]) C dL_law_734 (Nat.le_of_ble_eq_true rfl) rfl ?_
      refine ww_aload_n C dL_law_736 3 rfl ?_
      refine ww_aload_n C dL_law_737 1 rfl ?_
      refine ww_iload C dL_law_738 5 rfl ?_
      refine ww_iconst (v := 1) C dL_law_740 (by decide) ?_
      refine ww_iadd C dL_law_741 ?_
      refine ww_sld C hw h.1 dL_law_742 ?_
      replace h := h.2
      refine ww_cVg (As := [.int (xs ((v4 + 1).toNatClampNeg))]) (rest := []) C ok_X11_cut bw_1274 dL_law_743 cm_X11_cut rc_Model rfl ⟨Nat.le_of_ble_eq_true rfl, Nat.le_of_ble_eq_true rfl⟩ (Nat.le_of_ble_eq_true rfl) (c2 := cN + 1) (s2 := sN + 6) rfl rfl ⟨by show cN + 1 ≤ 600128; omega, by show sN + 6 ≤ 7301098; omega⟩ rfl (fun hTg => ?_)
      refine ww_nm (fun S200 e_S200 => ?_)
      replace h := h S200 e_S200
      have hT_S200 : S200.2.2.1 = T0 := by rw [e_S200, hTg]; exact hT_S198
      refine ww_aload_n C dL_law_746 3 rfl ?_
      refine ww_cVf (As := []) (rest := []) C ok_X11_thrown bw_1042 dL_law_747 cm_X11_thrown rc_Model rfl ⟨Nat.le_of_ble_eq_true rfl, Nat.le_of_ble_eq_true rfl⟩ (Nat.le_of_ble_eq_true rfl) (c2 := cN + 1) (s2 := sN + 6) rfl rfl ⟨by show cN + 1 ≤ 600128; omega, by show sN + 6 ≤ 7301098; omega⟩ rfl ?_
      refine ww_iload C dL_law_750 0 rfl ?_
      refine ww_icmp_eq (tgt := 757) C dL_law_752 (by decide) (fun q201 => ?_) (fun q201 => ?_)
      · replace h := h.1 q201
        refine ww_goto (tgt := 952) C dL_law_757 (by decide) ?_
        refine ww_widen (c2 := cN + 7) (s2 := sN + 30) (by omega) (by omega) ?_
        exact ww_sub [1, 2, 3, 4, 5] rfl (run_law_952 C hw hcN hsN hK hT_S200  h)
      · replace h := h.2 q201
        refine ww_iconst (v := 0) C dL_law_755 (by decide) ?_
        exact h.elim
    by_cases q210 : ((xs v4.toNatClampNeg) &&& 15) = 12
    · replace h := h.2.2.2.2.2.2.2.2.2.2.2.2.1 q210
      refine ww_table_in (off := 721) (tgt := 760) C dL_law_39 (by rw [q210]; decide) (by rw [q210]; decide) (by rw [q210]; decide) (by decide) ?_
      refine ww_aload_n C dL_law_760 1 rfl ?_
      refine ww_aload_n C dL_law_761 0 rfl ?_
      refine ww_iload C dL_law_762 4 rfl ?_
      refine ww_iconst (v := 1) C dL_law_764 (by decide) ?_
      refine ww_iadd C dL_law_765 ?_
      refine ww_sld C hw h.1 dL_law_766 ?_
      replace h := h.2
      refine ww_aload_n C dL_law_767 3 rfl ?_
      refine ww_cHi (As := [.ref (gad g 157), .int (xs ((v4 + 1).toNatClampNeg)), .ref (gad g 183)]) (rest := []) C ok_L_at bw_874 dL_law_768 (run_L_at hw.2.2.2.2.1 (fun _ => h)) rfl ⟨Nat.le_of_ble_eq_true rfl, Nat.le_of_ble_eq_true rfl⟩ (Nat.le_of_ble_eq_true rfl) (c2 := cN + 1) (s2 := sN + 6) rfl rfl ⟨by show cN + 1 ≤ 600128; omega, by show sN + 6 ≤ 7301098; omega⟩ rfl (fun r204 S203 hp hTg => ?_)
      replace h := hp
      have hT_S203 : S203.2.2.1 = T0 := by rw [hTg]; exact hT
      refine ww_istore (lv2 := [(5, .int r204), (0, .ref b), (1, .ref (gad g 157)), (2, .ref (gad g 158)), (3, .ref (gad g 183)), (4, .int v4)]) C dL_law_771 (Nat.le_of_ble_eq_true rfl) rfl ?_
      refine ww_aload_n C dL_law_773 3 rfl ?_
      refine ww_aload_n C dL_law_774 1 rfl ?_
      refine ww_iload C dL_law_775 5 rfl ?_
      refine ww_iconst (v := 1) C dL_law_777 (by decide) ?_
      refine ww_iadd C dL_law_778 ?_
      refine ww_sld C hw h.1 dL_law_779 ?_
      replace h := h.2
      refine ww_cVi (As := [.int (xs ((v4 + 1).toNatClampNeg))]) (rest := []) C ok_X11_at bw_1278 dL_law_780 (run_X11_at  (fun _ => h)) rc_Model rfl ⟨Nat.le_of_ble_eq_true rfl, Nat.le_of_ble_eq_true rfl⟩ (Nat.le_of_ble_eq_true rfl) (c2 := cN + 1) (s2 := sN + 6) rfl rfl ⟨by show cN + 1 ≤ 600128; omega, by show sN + 6 ≤ 7301098; omega⟩ rfl (fun r206 S205 hp hTg => ?_)
      replace h := hp
      have hT_S205 : S205.2.2.1 = T0 := by rw [hTg]; exact hT_S203
      refine ww_istore (lv2 := [(6, .int r206), (5, .int r204), (0, .ref b), (1, .ref (gad g 157)), (2, .ref (gad g 158)), (3, .ref (gad g 183)), (4, .int v4)]) C dL_law_783 (Nat.le_of_ble_eq_true rfl) rfl ?_
      refine ww_aload_n C dL_law_785 4 rfl ?_
      refine ww_cVf (As := []) (rest := []) C ok_X11_thrown bw_1042 dL_law_786 cm_X11_thrown rc_Model rfl ⟨Nat.le_of_ble_eq_true rfl, Nat.le_of_ble_eq_true rfl⟩ (Nat.le_of_ble_eq_true rfl) (c2 := cN + 1) (s2 := sN + 6) rfl rfl ⟨by show cN + 1 ≤ 600128; omega, by show sN + 6 ≤ 7301098; omega⟩ rfl ?_
      refine ww_iload C dL_law_789 1 rfl ?_
      refine ww_icmp_eq (tgt := 796) C dL_law_791 (by decide) (fun q207 => ?_) (fun q207 => ?_)
      · replace h := h.1 q207
        refine ww_iload C dL_law_796 1 rfl ?_
        refine ww_if_ne (tgt := 813) C dL_law_798 (by decide) (fun q208 => ?_) (fun q208 => ?_)
        · replace h := h.1 q208
          exact ww_sub [2, 3, 4, 5, 6] rfl (run_law_813 C hw hcN hsN hK hT_S205  h)
        · replace h := h.2 q208
          refine ww_aload_n C dL_law_801 5 rfl ?_
          refine ww_iconst (v := 0) C dL_law_802 (by decide) ?_
          refine ww_lald C dL_law_803 ?_
          refine ww_iload C dL_law_804 0 rfl ?_
          refine ww_i2l C dL_law_806 ?_
          refine ww_lcmp C dL_law_807 ?_
          refine ww_if_eq (tgt := 813) C dL_law_808 (by decide) (fun q209 => ?_) (fun q209 => ?_)
          · replace h := h.1 q209
            exact ww_sub [2, 3, 4, 5, 6] rfl (run_law_813 C hw hcN hsN hK hT_S205  h)
          · replace h := h.2 q209
            refine ww_iconst (v := 0) C dL_law_811 (by decide) ?_
            exact h.elim
      · replace h := h.2 q207
        refine ww_iconst (v := 0) C dL_law_794 (by decide) ?_
        exact h.elim
    by_cases q218 : ((xs v4.toNatClampNeg) &&& 15) = 13
    · replace h := h.2.2.2.2.2.2.2.2.2.2.2.2.2.1 q218
      refine ww_table_in (off := 777) (tgt := 816) C dL_law_39 (by rw [q218]; decide) (by rw [q218]; decide) (by rw [q218]; decide) (by decide) ?_
      refine ww_aload_n C dL_law_816 1 rfl ?_
      refine ww_aload_n C dL_law_817 0 rfl ?_
      refine ww_iload C dL_law_818 4 rfl ?_
      refine ww_iconst (v := 1) C dL_law_820 (by decide) ?_
      refine ww_iadd C dL_law_821 ?_
      refine ww_sld C hw h.1 dL_law_822 ?_
      replace h := h.2
      refine ww_aload_n C dL_law_823 3 rfl ?_
      refine ww_cHi (As := [.ref (gad g 157), .int (xs ((v4 + 1).toNatClampNeg)), .ref (gad g 183)]) (rest := []) C ok_L_count bw_882 dL_law_824 (run_L_count hw.2.2.2.2.1 (fun _ => h)) rfl ⟨Nat.le_of_ble_eq_true rfl, Nat.le_of_ble_eq_true rfl⟩ (Nat.le_of_ble_eq_true rfl) (c2 := cN + 1) (s2 := sN + 6) rfl rfl ⟨by show cN + 1 ≤ 600128; omega, by show sN + 6 ≤ 7301098; omega⟩ rfl (fun r212 S211 hp hTg => ?_)
      replace h := hp
      have hT_S211 : S211.2.2.1 = T0 := by rw [hTg]; exact hT
      refine ww_istore (lv2 := [(5, .int r212), (0, .ref b), (1, .ref (gad g 157)), (2, .ref (gad g 158)), (3, .ref (gad g 183)), (4, .int v4)]) C dL_law_827 (Nat.le_of_ble_eq_true rfl) rfl ?_
      refine ww_aload_n C dL_law_829 3 rfl ?_
      refine ww_aload_n C dL_law_830 1 rfl ?_
      refine ww_iload C dL_law_831 5 rfl ?_
      refine ww_iconst (v := 1) C dL_law_833 (by decide) ?_
      refine ww_iadd C dL_law_834 ?_
      refine ww_sld C hw h.1 dL_law_835 ?_
      replace h := h.2
      refine ww_cVi (As := [.int (xs ((v4 + 1).toNatClampNeg))]) (rest := []) C ok_X11_count bw_1282 dL_law_836 (run_X11_count  (fun _ => h)) rc_Model rfl ⟨Nat.le_of_ble_eq_true rfl, Nat.le_of_ble_eq_true rfl⟩ (Nat.le_of_ble_eq_true rfl) (c2 := cN + 1) (s2 := sN + 6) rfl rfl ⟨by show cN + 1 ≤ 600128; omega, by show sN + 6 ≤ 7301098; omega⟩ rfl (fun r214 S213 hp hTg => ?_)
      replace h := hp
      have hT_S213 : S213.2.2.1 = T0 := by rw [hTg]; exact hT_S211
      refine ww_istore (lv2 := [(6, .int r214), (5, .int r212), (0, .ref b), (1, .ref (gad g 157)), (2, .ref (gad g 158)), (3, .ref (gad g 183)), (4, .int v4)]) C dL_law_839 (Nat.le_of_ble_eq_true rfl) rfl ?_
      refine ww_aload_n C dL_law_841 4 rfl ?_
      refine ww_cVf (As := []) (rest := []) C ok_X11_thrown bw_1042 dL_law_842 cm_X11_thrown rc_Model rfl ⟨Nat.le_of_ble_eq_true rfl, Nat.le_of_ble_eq_true rfl⟩ (Nat.le_of_ble_eq_true rfl) (c2 := cN + 1) (s2 := sN + 6) rfl rfl ⟨by show cN + 1 ≤ 600128; omega, by show sN + 6 ≤ 7301098; omega⟩ rfl ?_
      refine ww_iload C dL_law_845 1 rfl ?_
      refine ww_icmp_eq (tgt := 852) C dL_law_847 (by decide) (fun q215 => ?_) (fun q215 => ?_)
      · replace h := h.1 q215
        refine ww_iload C dL_law_852 1 rfl ?_
        refine ww_if_ne (tgt := 869) C dL_law_854 (by decide) (fun q216 => ?_) (fun q216 => ?_)
        · replace h := h.1 q216
          exact ww_sub [2, 3, 4, 5, 6] rfl (run_law_869 C hw hcN hsN hK hT_S213  h)
        · replace h := h.2 q216
          refine ww_aload_n C dL_law_857 5 rfl ?_
          refine ww_iconst (v := 0) C dL_law_858 (by decide) ?_
          refine ww_lald C dL_law_859 ?_
          refine ww_iload C dL_law_860 0 rfl ?_
          refine ww_i2l C dL_law_862 ?_
          refine ww_lcmp C dL_law_863 ?_
          refine ww_if_eq (tgt := 869) C dL_law_864 (by decide) (fun q217 => ?_) (fun q217 => ?_)
          · replace h := h.1 q217
            exact ww_sub [2, 3, 4, 5, 6] rfl (run_law_869 C hw hcN hsN hK hT_S213  h)
          · replace h := h.2 q217
            refine ww_iconst (v := 0) C dL_law_867 (by decide) ?_
            exact h.elim
      · replace h := h.2 q215
        refine ww_iconst (v := 0) C dL_law_850 (by decide) ?_
        exact h.elim
    by_cases q226 : ((xs v4.toNatClampNeg) &&& 15) = 14
    · replace h := h.2.2.2.2.2.2.2.2.2.2.2.2.2.2.1 q226
      refine ww_table_in (off := 833) (tgt := 872) C dL_law_39 (by rw [q226]; decide) (by rw [q226]; decide) (by rw [q226]; decide) (by decide) ?_
      refine ww_aload_n C dL_law_872 1 rfl ?_
      refine ww_aload_n C dL_law_873 0 rfl ?_
      refine ww_iload C dL_law_874 4 rfl ?_
      refine ww_iconst (v := 1) C dL_law_876 (by decide) ?_
      refine ww_iadd C dL_law_877 ?_
      refine ww_sld C hw h.1 dL_law_878 ?_
      replace h := h.2
      refine ww_aload_n C dL_law_879 0 rfl ?_
      refine ww_iload C dL_law_880 4 rfl ?_
      refine ww_iconst (v := 2) C dL_law_882 (by decide) ?_
      refine ww_iadd C dL_law_883 ?_
      refine ww_sld C hw h.1 dL_law_884 ?_
      replace h := h.2
      refine ww_aload_n C dL_law_885 0 rfl ?_
      refine ww_iload C dL_law_886 4 rfl ?_
      refine ww_iconst (v := 3) C dL_law_888 (by decide) ?_
      refine ww_iadd C dL_law_889 ?_
      refine ww_sld C hw h.1 dL_law_890 ?_
      replace h := h.2
      refine ww_aload_n C dL_law_891 3 rfl ?_
      refine ww_cHi (As := [.ref (gad g 157), .int (xs ((v4 + 1).toNatClampNeg)), .int (xs ((v4 + 2).toNatClampNeg)), .int (xs ((v4 + 3).toNatClampNeg)), .ref (gad g 183)]) (rest := []) C ok_L_outline bw_895 dL_law_892 (run_L_outline hw.2.2.2.2.1 (fun _ => h)) rfl ⟨Nat.le_of_ble_eq_true rfl, Nat.le_of_ble_eq_true rfl⟩ (Nat.le_of_ble_eq_true rfl) (c2 := cN + 2) (s2 := sN + 12) rfl rfl ⟨by show cN + 2 ≤ 600128; omega, by show sN + 12 ≤ 7301098; omega⟩ rfl (fun r220 S219 hp hTg => ?_)
      replace h := hp
      have hT_S219 : S219.2.2.1 = T0 := by rw [hTg]; exact hT
      refine ww_istore (lv2 := [(5, .int r220), (0, .ref b), (1, .ref (gad g 157)), (2, .ref (gad g 158)), (3, .ref (gad g 183)), (4, .int v4)]) C dL_law_895 (Nat.le_of_ble_eq_true rfl) rfl ?_
      refine ww_aload_n C dL_law_897 3 rfl ?_
      refine ww_aload_n C dL_law_898 1 rfl ?_
      refine ww_iload C dL_law_899 5 rfl ?_
      refine ww_iconst (v := 1) C dL_law_901 (by decide) ?_
      refine ww_iadd C dL_law_902 ?_
      refine ww_sld C hw h.1 dL_law_903 ?_
      replace h := h.2
      refine ww_aload_n C dL_law_904 1 rfl ?_
      refine ww_iload C dL_law_905 5 rfl ?_
      refine ww_iconst (v := 2) C dL_law_907 (by decide) ?_
      refine ww_iadd C dL_law_908 ?_
      refine ww_sld C hw h.1 dL_law_909 ?_
      replace h := h.2
      refine ww_aload_n C dL_law_910 1 rfl ?_
      refine ww_iload C dL_law_911 5 rfl ?_
      refine ww_iconst (v := 3) C dL_law_913 (by decide) ?_
      refine ww_iadd C dL_law_914 ?_
      refine ww_sld C hw h.1 dL_law_915 ?_
      replace h := h.2
      refine ww_cVi (As := [.int (xs ((v4 + 1).toNatClampNeg)), .int (xs ((v4 + 2).toNatClampNeg)), .int (xs ((v4 + 3).toNatClampNeg))]) (rest := []) C ok_X11_outline bw_1290 dL_law_916 (run_X11_outline  (fun _ => h)) rc_Model rfl ⟨Nat.le_of_ble_eq_true rfl, Nat.le_of_ble_eq_true rfl⟩ (Nat.le_of_ble_eq_true rfl) (c2 := cN + 2) (s2 := sN + 12) rfl rfl ⟨by show cN + 2 ≤ 600128; omega, by show sN + 12 ≤ 7301098; omega⟩ rfl (fun r222 S221 hp hTg => ?_)
      replace h := hp
      have hT_S221 : S221.2.2.1 = T0 := by rw [hTg]; exact hT_S219
      refine ww_istore (lv2 := [(6, .int r222), (5, .int r220), (0, .ref b), (1, .ref (gad g 157)), (2, .ref (gad g 158)), (3, .ref (gad g 183)), (4, .int v4)]) C dL_law_919 (Nat.le_of_ble_eq_true rfl) rfl ?_
      refine ww_aload_n C dL_law_921 4 rfl ?_
      refine ww_cVf (As := []) (rest := []) C ok_X11_thrown bw_1042 dL_law_922 cm_X11_thrown rc_Model rfl ⟨Nat.le_of_ble_eq_true rfl, Nat.le_of_ble_eq_true rfl⟩ (Nat.le_of_ble_eq_true rfl) (c2 := cN + 2) (s2 := sN + 12) rfl rfl ⟨by show cN + 2 ≤ 600128; omega, by show sN + 12 ≤ 7301098; omega⟩ rfl ?_
      refine ww_iload C dL_law_925 1 rfl ?_
      refine ww_icmp_eq (tgt := 932) C dL_law_927 (by decide) (fun q223 => ?_) (fun q223 => ?_)
      · replace h := h.1 q223
        refine ww_iload C dL_law_932 1 rfl ?_
        refine ww_if_ne (tgt := 949) C dL_law_934 (by decide) (fun q224 => ?_) (fun q224 => ?_)
        · replace h := h.1 q224
          exact ww_sub [2, 3, 4, 5, 6] rfl (run_law_949 C hw hcN hsN hK hT_S221  h)
        · replace h := h.2 q224
          refine ww_aload_n C dL_law_937 5 rfl ?_
          refine ww_iconst (v := 0) C dL_law_938 (by decide) ?_
          refine ww_lald C dL_law_939 ?_
          refine ww_iload C dL_law_940 0 rfl ?_
          refine ww_i2l C dL_law_942 ?_
          refine ww_lcmp C dL_law_943 ?_
          refine ww_if_eq (tgt := 949) C dL_law_944 (by decide) (fun q225 => ?_) (fun q225 => ?_)
          · replace h := h.1 q225
            exact ww_sub [2, 3, 4, 5, 6] rfl (run_law_949 C hw hcN hsN hK hT_S221  h)
          · replace h := h.2 q225
            refine ww_iconst (v := 0) C dL_law_947 (by decide) ?_
            exact h.elim
      · replace h := h.2 q223
        refine ww_iconst (v := 0) C dL_law_930 (by decide) ?_
        exact h.elim
    replace h := h.2.2.2.2.2.2.2.2.2.2.2.2.2.2.2 q132 q140 q142 q150 q155 q163 q171 q179 q183 q191 q197 q202 q210 q218 q226
    refine ww_table_out (tgt := 952) C dL_law_39 (by have a0 := sw_ne q132; rw [show ((0 : Int32)).toInt = 0 from by decide] at a0; have a1 := sw_ne q140; rw [show ((1 : Int32)).toInt = 1 from by decide] at a1; have a2 := sw_ne q142; rw [show ((2 : Int32)).toInt = 2 from by decide] at a2; have a3 := sw_ne q150; rw [show ((3 : Int32)).toInt = 3 from by decide] at a3; have a4 := sw_ne q155; rw [show ((4 : Int32)).toInt = 4 from by decide] at a4; have a5 := sw_ne q163; rw [show ((5 : Int32)).toInt = 5 from by decide] at a5; have a6 := sw_ne q171; rw [show ((6 : Int32)).toInt = 6 from by decide] at a6; have a7 := sw_ne q179; rw [show ((7 : Int32)).toInt = 7 from by decide] at a7; have a8 := sw_ne q183; rw [show ((8 : Int32)).toInt = 8 from by decide] at a8; have a9 := sw_ne q191; rw [show ((9 : Int32)).toInt = 9 from by decide] at a9; have a10 := sw_ne q197; rw [show ((10 : Int32)).toInt = 10 from by decide] at a10; have a11 := sw_ne q202; rw [show ((11 : Int32)).toInt = 11 from by decide] at a11; have a12 := sw_ne q210; rw [show ((12 : Int32)).toInt = 12 from by decide] at a12; have a13 := sw_ne q218; rw [show ((13 : Int32)).toInt = 13 from by decide] at a13; have a14 := sw_ne q226; rw [show ((14 : Int32)).toInt = 14 from by decide] at a14; omega) (by decide) ?_
    refine ww_widen (c2 := cN + 7) (s2 := sN + 30) (by omega) (by omega) ?_
    exact ww_sub [0, 1, 2, 3, 4] rfl (run_law_952 C hw hcN hsN hK hT  h)
