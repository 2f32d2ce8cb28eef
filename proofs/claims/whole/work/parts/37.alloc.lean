
section AL
variable {f : Fx} {R : Room} {g : Gx} {cc : ByteArray} {nL cells slots pc : Nat} {own : String} {Q : State → Prop} {S : St} {lv : List (Nat × Value)} {st : List Value}
theorem set_same {α : Type} {l : List α} {i : Nat} {x : α} (h : l[i]? = some x) : l.set i x = l := by
  apply List.ext_getElem?
  intro j
  by_cases e : i = j
  · subst e
    rw [List.getElem?_set_self (List.getElem?_eq_some_iff.mp h).1, h]
  · rw [List.getElem?_set_ne e]
theorem gw_e_cg {S2 : St} {Gb : Nat → Nat → Int32} {j : Nat} (h1 : S2.1 = S.1) (h2 : S2.2.1 = S.2.1) (h3 : S2.2.2.2 = S.2.2.2) : gw_e g S2 Gb j = gw_e g S Gb j := by simp only [gw_e, gw_fx, gw_sx, h1, h2, h3]
theorem gw_eT {Gb : Nat → Nat → Int32} {T : List (Nat × Nat × Nat)} {j : Nat} : gw_e g (stT S T) Gb j = gw_e g S Gb j := gw_e_cg rfl rfl rfl
theorem wl_push {Gb : Nat → Nat → Int32} {q kd r : Nat} : wl g S Gb ++ [(q, gw_t g S (q, kd, r))] = wl g (stT S (S.2.2.1 ++ [(q, kd, r)])) Gb := by
  unfold wl
  rw [List.append_assoc]
  congr 1
  show _ = List.map _ (S.2.2.1 ++ [(q, kd, r)])
  rw [List.map_append]
  rfl
theorem ww_newq (C : Cx f g cc nL own) {CN : String} {T : u_T} {N ci index kd : Nat} {fl : List Value} (hkd : ∀ q, gw_t g S (q, kd, 0) = .inr (ci, fl)) (hc : vwCl[ci]? = some (CN, T, N)) (hin : ∀ w ∈ u_ws CN T N, w ∈ bw) (ty : Nat → FieldType) (hty : ∀ k, k < N → parseFieldDescriptor (T k).2.2.1 = some (ty k)) (h1 : Cond.classLink own index CN ∈ bw) (h2 : Cond.instantiable CN N ∈ bw) (h3 : Cond.initialized CN ∈ bw) (hfs : ∀ j, j < N → defaultValue (ty j) = vp_V fl j) (hcells : cells + 1 ≤ R.cells) (hslots : slots + N ≤ R.slots) (d : decode cc pc = .ok (.new index, 3))
    (k : ∀ q, (∀ t ∈ S.2.2.1, t.1 ≠ q) → WW f R g nL (cells + 1) (slots + N) Q (stT S (S.2.2.1 ++ [(q, kd, 0)])) (pc + 3) lv (.ref q :: st)) : WW f R g nL cells slots Q S pc lv st := by
  intro H locs ls h hl
  obtain ⟨Gb, g1, g2, g3, g4, g5⟩ := id h
  refine va_new C.1 C.2.1 C.2.2.2.2.1 hin ty hty C.2.2.2.1 (C.2.2.2.2.1 _ h1) (C.2.2.2.2.1 _ h2) (C.2.2.2.2.1 _ h3) C.2.2.2.2.2.1 g2 g3 g4 g5 hc hfs hcells hslots d (fun q H1 hP hD hS => ?_)
  rw [← hkd q, wl_push] at hP hD
  refine k q (fun t ht e => ?_) H1 locs ls ⟨Gb, g1, hP, hD, hS, g5⟩ hl
  obtain ⟨k0, hk0, -⟩ := wl_getT g S Gb ht
  have hlen := (List.getElem?_eq_some_iff.mp hk0).1
  have a1 : (wl g (stT S (S.2.2.1 ++ [(q, kd, 0)])) Gb)[184 + k0]? = some (t.1, gw_t g S t) := by
    unfold wl
    rw [List.getElem?_append_right (by simp)]
    show (List.map _ (S.2.2.1 ++ [(q, kd, 0)]))[_]? = _
    rw [List.getElem?_map]
    have : 184 + k0 - (List.map (fun i => (gad g i, gw_e g (stT S (S.2.2.1 ++ [(q, kd, 0)])) Gb i)) (List.range 184)).length = k0 := by simp
    rw [this, List.getElem?_append_left hlen, hk0]
    rfl
  have a2 : (wl g (stT S (S.2.2.1 ++ [(q, kd, 0)])) Gb)[184 + S.2.2.1.length]? = some (q, gw_t g S (q, kd, 0)) := by
    unfold wl
    rw [List.getElem?_append_right (by simp)]
    show (List.map _ (S.2.2.1 ++ [(q, kd, 0)]))[_]? = _
    rw [List.getElem?_map]
    have : 184 + S.2.2.1.length - (List.map (fun i => (gad g i, gw_e g (stT S (S.2.2.1 ++ [(q, kd, 0)])) Gb i)) (List.range 184)).length = S.2.2.1.length := by simp
    rw [this]
    simp
    rfl
  have := hD.1 _ _ _ _ a1 a2 e
  omega
theorem ww_newReader (C : Cx f g cc nL own) {index : Nat} (h1 : Cond.classLink own index "FontPacker$BitReader" ∈ bw) (hcells : cells + 1 ≤ R.cells) (hslots : slots + 4 ≤ R.slots) (d : decode cc pc = .ok (.new index, 3)) (k : ∀ q, (∀ t ∈ S.2.2.1, t.1 ≠ q) → WW f R g nL (cells + 1) (slots + 4) Q (stT S (S.2.2.1 ++ [(q, 3, 0)])) (pc + 3) lv (.ref q :: st)) : WW f R g nL cells slots Q S pc lv st := ww_newq (CN := RX0) (T := TX0) (ci := 0) (N := 4) (fl := [.null, .int 0, .int 0, .int 0]) C (fun q => by simp [gw_t]) rfl inX0 tyX0 tyX0_ok h1 bw_710 bw_78 (fun j hj => by rcases (show j = 0 ∨ j = 1 ∨ j = 2 ∨ j = 3 by omega) with rfl | rfl | rfl | rfl <;> rfl) hcells hslots d k
theorem ww_newWriter (C : Cx f g cc nL own) {index : Nat} (h1 : Cond.classLink own index "FontPacker$BitWriter" ∈ bw) (hcells : cells + 1 ≤ R.cells) (hslots : slots + 3 ≤ R.slots) (d : decode cc pc = .ok (.new index, 3)) (k : ∀ q, (∀ t ∈ S.2.2.1, t.1 ≠ q) → WW f R g nL (cells + 1) (slots + 3) Q (stT S (S.2.2.1 ++ [(q, 4, 0)])) (pc + 3) lv (.ref q :: st)) : WW f R g nL cells slots Q S pc lv st := ww_newq (CN := RX1) (T := TX1) (ci := 1) (N := 3) (fl := [.null, .int 0, .int 0]) C (fun q => by simp [gw_t]) rfl inX1 tyX1 tyX1_ok h1 bw_582 bw_76 (fun j hj => by rcases (show j = 0 ∨ j = 1 ∨ j = 2 by omega) with rfl | rfl | rfl <;> rfl) hcells hslots d k
theorem ww_newCursor (C : Cx f g cc nL own) {index : Nat} (h1 : Cond.classLink own index "FontPacker$Cursor" ∈ bw) (hcells : cells + 1 ≤ R.cells) (hslots : slots + 4 ≤ R.slots) (d : decode cc pc = .ok (.new index, 3)) (k : ∀ q, (∀ t ∈ S.2.2.1, t.1 ≠ q) → WW f R g nL (cells + 1) (slots + 4) Q (stT S (S.2.2.1 ++ [(q, 5, 0)])) (pc + 3) lv (.ref q :: st)) : WW f R g nL cells slots Q S pc lv st := ww_newq (CN := RX2) (T := TX2) (ci := 2) (N := 4) (fl := [.null, .int 0, .int 0, .int 0]) C (fun q => by simp [gw_t]) rfl inX2 tyX2 tyX2_ok h1 bw_661 bw_77 (fun j hj => by rcases (show j = 0 ∨ j = 1 ∨ j = 2 ∨ j = 3 by omega) with rfl | rfl | rfl | rfl <;> rfl) hcells hslots d k
theorem ob_link : Cond.instanceMethod objectInit ∈ bw := bw_at 86 (by decide +kernel) (by decide +kernel)
theorem ob_code : Cond.code objectInit ⟨#[0xb1]⟩ 1 none ∈ bw := bw_at 87 (by decide +kernel) (by decide +kernel)
theorem ww_obj (C : Cx f g cc nL own) {idx a : Nat} (hl : Cond.methodLink own idx objectInit ∈ bw) (d : decode cc pc = .ok (.invokespecial idx, 3)) (hf : 1 ≤ R.frames) (hlo : (st.map fun v => v.category).sum + 12 ≤ R.locals) (k : WW f R g nL cells slots Q S (pc + 3) lv st) : WW f R g nL cells slots Q S pc lv (.ref a :: st) := fun H locs ls h hl2 =>
  W.objInit C.1 C.2.1 C.2.2.2.1 (C.2.2.2.2.1 _ hl) (C.2.2.2.2.1 _ ob_link) (C.2.2.2.2.1 _ ob_code) rfl (by rw [C.2.2.1]; exact hl2.1) rfl d hf (by show 2 * 0 + _ + 12 ≤ _; omega) (W.eq (g2 := F0 (fm f) (pc + 3) ls st) rfl (k H locs ls h hl2))
/-- the made objects, one of them changed -/
def tlSet (T : List (Nat × Nat × Nat)) (t : Nat × Nat × Nat) : List (Nat × Nat × Nat) := T.map (fun u => if u.1 = t.1 then t else u)
theorem tlSet_push {T : List (Nat × Nat × Nat)} {q k o k2 r : Nat} (h : ∀ t ∈ T, t.1 ≠ q) : tlSet (T ++ [(q, k, o)]) (q, k2, r) = T ++ [(q, k2, r)] := by
  unfold tlSet
  rw [List.map_append]
  congr 1
  · conv => rhs; rw [← List.map_id T]
    exact List.map_congr_left fun t ht => by simp [h t ht]
  · simp
theorem tlSet_mem {T : List (Nat × Nat × Nat)} {t u : Nat × Nat × Nat} (h : t ∈ T) (e : t.1 = u.1) : u ∈ tlSet T u := List.mem_map.mpr ⟨t, h, by simp [e]⟩
theorem tlSet_twice {T : List (Nat × Nat × Nat)} {t : Nat × Nat × Nat} : tlSet T t = tlSet (tlSet T t) t := by
  unfold tlSet
  rw [List.map_map]
  exact List.map_congr_left fun u _ => by by_cases e : u.1 = t.1 <;> simp [e]
theorem wl_setT {S2 : St} {Gb : Nat → Nat → Int32} {A : Nat → Prop} {t u : Nat × Nat × Nat} {e : va_E} (hD : va_D A (wl g S Gb)) (hm : t ∈ S.2.2.1) (hu : u.1 = t.1) (hE : ∀ j, j < 184 → gw_e g S2 Gb j = gw_e g S Gb j) (hT : S2.2.2.1 = tlSet S.2.2.1 u) (he : gw_t g S2 u = e) (ho : ∀ v : Nat × Nat × Nat, v.1 ≠ t.1 → gw_t g S2 v = gw_t g S v) : ∃ k0, (wl g S Gb)[k0]? = some (t.1, gw_t g S t) ∧ (wl g S Gb).set k0 (t.1, e) = wl g S2 Gb := by
  obtain ⟨k0, hk0, hw0⟩ := wl_getT g S Gb hm
  refine ⟨184 + k0, hw0, ?_⟩
  have hwl : ∀ (j : Nat) (v : Nat × Nat × Nat), S.2.2.1[j]? = some v → (wl g S Gb)[184 + j]? = some (v.1, gw_t g S v) := fun j v hv => by
    unfold wl
    rw [List.getElem?_append_right (by simp)]
    simp [hv]
  have hlenT : k0 < S.2.2.1.length := (List.getElem?_eq_some_iff.mp hk0).1
  have hone : ∀ (j : Nat) (v : Nat × Nat × Nat), S.2.2.1[j]? = some v → v.1 = t.1 → j = k0 := fun j v hv q => by
    have := hD.1 _ _ _ _ (hwl j v hv) hw0 q
    omega
  unfold wl
  rw [List.set_append_right _ _ (by simp), hT]
  congr 1
  · exact List.map_congr_left fun j hj => by rw [hE j (by simpa using hj)]
  · have hne : 184 + k0 - (List.map (fun i => (gad g i, gw_e g S Gb i)) (List.range 184)).length = k0 := by simp
    rw [hne]
    apply List.ext_getElem?
    intro j
    unfold tlSet
    by_cases hj : j = k0
    · subst hj
      rw [List.getElem?_set_self (by simpa using hlenT)]
      simp [hk0, hu, he]
    · rw [List.getElem?_set_ne (fun h => hj h.symm)]
      simp only [List.getElem?_map]
      rcases hv : S.2.2.1[j]? with _ | v
      · rfl
      · have hne1 : v.1 ≠ t.1 := fun q => hj (hone j v hv q)
        simp [hu, hne1, ho v hne1]
/-- a final field of an object just made, in its constructor -/
theorem ww_puttF (C : Cx f g cc nL own) {t u : Nat × Nat × Nat} (hm : t ∈ S.2.2.1) (hnm2 : (fmeth f).name = "<init>") {CN ref : String} {T : u_T} {N ci index : Nat} {fl : List Value} {v : Value} {S2 : St} (he : gw_t g S t = .inr (ci, fl)) (hc : vwCl[ci]? = some (CN, T, N)) (hin : ∀ w ∈ u_ws CN T N, w ∈ bw) (ty0 : Nat → FieldType) (hty : ∀ k, k < N → parseFieldDescriptor (T k).2.2.1 = some (ty0 k)) (hnm : ∀ a, a < N → ∀ b, b < N → a ≠ b → (T a).2.1 ≠ (T b).2.1) (k : Nat) (hk : k < N)
    (hlink : Cond.fieldLink own index ref (T k).2.1 (T k).2.2.1 ∈ bw) (href : (T k).1 = ref) (hfin : (T k).2.2.2 = true) (hdecl : (T k).1 = own) {ty : FieldType} (hd : parseFieldDescriptor (T k).2.2.1 = some ty) (hn : narrow ty v = v) (hfit : fits ty v = true) (hlen : k < fl.length) (hu : u.1 = t.1) (hX : S2.1 = S.1) (hE : ∀ Gb j, j < 184 → gw_e g S2 Gb j = gw_e g S Gb j) (hT : S2.2.2.1 = tlSet S.2.2.1 u) (he' : gw_t g S2 u = .inr (ci, fl.set k v)) (ho : ∀ v : Nat × Nat × Nat, v.1 ≠ t.1 → gw_t g S2 v = gw_t g S v) (d : decode cc pc = .ok (.putfield index, 3)) (kk : WW f R g nL cells slots Q S2 (pc + 3) lv st) : WW f R g nL cells slots Q S pc lv (v :: .ref t.1 :: st) := by
  intro H locs ls h hl
  obtain ⟨Gb, h1, h2, h3, h4, h5⟩ := id h
  obtain ⟨k0, hw0, hset⟩ := wl_setT (S2 := S2) h3 hm hu (hE Gb) hT he' ho
  rw [he] at hw0
  refine va_putF C.1 C.2.1 C.2.2.2.2.1 hin ty0 hty hnm C.2.2.2.1 C.2.2.2.2.2.1 h2 h3 h4 k0 hw0 hc k hk (C.2.2.2.2.1 _ hlink) (fun x hx => by rw [← href]; exact hx) hfin hnm2 hdecl hd hn hfit hlen d (fun H1 locs1 hP hD hS => ?_)
  rw [hset] at hP hD
  exact kk H1 locs1 ls ⟨Gb, by intro r hr; rw [hX]; exact h1 r hr, hP, hD, hS, h5⟩ hl
/-- a field of an object just made gets what it has -/
theorem ww_putt0 (C : Cx f g cc nL own) {t : Nat × Nat × Nat} (hm : t ∈ S.2.2.1) {CN ref : String} {T : u_T} {N ci index : Nat} {fl : List Value} {v : Value} (he : gw_t g S t = .inr (ci, fl)) (hc : vwCl[ci]? = some (CN, T, N)) (hin : ∀ w ∈ u_ws CN T N, w ∈ bw) (ty0 : Nat → FieldType) (hty : ∀ k, k < N → parseFieldDescriptor (T k).2.2.1 = some (ty0 k)) (hnm : ∀ a, a < N → ∀ b, b < N → a ≠ b → (T a).2.1 ≠ (T b).2.1) (k : Nat) (hk : k < N)
    (hlink : Cond.fieldLink own index ref (T k).2.1 (T k).2.2.1 ∈ bw) (href : (T k).1 = ref) (hfin : (T k).2.2.2 = false) {ty : FieldType} (hd : parseFieldDescriptor (T k).2.2.1 = some ty) (hn : narrow ty v = v) (hfit : fits ty v = true) (hlen : k < fl.length) (hsame : fl.set k v = fl) (d : decode cc pc = .ok (.putfield index, 3)) (kk : WW f R g nL cells slots Q S (pc + 3) lv st) : WW f R g nL cells slots Q S pc lv (v :: .ref t.1 :: st) := by
  intro H locs ls h hl
  obtain ⟨Gb, h1, h2, h3, h4, h5⟩ := id h
  obtain ⟨k0, hk0, hw0⟩ := wl_getT g S Gb hm
  rw [he] at hw0
  refine va_put C.1 C.2.1 C.2.2.2.2.1 hin ty0 hty hnm C.2.2.2.1 C.2.2.2.2.2.1 h2 h3 h4 (184 + k0) hw0 hc k hk (C.2.2.2.2.1 _ hlink) (fun x hx => by rw [← href]; exact hx) hfin hd hn hfit hlen d (fun H1 locs1 hP hD hS => ?_)
  have e : (wl g S Gb).set (184 + k0) (t.1, .inr (ci, fl.set k v)) = wl g S Gb := by
    rw [hsame]
    exact set_same hw0
  rw [e] at hP hD
  exact kk H1 locs1 ls ⟨Gb, h1, hP, hD, hS, h5⟩ hl
def zeroM (S : St) (q : Nat) : St := stM (stM (stM S (1000 + q) 0 0) (1000 + q) 1 0) (1000 + q) 2 0
def cIni (S : St) (q kd r : Nat) : St := stT (zeroM S q) (tlSet S.2.2.1 (q, kd, r))
theorem own1000 {q p : Nat} : ownOf (1000 + q) p = 1000 := by unfold ownOf; rw [if_neg (by omega), if_neg (by omega), if_neg (by omega), if_neg (by omega), if_neg (by omega), if_neg (by omega)]
theorem gw_e_big {Gb : Nat → Nat → Int32} {q p j : Nat} {v : Int32} (hj : j < 184) : gw_e g (stM S (1000 + q) p v) Gb j = gw_e g S Gb j := gw_eM hj (by rw [own1000]; omega)
theorem gw_e_cIni {Gb : Nat → Nat → Int32} {q kd r j : Nat} (hj : j < 184) : gw_e g (cIni S q kd r) Gb j = gw_e g S Gb j := by
  have h1 : gw_e g (cIni S q kd r) Gb j = gw_e g (zeroM S q) Gb j := by unfold cIni; exact gw_eT
  rw [h1]
  unfold zeroM
  rw [gw_e_big hj, gw_e_big hj, gw_e_big hj]
theorem cIni_M {q kd r p : Nat} (hp : p < 3) : (cIni S q kd r).2.1 (1000 + q) p = 0 := by
  show (zeroM S q).2.1 (1000 + q) p = 0
  unfold zeroM
  rcases (show p = 0 ∨ p = 1 ∨ p = 2 by omega) with rfl | rfl | rfl
  · rw [stM_at (by omega), stM_at (by omega), stM_self]
  · rw [stM_at (by omega), stM_self]
  · rw [stM_self]
theorem cIni_ne {q kd r k : Nat} (h : k ≠ 1000 + q) : (cIni S q kd r).2.1 k = S.2.1 k := by
  show (zeroM S q).2.1 k = S.2.1 k
  unfold zeroM
  rw [stM_ne h, stM_ne h, stM_ne h]
theorem gw_t_cIni {q kd r : Nat} {v : Nat × Nat × Nat} (h : v.1 ≠ q) : gw_t g (cIni S q kd r) v = gw_t g S v := by
  have h1 : (cIni S q kd r).2.1 (1000 + v.1) = S.2.1 (1000 + v.1) := cIni_ne (by omega)
  simp only [gw_t, h1]
/-- a constructor's contract: what it leaves -/
def CMn (g : Gx) (l : Launch) (y : MethodName) (cb : ByteArray) (nl : Nat) (rm : Room) (av : List Value) (S S2 : St) : Prop := Met l y (.code y cb nl none :: bw) rm (va_Pc av (hw g S)) (va_Qv (fun S3 : St => S3 = S2) (hw g) (gA g)) rm.cells rm.slots (gA g)
theorem cm_entryI {l : Launch} {y : MethodName} {cb : ByteArray} {nl : Nat} {ret : Option FieldType} {rm : Room} {av : List Value} {Qc : Array Value → State → Outcome → State → Prop} {lv0 : List (Nat × Value)} (hy : plainFor y = true) (ho : y.cls = own) (hlen : (lg_sl av).length ≤ nl) (hlv : lv_args 0 av = lv0)
    (body : ∀ f : Fx, f.2.1 = l → Cx f g cb nl own → (fmeth f).sig.returnType = ret → (fmeth f).name = y.name → WW f rm g nl 0 0 (MQ (fbelow f) Qc (fargs f) (fs f) rm.cells rm.slots (gA g)) S 0 lv0 []) : Met l y (.code y cb nl ret :: bw) rm (va_Pc av (hw g S)) Qc rm.cells rm.slots (gA g) := by
  refine met_ofW (cc := cb) (maxL := nl) (ret := ret) hy rfl ?_
  intro p e s m args below meth c s₁ B hml hv
  obtain ⟨rfl, ⟨Gb, h1, h2, h3⟩, hK, hN, hA⟩ := hv
  have hl := lv_entry av (n := nl) hlen
  rw [lg_entry_eq]
  rw [hlv] at hl
  exact body (p, l, e, s, m, _, below, meth, c) rfl ⟨B.exec, B.bytes, hml, by rw [← ho]; exact findClass_of_methodNamed B.named, fun w hw => atoms_spec (ws := .code y cb nl ret :: bw) B.pre w (List.mem_cons_of_mem _ hw), hK, B.notSynchronized, hN⟩ B.returns (name_of_methodNamed B.named B.method).1 s.heap [] _ ⟨Gb, h1, h2, h3, va_S.rf, hA⟩ hl
theorem ww_nret (C : Cx f g cc nL own) {S2 : St} (hr : (fmeth f).sig.returnType = none) (d : decode cc pc = .ok (.return_, 1)) (h : S = S2) : WW f R g nL cells slots (MQ (fbelow f) (va_Qv (fun S3 : St => S3 = S2) (hw g) (gA g)) (fargs f) (fs f) cells slots (gA g)) S pc lv [] := fun H locs ls hh hl =>
  W.vret C.1 C.2.1 hr (fun t ht hW => ⟨⟨S, rfl, h, hw_back C hh ht hW⟩, (Hp.fr hh).F ht⟩) (Hp.fr hh).2.2 d C.2.2.2.2.2.2.1
def IOK (y : MethodName) (cb : ByteArray) (nl : Nat) (n : Nat) : Prop := Cond.instanceMethod y ∈ bw ∧ Cond.initialized y.cls ∈ bw ∧ Cond.code y cb nl none ∈ bw ∧ y.name = "<init>" ∧ (y.cls ≠ "java/lang/invoke/MethodHandle" ∧ y.cls ≠ "java/lang/invoke/VarHandle" ∧ (parseMethodDescriptor y.desc).map (fun d => d.parameters.length) = some n)
theorem ww_cIn {y : MethodName} {cb : ByteArray} {nl n index : Nat} {rm : Room} {As rest : List Value} {b : Nat} {S2 : St} (C : Cx f g cc nL own) (hM : IOK y cb nl n) (hl : Cond.methodLink own index y ∈ bw) (d : decode cc pc = .ok (.invokespecial index, 3)) (hc : CMn g f.2.1 y cb nl rm (.ref b :: As) S S2) (hn : As.length = n) (hR : rm.frames + 1 ≤ R.frames ∧ 8 + (nl + 11) + rm.locals ≤ R.locals) (hrm : (rest.map fun v => v.category).sum ≤ 8) {c2 s2 : Nat} (hc2 : cells + rm.cells = c2) (hs2 : slots + rm.slots = s2) (hf : c2 ≤ R.cells ∧ s2 ≤ R.slots) (hst : As.reverse ++ .ref b :: rest = st)
    (k : WW f R g nL c2 s2 Q S2 (pc + 3) lv rest) : WW f R g nL cells slots Q S pc lv st := by
  subst hst hc2 hs2
  obtain ⟨h1, h2, h4, h6, h5⟩ := hM
  exact fun H locs ls h hl2 => va_callv (va_runI (As := As) (rest := rest) (cx_fix C) hc ⟨callB_of n C.2.2.2.2.1 (bw_sub h4) rfl rfl rfl (C.2.2.2.2.1 _ h2) (C.2.2.2.2.1 _ hl) h5 hR, h6, C.2.2.2.2.1 _ h1⟩ ⟨hw_blind, cx_pre C h⟩ rfl hn hl2.1 rfl (lv_room hrm) d hf) (Hp.fr h) (fun _ _ z => z) (fun _ z => z) (fun u t H1 locs1 ht hvm hp hB _ _ hS => by
    subst hp
    exact k H1 locs1 ls (Hp.back ht hB hS (Hp.A h)) hl2)
theorem ww_drop {T0 ex : List (Nat × Nat × Nat)} (hT : S.2.2.1 = T0 ++ ex) (k : WW f R g nL cells slots Q (stT S T0) pc lv st) : WW f R g nL cells slots Q S pc lv st := by
  intro H locs ls h hl
  obtain ⟨Gb, h1, h2, h3, h4, h5⟩ := id h
  have e : wl g S Gb = wl g (stT S T0) Gb ++ ex.map (fun t => (t.1, gw_t g S t)) := by
    unfold wl
    rw [hT, List.map_append, List.append_assoc]
    rfl
  rw [e] at h2 h3
  have hp : ∀ (i : Nat) (q : Nat × va_E), (wl g (stT S T0) Gb)[i]? = some q → (wl g (stT S T0) Gb ++ ex.map (fun t => (t.1, gw_t g S t)))[i]? = some q := fun i q hq => by
    rw [List.getElem?_append_left (List.getElem?_eq_some_iff.mp hq).1]
    exact hq
  exact k H locs ls ⟨Gb, h1, fun i q hq => h2 i q (hp i q hq), ⟨fun i j p q hi hj hpq => h3.1 i j p q (hp i p hi) (hp j q hj) hpq, fun i q hq => h3.2 i q (hp i q hq)⟩, h4, h5⟩ hl
/-! the three constructors -/
abbrev rm_X1_init : Room := { frames := 1, cells := 0, slots := 0, locals := 12 }
theorem ok_X1_init : IOK yX1_init cX1_init 2 1 := ⟨bw_584, bw_76, bw_585, rfl, by decide +kernel⟩
set_option maxHeartbeats 4000000 in
set_option maxRecDepth 100000 in
theorem cm_X1_init {l : Launch} {g : Gx} {S : St} {q r : Nat} (hm : (q, 4, 0) ∈ S.2.2.1) (hr : r < 68) : CMn g l yX1_init cX1_init 2 rm_X1_init [.ref q, .ref (gad g r)] S (cIni S q 1 r) := cm_entryI (own := RX1) (plainFor_of_name (by decide)) rfl (Nat.le_of_ble_eq_true rfl) rfl (fun f hf C hrt hni => by
  subst hf
  refine ww_aload_n C dX1_init_0 0 rfl ?_
  refine ww_obj C bw_586 dX1_init_1 (Nat.le_of_ble_eq_true rfl) (Nat.le_of_ble_eq_true rfl) ?_
  refine ww_aload_n C dX1_init_4 0 rfl ?_
  refine ww_iconst (v := 0) C dX1_init_5 (by decide) ?_
  refine ww_putt0 (ci := 1) (t := (q, 4, 0)) (fl := [.null, .int 0, .int 0]) C hm (by simp [gw_t]) rfl inX1 tyX1 tyX1_ok nmX1 1 (by decide) bw_588 rfl rfl (ty := .int) (by decide +kernel) rfl rfl (Nat.le_of_ble_eq_true rfl) rfl dX1_init_6 ?_
  refine ww_aload_n C dX1_init_9 0 rfl ?_
  refine ww_iconst (v := 0) C dX1_init_10 (by decide) ?_
  refine ww_putt0 (ci := 1) (t := (q, 4, 0)) (fl := [.null, .int 0, .int 0]) C hm (by simp [gw_t]) rfl inX1 tyX1 tyX1_ok nmX1 2 (by decide) bw_589 rfl rfl (ty := .int) (by decide +kernel) rfl rfl (Nat.le_of_ble_eq_true rfl) rfl dX1_init_11 ?_
  refine ww_aload_n C dX1_init_14 0 rfl ?_
  refine ww_aload_n C dX1_init_15 1 rfl ?_
  refine ww_puttF (ci := 1) (t := (q, 4, 0)) (u := (q, 1, r)) (fl := [.null, .int 0, .int 0]) (S2 := cIni S q 1 r) C hm hni (by simp [gw_t]) rfl inX1 tyX1 tyX1_ok nmX1 0 (by decide) bw_587 rfl rfl rfl (ty := .object "FontPacker$Row") (by decide +kernel) rfl rfl (Nat.le_of_ble_eq_true rfl) rfl rfl (fun Gb j hj => gw_e_cIni hj) rfl (by rw [gw_t1, cIni_M (by omega), cIni_M (by omega)]; rfl) (fun v hv => gw_t_cIni hv) dX1_init_16 ?_
  exact ww_nret C hrt dX1_init_19 rfl)
abbrev rm_X0_init : Room := { frames := 1, cells := 0, slots := 0, locals := 20 }
theorem ok_X0_init : IOK yX0_init cX0_init 3 2 := ⟨bw_716, bw_78, bw_717, rfl, by decide +kernel⟩
def brIni (S : St) (q r : Nat) (b : Int32) : St := stM (stM (cIni S q 0 r) (1000 + q) 0 (rLen (cIni S q 0 r) r * 8)) (1000 + q) 1 (b * 8)
set_option maxHeartbeats 4000000 in
set_option maxRecDepth 100000 in
theorem cm_X0_init {l : Launch} {g : Gx} {S : St} {q r : Nat} {b : Int32} (hm : (q, 3, 0) ∈ S.2.2.1) (hr : r < 68) : CMn g l yX0_init cX0_init 3 rm_X0_init [.ref q, .ref (gad g r), .int b] S (brIni S q r b) := cm_entryI (own := RX0) (plainFor_of_name (by decide)) rfl (Nat.le_of_ble_eq_true rfl) rfl (fun f hf C hrt hni => by
  subst hf
  refine ww_aload_n C dX0_init_0 0 rfl ?_
  refine ww_obj C bw_718 dX0_init_1 (Nat.le_of_ble_eq_true rfl) (Nat.le_of_ble_eq_true rfl) ?_
  refine ww_aload_n C dX0_init_4 0 rfl ?_
  refine ww_iconst (v := 0) C dX0_init_5 (by decide) ?_
  refine ww_putt0 (ci := 0) (t := (q, 3, 0)) (fl := [.null, .int 0, .int 0, .int 0]) C hm (by simp [gw_t]) rfl inX0 tyX0 tyX0_ok nmX0 3 (by decide) bw_723 rfl rfl (ty := .boolean) (by decide +kernel) rfl rfl (Nat.le_of_ble_eq_true rfl) rfl dX0_init_6 ?_
  refine ww_aload_n C dX0_init_9 0 rfl ?_
  refine ww_aload_n C dX0_init_10 1 rfl ?_
  refine ww_puttF (ci := 0) (t := (q, 3, 0)) (u := (q, 0, r)) (fl := [.null, .int 0, .int 0, .int 0]) (S2 := cIni S q 0 r) C hm hni (by simp [gw_t]) rfl inX0 tyX0 tyX0_ok nmX0 0 (by decide) bw_720 rfl rfl rfl (ty := .object "FontPacker$Row") (by decide +kernel) rfl rfl (Nat.le_of_ble_eq_true rfl) rfl rfl (fun Gb j hj => gw_e_cIni hj) rfl (by rw [gw_t0, cIni_M (by omega), cIni_M (by omega), cIni_M (by omega)]; rfl) (fun v hv => gw_t_cIni hv) dX0_init_11 ?_
  have hm1 : (q, 0, r) ∈ (cIni S q 0 r).2.2.1 := tlSet_mem hm rfl
  refine ww_aload_n C dX0_init_14 0 rfl ?_
  refine ww_aload_n C dX0_init_15 1 rfl ?_
  refine ww_cVf (As := []) (rest := [.ref q]) C ok_X8_length bw_719 dX0_init_16 (cm_X8_length hr) (rc_Row hr) rfl ⟨Nat.le_of_ble_eq_true rfl, Nat.le_of_ble_eq_true rfl⟩ (Nat.le_of_ble_eq_true rfl) (c2 := 0) (s2 := 0) rfl rfl ⟨Nat.le_of_ble_eq_true rfl, Nat.le_of_ble_eq_true rfl⟩ rfl ?_
  refine ww_bipush (v := 8) C dX0_init_19 (by decide) ?_
  refine ww_imul C dX0_init_21 ?_
  have hT2 : (cIni S q 0 r).2.2.1 = tlSet (cIni S q 0 r).2.2.1 (q, 0, r) := by
    show tlSet S.2.2.1 (q, 0, r) = tlSet (tlSet S.2.2.1 (q, 0, r)) (q, 0, r)
    unfold tlSet
    rw [List.map_map]
    exact List.map_congr_left fun u _ => by by_cases e : u.1 = q <;> simp [e]
  refine ww_puttF (t := (q, 0, r)) (u := (q, 0, r)) (S2 := stM (cIni S q 0 r) (1000 + q) 0 (rLen (cIni S q 0 r) r * 8)) C hm1 hni gw_t0 rfl inX0 tyX0 tyX0_ok nmX0 1 (by decide) bw_721 rfl rfl rfl (ty := .int) (by decide +kernel) rfl rfl (Nat.le_of_ble_eq_true rfl) rfl rfl (fun Gb j hj => gw_e_big hj) hT2 (by rw [gw_t0]; simp [stM, va_up]) (fun u hu => by simp only [gw_t]; rw [stM_ne (by omega)]) dX0_init_22 ?_
  refine ww_aload_n C dX0_init_25 0 rfl ?_
  refine ww_iload_n C dX0_init_26 2 rfl ?_
  refine ww_bipush (v := 8) C dX0_init_27 (by decide) ?_
  refine ww_imul C dX0_init_29 ?_
  refine pf_BitReader_bitsTaken (q := q) (r := r) C hm1 bw_722 dX0_init_30 ?_
  exact ww_nret C hrt dX0_init_33 rfl)
abbrev rm_X2_init : Room := { frames := 1, cells := 0, slots := 0, locals := 12 }
theorem ok_X2_init : IOK yX2_init cX2_init 4 3 := ⟨bw_664, bw_77, bw_665, rfl, by decide +kernel⟩
def cuIni (S : St) (q r : Nat) (b e : Int32) : St := stM (stM (cIni S q 2 r) (1000 + q) 1 b) (1000 + q) 0 e
set_option maxHeartbeats 400000 in
set_option maxRecDepth 100000 in
theorem cm_X2_init {l : Launch} {g : Gx} {S : St} {q r : Nat} {b e : Int32} (hm : (q, 5, 0) ∈ S.2.2.1) (hr : r < 68) : CMn g l yX2_init cX2_init 4 rm_X2_init [.ref q, .ref (gad g r), .int b, .int e] S (cuIni S q r b e) := cm_entryI (own := RX2) (plainFor_of_name (by decide)) rfl (Nat.le_of_ble_eq_true rfl) rfl (fun f hf C hrt hni => by
  subst hf
  refine ww_aload_n C dX2_init_0 0 rfl ?_
  refine ww_obj C bw_666 dX2_init_1 (Nat.le_of_ble_eq_true rfl) (Nat.le_of_ble_eq_true rfl) ?_
  refine ww_aload_n C dX2_init_4 0 rfl ?_
  refine ww_iconst (v := 0) C dX2_init_5 (by decide) ?_
  refine ww_putt0 (ci := 2) (t := (q, 5, 0)) (fl := [.null, .int 0, .int 0, .int 0]) C hm (by simp [gw_t]) rfl inX2 tyX2 tyX2_ok nmX2 3 (by decide) bw_670 rfl rfl (ty := .boolean) (by decide +kernel) rfl rfl (Nat.le_of_ble_eq_true rfl) rfl dX2_init_6 ?_
  refine ww_aload_n C dX2_init_9 0 rfl ?_
  refine ww_aload_n C dX2_init_10 1 rfl ?_
  refine ww_puttF (ci := 2) (t := (q, 5, 0)) (u := (q, 2, r)) (fl := [.null, .int 0, .int 0, .int 0]) (S2 := cIni S q 2 r) C hm hni (by simp [gw_t]) rfl inX2 tyX2 tyX2_ok nmX2 0 (by decide) bw_667 rfl rfl rfl (ty := .object "FontPacker$Row") (by decide +kernel) rfl rfl (Nat.le_of_ble_eq_true rfl) rfl rfl (fun Gb j hj => gw_e_cIni hj) rfl (by rw [gw_t2, cIni_M (by omega), cIni_M (by omega), cIni_M (by omega)]; rfl) (fun v hv => gw_t_cIni hv) dX2_init_11 ?_
  have hm1 : (q, 2, r) ∈ (cIni S q 2 r).2.2.1 := tlSet_mem hm rfl
  refine ww_aload_n C dX2_init_14 0 rfl ?_
  refine ww_iload_n C dX2_init_15 2 rfl ?_
  refine pf_Cursor_place (q := q) (r := r) C hm1 bw_669 dX2_init_16 ?_
  refine ww_aload_n C dX2_init_19 0 rfl ?_
  refine ww_iload_n C dX2_init_20 3 rfl ?_
  refine ww_nm (fun Z eZ => ?_)
  have hm2 : (q, 2, r) ∈ Z.2.2.1 := by rw [eZ]; exact hm1
  have hT2 : Z.2.2.1 = tlSet Z.2.2.1 (q, 2, r) := by rw [eZ]; exact tlSet_twice
  refine ww_puttF (t := (q, 2, r)) (u := (q, 2, r)) (S2 := stM Z (1000 + q) 0 e) C hm2 hni gw_t2 rfl inX2 tyX2 tyX2_ok nmX2 1 (by decide) bw_668 rfl rfl rfl (ty := .int) (by decide +kernel) rfl rfl (Nat.le_of_ble_eq_true rfl) rfl rfl (fun Gb j hj => gw_e_big hj) hT2 (by rw [gw_t2]; simp [stM, va_up]) (fun u hu => by simp only [gw_t]; rw [stM_ne (by omega)]) dX2_init_21 ?_
  exact ww_nret C hrt dX2_init_24 (by rw [eZ]; rfl))
end AL
