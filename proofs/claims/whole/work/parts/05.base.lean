/-! THE WORLD: one state for the class, the reference and the law's long array.
    St: rows as lists (by row number), all other numbers (by a key and a place), the objects that a call makes (address, kind, row), the long of the law's array. -/
abbrev St : Type := (Nat → List Int32) × (Nat → Nat → Int32) × List (Nat × Nat × Nat) × Int64
/-- class ids and slots; class ids of int[], boolean[], long[], Glyph[], Row[]; addresses by number; the cells that may change -/
abbrev Gx : Type := va_G × (ClassId × ClassId × ClassId × ClassId × ClassId) × (Nat → Nat) × (Nat → Prop)
abbrev gad (g : Gx) : Nat → Nat := g.2.2.1
abbrev gA (g : Gx) : Nat → Prop := g.2.2.2
def gtys (g : Gx) : List (ClassId × FieldType) := [(g.2.1.1, .int), (g.2.1.2.1, .boolean), (g.2.1.2.2.1, .long), (g.2.1.2.2.2.1, .object "FontPacker$Glyph"), (g.2.1.2.2.2.2, .object "FontPacker$Row")]
def gw_cap (r : Nat) : Nat := if r < 48 then (if r % 4 = 0 then 4 else 16) else if r < 62 then (if (r - 48) % 7 = 0 then 516 else if (r - 48) % 7 = 1 then 24 else 20) else if r = 62 then 1500 else if r = 63 then 384 else if r < 66 then 1000 else 7
def gw_ml (a : Nat) : Nat := [6, 6, 6, 96, 96, 96, 96, 7, 140, 6, 6, 6, 96, 96, 96, 96, 24, 7, 140, 1500, 1100, 1100, 7, 7].getD a 0
/-- which font is the font: 0 or 1 -/
def gw_fx (S : St) : Nat := if S.2.1 3 1 = 0 then 0 else 1
theorem gw_fx_le (S : St) : gw_fx S ≤ 1 := by unfold gw_fx; split <;> omega
/-- .. and which the spare one -/
def gw_sx (S : St) : Nat := if S.2.1 3 2 = 0 then 0 else 1
theorem gw_sx_le (S : St) : gw_sx S ≤ 1 := by unfold gw_sx; split <;> omega
def gw_model (ad : Nat → Nat) (V : Nat → Int32) : List Value :=
  [.int (V 0), .int (V 1), .ref (ad 159), .ref (ad 160), .ref (ad 161), .ref (ad 162), .ref (ad 163), .ref (ad 164), .ref (ad 165), .ref (ad 166), .ref (ad 167), .int (V 2), .ref (ad 168), .ref (ad 169), .ref (ad 170), .ref (ad 171), .ref (ad 172), .ref (ad 173), .ref (ad 174), .ref (ad 175), .ref (ad 176), .ref (ad 177), .int (V 3), .ref (ad 178), .int (V 4), .ref (ad 179), .int (V 5), .ref (ad 180), .int (V 6), .int (V 7), .int (V 8), .int (V 9), .int (V 10), .int (V 11), .int (V 12), .int (V 13), .int (V 14), .ref (ad 181), .ref (ad 182)]
def gw_e (g : Gx) (S : St) (Gb : Nat → Nat → Int32) (i : Nat) : va_E :=
  if i < 68 then .inr (7, [.ref (gad g (68 + i)), .int (nI (S.1 i).length)])
  else if i < 136 then .inl (g.2.1.1, (gw_cap (i - 68), .inl (Gb (i - 68))))
  else if i < 148 then .inr (4, [.ref (gad g (4 * (i - 136))), .ref (gad g (4 * (i - 136) + 1)), .ref (gad g (4 * (i - 136) + 2)), .ref (gad g (4 * (i - 136) + 3)), .int (S.2.1 0 (i - 136))])
  else if i < 150 then .inr (3, [.ref (gad g (150 + (i - 148))), .ref (gad g (152 + (i - 148))), .int (S.2.1 1 (i - 148))])
  else if i < 152 then .inl (g.2.1.2.2.2.1, (6, .inr (.inr (.inr (.inr (fun k => some (gad g (136 + (6 * (i - 150) + k)))))))))
  else if i < 154 then .inl (g.2.1.2.2.2.2, (7, .inr (.inr (.inr (.inr (fun k => some (gad g (48 + 7 * (i - 152) + k))))))))
  else if i = 154 then .inr (8, [.ref (gad g 63)])
  else if i = 155 then .inr (6, [.ref (gad g 154), .ref (gad g 64)])
  else if i = 156 then .inr (5, [.ref (gad g 65), .ref (gad g 66), .ref (gad g 67), .int (S.2.1 2 0), .int (S.2.1 2 1), .int (S.2.1 2 2), .int (S.2.1 2 3)])
  else if i = 157 then .inr (9, [.ref (gad g 62), .ref (gad g 155), .ref (gad g 156), .ref (gad g (148 + gw_fx S)), .ref (gad g (148 + gw_sx S)), .int (S.2.1 3 0)])
  else if i = 158 then .inr (10, gw_model (gad g) (S.2.1 9))
  else if i = 164 then .inl (g.2.1.2.1, (96, .inl (S.2.1 15)))
  else if i = 183 then .inl (g.2.1.2.2.1, (1, .inr (.inl (fun _ => S.2.2.2))))
  else .inl (g.2.1.1, (gw_ml (i - 159), .inl (S.2.1 (10 + (i - 159)))))
/-- an object that a call makes: 0 a bit reader, 1 a bit writer, 2 a cursor; 3, 4, 5 the same, just made -/
def gw_t (g : Gx) (S : St) (t : Nat × Nat × Nat) : va_E :=
  if t.2.1 = 0 then .inr (0, [.ref (gad g t.2.2), .int (S.2.1 (1000 + t.1) 0), .int (S.2.1 (1000 + t.1) 1), .int (S.2.1 (1000 + t.1) 2)])
  else if t.2.1 = 1 then .inr (1, [.ref (gad g t.2.2), .int (S.2.1 (1000 + t.1) 0), .int (S.2.1 (1000 + t.1) 1)])
  else if t.2.1 = 2 then .inr (2, [.ref (gad g t.2.2), .int (S.2.1 (1000 + t.1) 0), .int (S.2.1 (1000 + t.1) 1), .int (S.2.1 (1000 + t.1) 2)])
  else if t.2.1 = 3 then .inr (0, [.null, .int 0, .int 0, .int 0])
  else if t.2.1 = 4 then .inr (1, [.null, .int 0, .int 0])
  else .inr (2, [.null, .int 0, .int 0, .int 0])
def gw_rows (S : St) (Gb : Nat → Nat → Int32) : Prop := ∀ r, r < 68 → (S.1 r).length ≤ gw_cap r ∧ ∀ j, j < (S.1 r).length → Gb r j = (S.1 r).getD j 0
def wl (g : Gx) (S : St) (Gb : Nat → Nat → Int32) : va_W := (List.range 184).map (fun i => (gad g i, gw_e g S Gb i)) ++ S.2.2.1.map (fun t => (t.1, gw_t g S t))
theorem wl_get (g : Gx) (S : St) (Gb : Nat → Nat → Int32) {i : Nat} (hi : i < 184) : (wl g S Gb)[i]? = some (gad g i, gw_e g S Gb i) := by
  unfold wl
  rw [List.getElem?_append_left (by simpa using hi)]
  simp [hi]
theorem wl_getT (g : Gx) (S : St) (Gb : Nat → Nat → Int32) {t : Nat × Nat × Nat} (h : t ∈ S.2.2.1) : ∃ k, S.2.2.1[k]? = some t ∧ (wl g S Gb)[184 + k]? = some (t.1, gw_t g S t) := by
  obtain ⟨k, hk⟩ := List.mem_iff_getElem?.mp h
  refine ⟨k, hk, ?_⟩
  unfold wl
  rw [List.getElem?_append_right (by simp)]
  simp [hk]
theorem wl_set (g : Gx) (S S' : St) (Gb Gb' : Nat → Nat → Int32) {i0 : Nat} {e : va_E} (hi : i0 < 184) (he : gw_e g S' Gb' i0 = e) (ho : ∀ i, i < 184 → i ≠ i0 → gw_e g S' Gb' i = gw_e g S Gb i) (hT : S'.2.2.1 = S.2.2.1) (ht : ∀ t ∈ S.2.2.1, gw_t g S' t = gw_t g S t) :
    (wl g S Gb).set i0 (gad g i0, e) = wl g S' Gb' := by
  unfold wl
  rw [List.set_append_left _ _ (by simpa using hi), hT]
  congr 1
  · apply List.ext_getElem?
    intro j
    by_cases hj : j < 184
    · by_cases hji : j = i0
      · subst hji
        simp [hj, he]
      · rw [List.getElem?_set_ne (fun h => hji h.symm)]
        simp [hj, ho j hj hji]
    · simp [hj, Nat.not_lt.mp hj]
  · exact List.map_congr_left fun t h => by rw [ht t h]
/-- what throws need of the tables: words that don't keep by themselves, the texts, two statics of Throwable -/
def nx_str : List (Nat × String) := [(48, "the advance is not 0 .. 2000"), (59, "there are 6 glyphs"), (69, "there is no glyph"), (80, "the glyph has 4 contours"), (85, "the glyph has 16 points"), (94, "x or y is not -4000 .. 4000"), (96, "the glyph has no contour"), (105, "the table is not 2 .. 6"), (107, "n is not 1 .. 8"), (116, "the table would have more than 20 bytes"), (138, "the buffer is not a packed font"), (143, "the buffer would have more than 1500 bytes"), (148, "b is not 0 .. 255"), (154, "there are not n bytes"), (169, "what is not 0 .. 3"), (173, "there is no such point"), (192, "the latest contour has no points"), (194, "there is no such byte"), (196, "there is no such glyph")]
def nx_iae : String := "java/lang/IllegalArgumentException"
def nx_ise : String := "java/lang/IllegalStateException"
def nx_ioe : String := "java/lang/IndexOutOfBoundsException"
def NX (g : Gx) (U : State) (H : Heap) : Prop := (va_Nw (.methodLinkNest RX5 182 yX10_isTooFar RX10) U ∧ va_Nw (.castable nx_iae nx_iae) U ∧ va_Nw (.castable nx_ise nx_ise) U ∧ va_Nw (.castable nx_ioe nx_ioe) U ∧ va_Nw (.declares (Bundle.initS "java/lang/RuntimeException")) U ∧ va_Nw (.declares (Bundle.initS "java/lang/Exception")) U ∧ va_Nw (.declares (Bundle.initS Bundle.tN)) U ∧ va_Nc nx_ise nx_iae U ∧ va_Nc nx_iae nx_ioe U ∧ va_Nc nx_ioe nx_iae U) ∧ (∀ x ∈ nx_str, ∃ a, vk_R RX10 x.1 x.2 a U) ∧ vx_Zq Bundle.tN "UNASSIGNED_STACK" Bundle.steD (gA g) U H ∧ vx_Zq Bundle.tN "SUPPRESSED_SENTINEL" Bundle.listD (gA g) U H
theorem nc_moved {C T : String} {u U : State} (hvm : u.vm.Alike U.vm) (h : va_Nc C T u) : va_Nc C T U := by
  obtain ⟨c, t, h1, h2, h3⟩ := h
  exact ⟨c, t, by rw [hvm.findClass]; exact h1, by rw [hvm.findClass]; exact h2, by rw [hvm.assignable]; exact h3⟩
theorem NX.go {g : Gx} {s U : State} {H0 H : Heap} (h : NX g s H0) (hW : s.WarmedH U.vm) (hS : ∀ q : Nat, q < H0.size → ¬ gA g q → H[q]? = H0[q]?) : NX g U H := by
  obtain ⟨⟨a1, a2, a3, a4, b1, b2, b3, c1, c2, c3⟩, hs, hu, hn⟩ := h
  refine ⟨⟨va_Nw.warmM hW a1, va_Nw.warmC hW a2, va_Nw.warmC hW a3, va_Nw.warmC hW a4, va_Nw.warmD hW b1, va_Nw.warmD hW b2, va_Nw.warmD hW b3, nc_moved hW.alike c1, nc_moved hW.alike c2, nc_moved hW.alike c3⟩, fun x hx => ?_, (hu.kept hS).moved hW.alike, (hn.kept hS).moved hW.alike⟩
  obtain ⟨a, ha⟩ := hs x hx
  exact ⟨a, ha.warm hW⟩
theorem NX.same {g : Gx} {s U : State} {H : Heap} (h : NX g s H) (hv : U.vm = s.vm) : NX g U H := by
  obtain ⟨⟨a1, a2, a3, a4, b1, b2, b3, c1, c2, c3⟩, hs, hu, hn⟩ := h
  have hal : s.vm.Alike U.vm := by rw [hv]; exact Vm.Alike.refl _
  refine ⟨⟨va_Nw.same rfl hv.symm a1, va_Nw.same rfl hv.symm a2, va_Nw.same rfl hv.symm a3, va_Nw.same rfl hv.symm a4, va_Nw.same rfl hv.symm b1, va_Nw.same rfl hv.symm b2, va_Nw.same rfl hv.symm b3, nc_moved hal c1, nc_moved hal c2, nc_moved hal c3⟩, fun x hx => ?_, hu.moved hal, hn.moved hal⟩
  obtain ⟨a, ha⟩ := hs x hx
  exact ⟨a, ha.same hv⟩
/-- a heap that holds a state, the caller's heap H0 unchanged but for the cells that may change -/
def Hp (g : Gx) (S : St) (H0 H : Heap) (locs : List Loc) : Prop := ∃ Gb, gw_rows S Gb ∧ va_P g.1 vwCl (wl g S Gb) H ∧ va_D (gA g) (wl g S Gb) ∧ va_S (gA g) H0 H locs ∧ ∀ q, H0.size ≤ q → gA g q
/-- the same of a machine's state, with the tables -/
def hw (g : Gx) (S : St) (U : State) : Prop := (∃ Gb, gw_rows S Gb ∧ va_P g.1 vwCl (wl g S Gb) U.heap ∧ va_D (gA g) (wl g S Gb)) ∧ va_K g.1 vwCl (gtys g) U ∧ NX g U U.heap ∧ ∀ q, U.heap.size ≤ q → gA g q
abbrev Fx : Type := Program × Launch × Env × State × MethodId × Array Value × List Frame × Method × Code
def fW (f : Fx) (R : Room) (H : Heap) (locs : List Loc) (cells slots : Nat) (Q : State → Prop) (j : JFrame) : Prop := W f.1 f.2.1 f.2.2.1 R f.2.2.2.1 f.2.2.2.2.1 f.2.2.2.2.2.1 f.2.2.2.2.2.2.1 f.2.2.2.2.2.2.2.1 f.2.2.2.2.2.2.2.2 H locs cells slots Q j
abbrev fs (f : Fx) : State := f.2.2.2.1
abbrev fm (f : Fx) : MethodId := f.2.2.2.2.1
abbrev fargs (f : Fx) : Array Value := f.2.2.2.2.2.1
abbrev fbelow (f : Fx) : List Frame := f.2.2.2.2.2.2.1
abbrev fmeth (f : Fx) : Method := f.2.2.2.2.2.2.2.1
abbrev fcode (f : Fx) : Code := f.2.2.2.2.2.2.2.2
/-- what is fixed while a method runs -/
def Cx (f : Fx) (g : Gx) (cc : ByteArray) (nL : Nat) (own : String) : Prop := f.1.tables.exec = Jvm.exec ∧ (fcode f).code = cc ∧ (fcode f).maxLocals = nL ∧ (fs f).vm.findClass own = some (fm f).cls ∧ (∀ w ∈ bw, w.before (fargs f) (fs f) = true) ∧ va_K g.1 vwCl (gtys g) (fs f) ∧ (fmeth f).locks = false ∧ NX g (fs f) (fs f).heap
/-- at pc, with these locals and this stack, in any heap that holds S: the machine comes to Q -/
def WW (f : Fx) (R : Room) (g : Gx) (nL cells slots : Nat) (Q : State → Prop) (S : St) (pc : Nat) (lv : List (Nat × Value)) (st : List Value) : Prop :=
  ∀ (H : Heap) (locs : List Loc) (ls : Array Slot), Hp g S (fs f).heap H locs → lv_has ls nL lv → fW f R H locs cells slots Q (F0 (fm f) pc ls st)
