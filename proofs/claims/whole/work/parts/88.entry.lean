/-! what holds at the law's entry -/
def lw_At (p : Program) (s : State) (m : MethodId) (meth : Method) (c : Code) (b L : Nat) (xs : Nat → Int32) : Prop :=
  p.tables.exec = Jvm.exec ∧ c.code = code ∧ meth.sig.returnType = ret ∧ c.maxLocals = 7 ∧ s.vm.findClass R_law = some m.cls ∧ (∀ w ∈ lw_tbl, w.before #[Value.ref b] s = true) ∧ va_X b L xs s s.heap ∧ b < s.heap.size ∧ meth.locks = false ∧ (Jvm.Cond.and given_1 narrow_1).before #[Value.ref b] s = true
theorem arr_prim {s : State} {A : Array Value} {ty : FieldType} (h : (Cond.arrayClass ty).before A s = true) : ∃ cA, ArrOfT s cA ty ∧ s.vm.findClass ("[" ++ ty.toString) = some cA := by
  obtain ⟨c, k, comp, h1, h2, h3⟩ := Cond.arrayClass_spec h
  exact ⟨c, fun n z => ⟨fun k h => (by cases h), k, h2, comp, h3⟩, h1⟩
theorem arr_ref {s : State} {A : Array Value} {C : String} (h : (Cond.arrayOver (.object C)).before A s = true) : ∃ cA, ArrOfT s cA (.object C) ∧ va_RA s cA (.object C) := by
  obtain ⟨comp, c, k, h1, h2, h3, h4, h5⟩ := Cond.arrayOver_spec h
  exact ⟨c, fun n z => ⟨fun k h => (by cases h), k, h3, comp, h4⟩, k, comp, h3, h4, h1, h5⟩
def instOf : Nat → Nat := fun c => [4, 3, 4, 3, 5, 7, 2, 2, 1, 6, 39].getD c 0
theorem cls_known {s : State} {A : Array Value} (hts : ∀ w ∈ bw, w.before A s = true) (c : Nat) : ∃ r : ClassId × (Nat → Nat), ∀ q : vw_C, vwCl[c]? = some q → u_Kn s q.1 q.2.1 q.2.2 r.1 r.2 := by
  have key : ∀ {C : String} {T : u_T} {N : Nat}, (∀ w ∈ u_ws C T N, w ∈ bw) → Cond.instantiable C N ∈ bw → vwCl[c]? = some (C, T, N) → ∃ r : ClassId × (Nat → Nat), ∀ q : vw_C, vwCl[c]? = some q → u_Kn s q.1 q.2.1 q.2.2 r.1 r.2 := fun hin hi hc => by
    obtain ⟨cC, iS, h⟩ := u_known hts hin (hts _ hi)
    refine ⟨(cC, iS), fun q hq => ?_⟩
    rw [hc] at hq
    cases hq
    exact h
  by_cases h : c < 11
  · rcases (show c = 0 ∨ c = 1 ∨ c = 2 ∨ c = 3 ∨ c = 4 ∨ c = 5 ∨ c = 6 ∨ c = 7 ∨ c = 8 ∨ c = 9 ∨ c = 10 by omega) with rfl | rfl | rfl | rfl | rfl | rfl | rfl | rfl | rfl | rfl | rfl
    · exact key inX0 bw_710 rfl
    · exact key inX1 bw_582 rfl
    · exact key inX2 bw_661 rfl
    · exact key inX3 bw_163 rfl
    · exact key inX4 bw_172 rfl
    · exact key inX5 bw_133 rfl
    · exact key inX6 bw_106 rfl
    · exact key inX8 bw_89 rfl
    · exact key inX9 bw_112 rfl
    · exact key inX10 bw_81 rfl
    · exact key inX11 bw_918 rfl
  · refine ⟨(0, fun _ => 0), fun q hq => absurd (List.getElem?_eq_some_iff.mp hq).1 ?_⟩
    show ¬ c < 11
    exact h
theorem lwt_nx : ∀ w ∈ [Cond.methodLinkNest RX5 182 yX10_isTooFar RX10, .castable nx_iae nx_iae, .castable nx_ise nx_ise, .castable nx_ioe nx_ioe, .declares (Bundle.initS "java/lang/RuntimeException"), .declares (Bundle.initS "java/lang/Exception"), .declares (Bundle.initS Bundle.tN), .methodLinkNest RX10 20 yX6_init RX10, .methodLinkNest RX6 11 yX9_init RX10, .methodLinkNest RX10 27 yX5_init RX10, .methodLinkNest RX3 27 yX4_init RX10, .arrayOver (.object "FontPacker$Glyph"), .arrayOver (.object "FontPacker$Row"), .laysStatic Bundle.tN "UNASSIGNED_STACK" Bundle.steD, .laysStatic Bundle.tN "SUPPRESSED_SENTINEL" Bundle.listD, .initialized Bundle.tN], w ∈ lw_tbl := by decide +kernel
theorem lwt_str : ∀ x ∈ nx_str, Cond.stringRef RX10 x.1 x.2 ∈ lw_tbl := by decide +kernel
theorem start_NX {s : State} {b : Nat} {g : Gx} (hts : ∀ w ∈ lw_tbl, w.before #[Value.ref b] s = true) (hgv : (Jvm.Cond.and given_1 narrow_1).before #[Value.ref b] s = true) (hA : ∀ a : Nat, a < s.heap.size → ¬ gA g a) (hfc : ∃ cur, s.vm.findClass RX10 = some cur) : NX g s s.heap := by
  have hs := flat_of_before _ hgv
  have T : ∀ (k : Nat) (w : Cond), ([Cond.methodLinkNest RX5 182 yX10_isTooFar RX10, .castable nx_iae nx_iae, .castable nx_ise nx_ise, .castable nx_ioe nx_ioe, .declares (Bundle.initS "java/lang/RuntimeException"), .declares (Bundle.initS "java/lang/Exception"), .declares (Bundle.initS Bundle.tN), .methodLinkNest RX10 20 yX6_init RX10, .methodLinkNest RX6 11 yX9_init RX10, .methodLinkNest RX10 27 yX5_init RX10, .methodLinkNest RX3 27 yX4_init RX10, .arrayOver (.object "FontPacker$Glyph"), .arrayOver (.object "FontPacker$Row"), .laysStatic Bundle.tN "UNASSIGNED_STACK" Bundle.steD, .laysStatic Bundle.tN "SUPPRESSED_SENTINEL" Bundle.listD, .initialized Bundle.tN] : List Cond)[k]? = some w → w.before #[Value.ref b] s = true := fun k w h => hts w (lwt_nx w (List.mem_of_getElem? h))
  refine ⟨⟨va_Nw.of rfl (T 0 _ rfl), va_Nw.of rfl (T 1 _ rfl), va_Nw.of rfl (T 2 _ rfl), va_Nw.of rfl (T 3 _ rfl), va_Nw.of rfl (T 4 _ rfl), va_Nw.of rfl (T 5 _ rfl), va_Nw.of rfl (T 6 _ rfl), va_Nc.of (hs _ (by decide +kernel)), va_Nc.of (hs _ (by decide +kernel)), va_Nc.of (hs _ (by decide +kernel))⟩, fun x hx => ?_, vx_Zqof (T 13 _ rfl) (T 15 _ rfl) (hs _ (by decide +kernel)) hA, vx_Zqof (T 14 _ rfl) (T 15 _ rfl) (hs _ (by decide +kernel)) hA⟩
  obtain ⟨cur, hcur⟩ := hfc
  have hw := hts _ (lwt_str x hx)
  obtain ⟨k, cf, i, a, -, -, -, -, -, hev⟩ := Cond.stringRef_spec hcur hw
  exact ⟨a, vk_R.of hw hev⟩
theorem start_NU {s : State} {b : Nat} (hts : ∀ w ∈ lw_tbl, w.before #[Value.ref b] s = true) : NU s := by
  have T : ∀ w ∈ ([.methodLinkNest RX10 20 yX6_init RX10, .methodLinkNest RX6 11 yX9_init RX10, .methodLinkNest RX10 27 yX5_init RX10, .methodLinkNest RX3 27 yX4_init RX10, .arrayOver (.object "FontPacker$Glyph"), .arrayOver (.object "FontPacker$Row")] : List Cond), w.before #[Value.ref b] s = true := fun w h => hts w (lwt_nx w (by
    simp only [List.mem_cons, List.not_mem_nil, or_false] at h ⊢
    rcases h with rfl | rfl | rfl | rfl | rfl | rfl <;> simp))
  exact ⟨va_Nw.of rfl (T _ (by simp)), va_Nw.of rfl (T _ (by simp)), va_Nw.of rfl (T _ (by simp)), va_Nw.of rfl (T _ (by simp)), va_AO.of (A := #[Value.ref b]) (T _ (by simp)), va_AO.of (A := #[Value.ref b]) (T _ (by simp))⟩
/-- from the entry, for every script of at most 320 ints, the law comes to its end with true -/
theorem whole_start {p : Program} {e : Env} {s : State} {m : MethodId} {below : List Frame} {meth : Method} {c : Code} (l : Launch) (hst : l.stackTraces = false) {b L : Nat} {xs : Nat → Int32} (hL : L ≤ 320) (C0 : lw_At p s m meth c b L xs) : W p l e room_1 s m #[Value.ref b] below meth c s.heap [] 0 0 (lw_Z below #[Value.ref b] s) (entryFrame m ([Value.ref b] : List Value).toArray 7) := by
  obtain ⟨hx, hb, hr, hml, hown, hts, hX, hbl, hlk, hgv⟩ := C0
  have hbw : ∀ w ∈ bw, w.before #[Value.ref b] s = true := fun w hw => hts w (List.mem_filter.mp hw).1
  obtain ⟨φ, hφ⟩ := Classical.axiomOfChoice (cls_known hbw)
  obtain ⟨c1, q1, r1⟩ := arr_prim (hbw _ (bw_at 104 (w := .arrayClass .int) (by decide +kernel) (by decide +kernel)))
  obtain ⟨c2, q2, r2⟩ := arr_prim (hbw _ (bw_at 1041 (w := .arrayClass .boolean) (by decide +kernel) (by decide +kernel)))
  obtain ⟨c3, q3, r3⟩ := arr_prim (hbw _ (bw_at 1295 (w := .arrayClass .long) (by decide +kernel) (by decide +kernel)))
  have N : NU s := start_NU hts
  obtain ⟨c4, q4, r4⟩ := arr_ref N.2.2.2.2.1
  obtain ⟨c5, q5, r5⟩ := arr_ref N.2.2.2.2.2
  have hK : va_K (fun k => (φ k).1, fun k => (φ k).2) vwCl (gtys ((fun k => (φ k).1, fun k => (φ k).2), (c1, c2, c3, c4, c5), fun _ => 0, fun q => s.heap.size ≤ q)) s := by
    refine ⟨fun k q hq => hφ k q hq, fun k q hq => ?_⟩
    have hk : k < 5 := (List.getElem?_eq_some_iff.mp hq).1
    rcases (show k = 0 ∨ k = 1 ∨ k = 2 ∨ k = 3 ∨ k = 4 by omega) with rfl | rfl | rfl | rfl | rfl
    · cases hq; exact ⟨q1, r1⟩
    · cases hq; exact ⟨q2, r2⟩
    · cases hq; exact ⟨q3, r3⟩
    · cases hq; exact ⟨q4, r4⟩
    · cases hq; exact ⟨q5, r5⟩
  have hNX : NX ((fun k => (φ k).1, fun k => (φ k).2), (c1, c2, c3, c4, c5), fun _ => 0, fun q => s.heap.size ≤ q) s s.heap := start_NX hts hgv (fun a ha => Nat.not_le.mpr ha) ⟨_, (hφ 9 _ rfl).2.1⟩
  have C : Cx (p, l, e, s, m, #[Value.ref b], below, meth, c) ((fun k => (φ k).1, fun k => (φ k).2), (c1, c2, c3, c4, c5), fun _ => 0, fun q => s.heap.size ≤ q) cL_law 7 RL := ⟨hx, hb, hml, hown, hbw, hK, hlk, hNX⟩
  have hl := lv_entry [Value.ref b] (n := 7) (Nat.le_of_ble_eq_true rfl)
  rw [lg_entry_eq]
  exact law_all (f := (p, l, e, s, m, #[Value.ref b], below, meth, c)) C N ⟨hX, hbl, rfl, rfl, hst, hr⟩ hL s.heap [] _ ⟨fun k q hq => by simp at hq, ⟨fun i j p q hi => by simp at hi, fun k q hq => by simp at hq⟩, va_S.rf, fun q hq => hq⟩ hl
