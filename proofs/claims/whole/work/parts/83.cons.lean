/-! the constructors -/
def rwC (g : Gx) (q a n : Nat) : va_W := [(q, .inr (7, [.ref a, .int 0])), (a, .inl (g.2.1.1, (n, .inl fun _ => 0)))]
def isRow (g : Gx) (q n : Nat) (u : va_W) : Prop := ∃ a, u = rwC g q a n
def isForm (g : Gx) (q : Nat) (u : va_W) : Prop := ∃ r a, u = (q, .inr (8, [.ref r])) :: rwC g r a 384
def wrC (g : Gx) (q : Nat) (z : Nat → Nat) : va_W := (q, .inr (6, [.ref (z 0), .ref (z 3)])) :: (z 0, .inr (8, [.ref (z 1)])) :: (rwC g (z 1) (z 2) 384 ++ rwC g (z 3) (z 4) 1000)
def isWriter (g : Gx) (q : Nat) (u : va_W) : Prop := ∃ z, u = wrC g q z
def rdC (g : Gx) (q : Nat) (z : Nat → Nat) : va_W := (q, .inr (5, [.ref (z 0), .ref (z 2), .ref (z 4), .int 0, .int 0, .int 0, .int 0])) :: (rwC g (z 0) (z 1) 1000 ++ rwC g (z 2) (z 3) 7 ++ rwC g (z 4) (z 5) 7)
def isReader (g : Gx) (q : Nat) (u : va_W) : Prop := ∃ z, u = rdC g q z
def glC (g : Gx) (q : Nat) (z : Nat → Nat) : va_W := (q, .inr (4, [.ref (z 0), .ref (z 2), .ref (z 4), .ref (z 6), .int 0])) :: (rwC g (z 0) (z 1) 4 ++ rwC g (z 2) (z 3) 16 ++ rwC g (z 4) (z 5) 16 ++ rwC g (z 6) (z 7) 16)
def isGlyph (g : Gx) (q : Nat) (u : va_W) : Prop := ∃ z, u = glC g q z
def rowCap (t : Nat) : Nat := if t = 0 then 516 else if t = 1 then 24 else 20
def ftC (g : Gx) (q x y : Nat) (p : Nat → Nat) (z : Nat → Nat → Nat) (t : Nat → Nat) : va_W := (q, .inr (3, [.ref x, .ref y, .int 0])) :: (x, .inl (g.2.1.2.2.2.1, (6, .inr (.inr (.inr (.inr fun k => some (p k))))))) :: (y, .inl (g.2.1.2.2.2.2, (7, .inr (.inr (.inr (.inr fun k => some (t (2 * k)))))))) :: (glC g (p 0) (z 0) ++ glC g (p 1) (z 1) ++ glC g (p 2) (z 2) ++ glC g (p 3) (z 3) ++ glC g (p 4) (z 4) ++ glC g (p 5) (z 5) ++ rwC g (t 0) (t 1) 516 ++ rwC g (t 2) (t 3) 24 ++ rwC g (t 4) (t 5) 20 ++ rwC g (t 6) (t 7) 20 ++ rwC g (t 8) (t 9) 20 ++ rwC g (t 10) (t 11) 20 ++ rwC g (t 12) (t 13) 20)
def isFont (g : Gx) (q : Nat) (u : va_W) : Prop := ∃ x y p z t, u = ftC g q x y p z t
def z_of (l : List Nat) (k : Nat) : Nat := l.getD k 0
abbrev rm_row (n : Nat) : Room := { frames := 1, cells := 1, slots := n, locals := 14 }
theorem ok_X8_init : IOK yX8_init cX8_init 2 1 := ⟨bw_91, bw_62, bw_92, rfl, by decide +kernel⟩
theorem ok_X9_init : IOK yX9_init cX9_init 1 0 := ⟨bw_114, bw_65, bw_115, rfl, by decide +kernel⟩
theorem ok_X6_init : IOK yX6_init cX6_init 1 0 := ⟨bw_108, bw_64, bw_109, rfl, by decide +kernel⟩
theorem ok_X5_init : IOK yX5_init cX5_init 1 0 := ⟨bw_135, bw_66, bw_136, rfl, by decide +kernel⟩
theorem ok_X4_init : IOK yX4_init cX4_init 1 0 := ⟨bw_174, bw_68, bw_175, rfl, by decide +kernel⟩
theorem ok_X3_init : IOK yX3_init cX3_init 2 0 := ⟨bw_165, bw_67, bw_166, rfl, by decide +kernel⟩
theorem ok_X10_init : IOK yX10_init cX10_init 1 0 := ⟨bw_83, bw_61, bw_84, rfl, by decide +kernel⟩
theorem ok_X11_init : IOK yX11_init cX11_init 1 0 := ⟨bw_920, bw_69, bw_921, rfl, by decide +kernel⟩
set_option maxHeartbeats 4000000 in
set_option maxRecDepth 100000 in
theorem cu_row {l : Launch} {g : Gx} {q n : Nat} (hn : n ≤ 2000) : CUn g l yX8_init cX8_init 2 (rm_row n) [.ref q, .int (nI n)] (q, .inr (7, [.null, .int 0])) (isRow g q n) := fun w0 => cu_entry (own := RX8) (plainFor_of_name (by decide)) rfl (Nat.le_of_ble_eq_true rfl) rfl (fun f hf C N hrt hni => by
  subst hf
  refine uw_aload_n C dX8_init_0 0 rfl ?_
  refine uw_obj C bw_93 dX8_init_1 (Nat.le_of_ble_eq_true rfl) (Nat.le_of_ble_eq_true rfl) ?_
  refine uw_aload_n C dX8_init_4 0 rfl ?_
  refine uw_iconst (v := 0) C dX8_init_5 (by decide) ?_
  refine uw_put (ci := 7) (fl2 := [.null, .int 0]) C rfl inX8 tyX8 tyX8_ok nmX8 1 (by decide) bw_98 rfl rfl (ty := .int) (by decide +kernel) rfl rfl (Nat.le_of_ble_eq_true rfl) rfl dX8_init_6 ?_
  refine uw_aload_n C dX8_init_9 0 rfl ?_
  refine uw_iload_n C dX8_init_10 1 rfl ?_
  refine uw_iconst (v := 0) C dX8_init_11 (by decide) ?_
  refine uw_mmax C (bw_at 94 (by decide +kernel) (by decide +kernel)) dX8_init_12 (Nat.le_of_ble_eq_true rfl) (Nat.le_of_ble_eq_true rfl) (Nat.zero_le _) (Nat.zero_le _) ?_
  have h0 : ¬ nI n < 0 := Int32.not_lt.mpr (nI_pos' (by omega))
  rw [if_neg h0]
  refine uw_newi (N := n) C h0 (nI_clamp (by omega)) (by omega) (Nat.le_of_ble_eq_true rfl) (by show 0 + n ≤ n; omega) dX8_init_15 (fun a => ?_)
  refine uw_putF (ci := 7) (fl2 := [.ref a, .int 0]) C hni rfl inX8 tyX8 tyX8_ok nmX8 0 (by decide) bw_97 rfl rfl rfl (ty := .array .int) (by decide +kernel) rfl rfl (Nat.le_of_ble_eq_true rfl) rfl dX8_init_17 ?_
  rw [Nat.zero_add n]
  exact uw_nret C N hrt dX8_init_20 ⟨a, rfl⟩)
abbrev rm_form : Room := { frames := 2, cells := 2, slots := 386, locals := 35 }
set_option maxHeartbeats 4000000 in
set_option maxRecDepth 100000 in
theorem cu_form {l : Launch} {g : Gx} {q : Nat} : CUn g l yX9_init cX9_init 1 rm_form [.ref q] (q, .inr (8, [.null])) (isForm g q) := fun w0 => cu_entry (own := RX9) (plainFor_of_name (by decide)) rfl (Nat.le_of_ble_eq_true rfl) rfl (fun f hf C N hrt hni => by
  subst hf
  refine uw_aload_n C dX9_init_0 0 rfl ?_
  refine uw_obj C bw_116 dX9_init_1 (Nat.le_of_ble_eq_true rfl) (Nat.le_of_ble_eq_true rfl) ?_
  refine uw_aload_n C dX9_init_4 0 rfl ?_
  refine uw_new (ci := 7) (fl := [.null, .int 0]) C rfl inX8 tyX8 tyX8_ok bw_117 bw_89 bw_62 (fun j hj => by rcases (show j = 0 ∨ j = 1 by omega) with rfl | rfl <;> rfl) (Nat.le_of_ble_eq_true rfl) (Nat.le_of_ble_eq_true rfl) dX9_init_5 (fun r => ?_)
  refine uw_dup C dX9_init_8 rfl ?_
  refine uw_sipush (v := nI 384) C dX9_init_9 (by decide) ?_
  refine uw_cI (As := [.int (nI 384)]) (rest := [.ref r, .ref q]) C N ok_X8_init bw_118 dX9_init_12 (cu_row (n := 384) (Nat.le_of_ble_eq_true rfl)) rfl ⟨Nat.le_of_ble_eq_true rfl, Nat.le_of_ble_eq_true rfl⟩ (Nat.le_of_ble_eq_true rfl) (c2 := 2) (s2 := 386) rfl rfl ⟨Nat.le_of_ble_eq_true rfl, Nat.le_of_ble_eq_true rfl⟩ rfl (fun u hu => ?_)
  obtain ⟨a, rfl⟩ := hu
  refine uw_putF (ci := 8) (fl2 := [.ref r]) C hni rfl inX9 tyX9 tyX9_ok nmX9 0 (by decide) bw_119 rfl rfl rfl (ty := .object "FontPacker$Row") (by decide +kernel) rfl rfl (Nat.le_of_ble_eq_true rfl) rfl dX9_init_15 ?_
  exact uw_nret C N hrt dX9_init_18 ⟨r, a, rfl⟩)
abbrev rm_writer : Room := { frames := 3, cells := 5, slots := 1389, locals := 55 }
set_option maxHeartbeats 4000000 in
set_option maxRecDepth 100000 in
theorem cu_writer {l : Launch} {g : Gx} {q : Nat} : CUn g l yX6_init cX6_init 1 rm_writer [.ref q] (q, .inr (6, [.null, .null])) (isWriter g q) := fun w0 => cu_entry (own := RX6) (plainFor_of_name (by decide)) rfl (Nat.le_of_ble_eq_true rfl) rfl (fun f hf C N hrt hni => by
  subst hf
  refine uw_aload_n C dX6_init_0 0 rfl ?_
  refine uw_obj C bw_110 dX6_init_1 (Nat.le_of_ble_eq_true rfl) (Nat.le_of_ble_eq_true rfl) ?_
  refine uw_aload_n C dX6_init_4 0 rfl ?_
  refine uw_new (ci := 8) (fl := [.null]) C rfl inX9 tyX9 tyX9_ok bw_111 bw_112 bw_65 (fun j hj => by rcases (show j = 0 by omega) with rfl <;> rfl) (Nat.le_of_ble_eq_true rfl) (Nat.le_of_ble_eq_true rfl) dX6_init_5 (fun o => ?_)
  refine uw_dup C dX6_init_8 rfl ?_
  refine uw_cN (As := []) (rest := [.ref o, .ref q]) C N ok_X9_init N.2.1 dX6_init_9 (cu_form) rfl ⟨Nat.le_of_ble_eq_true rfl, Nat.le_of_ble_eq_true rfl⟩ (Nat.le_of_ble_eq_true rfl) (c2 := 3) (s2 := 387) rfl rfl ⟨Nat.le_of_ble_eq_true rfl, Nat.le_of_ble_eq_true rfl⟩ rfl (fun u hu => ?_)
  obtain ⟨r, a, rfl⟩ := hu
  refine uw_putF (ci := 6) (fl2 := [.ref o, .null]) C hni rfl inX6 tyX6 tyX6_ok nmX6 0 (by decide) bw_125 rfl rfl rfl (ty := .object "FontPacker$StreamForm") (by decide +kernel) rfl rfl (Nat.le_of_ble_eq_true rfl) rfl dX6_init_12 ?_
  refine uw_aload_n C dX6_init_15 0 rfl ?_
  refine uw_new (ci := 7) (fl := [.null, .int 0]) C rfl inX8 tyX8 tyX8_ok bw_123 bw_89 bw_62 (fun j hj => by rcases (show j = 0 ∨ j = 1 by omega) with rfl | rfl <;> rfl) (Nat.le_of_ble_eq_true rfl) (Nat.le_of_ble_eq_true rfl) dX6_init_16 (fun r2 => ?_)
  refine uw_dup C dX6_init_19 rfl ?_
  refine uw_sipush (v := nI 1000) C dX6_init_20 (by decide) ?_
  refine uw_cI (As := [.int (nI 1000)]) (rest := [.ref r2, .ref q]) C N ok_X8_init bw_124 dX6_init_23 (cu_row (n := 1000) (Nat.le_of_ble_eq_true rfl)) rfl ⟨Nat.le_of_ble_eq_true rfl, Nat.le_of_ble_eq_true rfl⟩ (Nat.le_of_ble_eq_true rfl) (c2 := 5) (s2 := 1389) rfl rfl ⟨Nat.le_of_ble_eq_true rfl, Nat.le_of_ble_eq_true rfl⟩ rfl (fun u hu => ?_)
  obtain ⟨a2, rfl⟩ := hu
  refine uw_putF (ci := 6) (fl2 := [.ref o, .ref r2]) C hni rfl inX6 tyX6 tyX6_ok nmX6 1 (by decide) bw_126 rfl rfl rfl (ty := .object "FontPacker$Row") (by decide +kernel) rfl rfl (Nat.le_of_ble_eq_true rfl) rfl dX6_init_26 ?_
  exact uw_nret C N hrt dX6_init_29 ⟨z_of [o, r, a, r2, a2], rfl⟩)
abbrev rm_reader : Room := { frames := 2, cells := 6, slots := 1020, locals := 35 }
set_option maxHeartbeats 4000000 in
set_option maxRecDepth 100000 in
theorem cu_reader {l : Launch} {g : Gx} {q : Nat} : CUn g l yX5_init cX5_init 1 rm_reader [.ref q] (q, .inr (5, [.null, .null, .null, .int 0, .int 0, .int 0, .int 0])) (isReader g q) := fun w0 => cu_entry (own := RX5) (plainFor_of_name (by decide)) rfl (Nat.le_of_ble_eq_true rfl) rfl (fun f hf C N hrt hni => by
  subst hf
  refine uw_aload_n C dX5_init_0 0 rfl ?_
  refine uw_obj C bw_137 dX5_init_1 (Nat.le_of_ble_eq_true rfl) (Nat.le_of_ble_eq_true rfl) ?_
  refine uw_aload_n C dX5_init_4 0 rfl ?_
  refine uw_new (ci := 7) (fl := [.null, .int 0]) C rfl inX8 tyX8 tyX8_ok bw_138 bw_89 bw_62 (fun j hj => by rcases (show j = 0 ∨ j = 1 by omega) with rfl | rfl <;> rfl) (Nat.le_of_ble_eq_true rfl) (Nat.le_of_ble_eq_true rfl) dX5_init_5 (fun r => ?_)
  refine uw_dup C dX5_init_8 rfl ?_
  refine uw_sipush (v := nI 1000) C dX5_init_9 (by decide) ?_
  refine uw_cI (As := [.int (nI 1000)]) (rest := [.ref r, .ref q]) C N ok_X8_init bw_139 dX5_init_12 (cu_row (n := 1000) (Nat.le_of_ble_eq_true rfl)) rfl ⟨Nat.le_of_ble_eq_true rfl, Nat.le_of_ble_eq_true rfl⟩ (Nat.le_of_ble_eq_true rfl) (c2 := 2) (s2 := 1002) rfl rfl ⟨Nat.le_of_ble_eq_true rfl, Nat.le_of_ble_eq_true rfl⟩ rfl (fun u hu => ?_)
  obtain ⟨a, rfl⟩ := hu
  refine uw_putF (ci := 5) (fl2 := [.ref r, .null, .null, .int 0, .int 0, .int 0, .int 0]) C hni rfl inX5 tyX5 tyX5_ok nmX5 0 (by decide) bw_140 rfl rfl rfl (ty := .object "FontPacker$Row") (by decide +kernel) rfl rfl (Nat.le_of_ble_eq_true rfl) rfl dX5_init_15 ?_
  refine uw_aload_n C dX5_init_18 0 rfl ?_
  refine uw_new (ci := 7) (fl := [.null, .int 0]) C rfl inX8 tyX8 tyX8_ok bw_138 bw_89 bw_62 (fun j hj => by rcases (show j = 0 ∨ j = 1 by omega) with rfl | rfl <;> rfl) (Nat.le_of_ble_eq_true rfl) (Nat.le_of_ble_eq_true rfl) dX5_init_19 (fun r2 => ?_)
  refine uw_dup C dX5_init_22 rfl ?_
  refine uw_bipush (v := nI 7) C dX5_init_23 (by decide) ?_
  refine uw_cI (As := [.int (nI 7)]) (rest := [.ref r2, .ref q]) C N ok_X8_init bw_139 dX5_init_25 (cu_row (n := 7) (Nat.le_of_ble_eq_true rfl)) rfl ⟨Nat.le_of_ble_eq_true rfl, Nat.le_of_ble_eq_true rfl⟩ (Nat.le_of_ble_eq_true rfl) (c2 := 4) (s2 := 1011) rfl rfl ⟨Nat.le_of_ble_eq_true rfl, Nat.le_of_ble_eq_true rfl⟩ rfl (fun u hu => ?_)
  obtain ⟨a2, rfl⟩ := hu
  refine uw_putF (ci := 5) (fl2 := [.ref r, .ref r2, .null, .int 0, .int 0, .int 0, .int 0]) C hni rfl inX5 tyX5 tyX5_ok nmX5 1 (by decide) bw_141 rfl rfl rfl (ty := .object "FontPacker$Row") (by decide +kernel) rfl rfl (Nat.le_of_ble_eq_true rfl) rfl dX5_init_28 ?_
  refine uw_aload_n C dX5_init_31 0 rfl ?_
  refine uw_new (ci := 7) (fl := [.null, .int 0]) C rfl inX8 tyX8 tyX8_ok bw_138 bw_89 bw_62 (fun j hj => by rcases (show j = 0 ∨ j = 1 by omega) with rfl | rfl <;> rfl) (Nat.le_of_ble_eq_true rfl) (Nat.le_of_ble_eq_true rfl) dX5_init_32 (fun r3 => ?_)
  refine uw_dup C dX5_init_35 rfl ?_
  refine uw_bipush (v := nI 7) C dX5_init_36 (by decide) ?_
  refine uw_cI (As := [.int (nI 7)]) (rest := [.ref r3, .ref q]) C N ok_X8_init bw_139 dX5_init_38 (cu_row (n := 7) (Nat.le_of_ble_eq_true rfl)) rfl ⟨Nat.le_of_ble_eq_true rfl, Nat.le_of_ble_eq_true rfl⟩ (Nat.le_of_ble_eq_true rfl) (c2 := 6) (s2 := 1020) rfl rfl ⟨Nat.le_of_ble_eq_true rfl, Nat.le_of_ble_eq_true rfl⟩ rfl (fun u hu => ?_)
  obtain ⟨a3, rfl⟩ := hu
  refine uw_putF (ci := 5) (fl2 := [.ref r, .ref r2, .ref r3, .int 0, .int 0, .int 0, .int 0]) C hni rfl inX5 tyX5 tyX5_ok nmX5 2 (by decide) bw_142 rfl rfl rfl (ty := .object "FontPacker$Row") (by decide +kernel) rfl rfl (Nat.le_of_ble_eq_true rfl) rfl dX5_init_41 ?_
  refine uw_aload_n C dX5_init_44 0 rfl ?_
  refine uw_iconst (v := 0) C dX5_init_45 (by decide) ?_
  refine uw_put (ci := 5) (fl2 := [.ref r, .ref r2, .ref r3, .int 0, .int 0, .int 0, .int 0]) C rfl inX5 tyX5 tyX5_ok nmX5 3 (by decide) bw_143 rfl rfl (ty := .boolean) (by decide +kernel) rfl rfl (Nat.le_of_ble_eq_true rfl) rfl dX5_init_46 ?_
  refine uw_aload_n C dX5_init_49 0 rfl ?_
  refine uw_iconst (v := 0) C dX5_init_50 (by decide) ?_
  refine uw_put (ci := 5) (fl2 := [.ref r, .ref r2, .ref r3, .int 0, .int 0, .int 0, .int 0]) C rfl inX5 tyX5 tyX5_ok nmX5 4 (by decide) bw_144 rfl rfl (ty := .int) (by decide +kernel) rfl rfl (Nat.le_of_ble_eq_true rfl) rfl dX5_init_51 ?_
  refine uw_aload_n C dX5_init_54 0 rfl ?_
  refine uw_iconst (v := 0) C dX5_init_55 (by decide) ?_
  refine uw_put (ci := 5) (fl2 := [.ref r, .ref r2, .ref r3, .int 0, .int 0, .int 0, .int 0]) C rfl inX5 tyX5 tyX5_ok nmX5 5 (by decide) bw_145 rfl rfl (ty := .int) (by decide +kernel) rfl rfl (Nat.le_of_ble_eq_true rfl) rfl dX5_init_56 ?_
  refine uw_aload_n C dX5_init_59 0 rfl ?_
  refine uw_iconst (v := 0) C dX5_init_60 (by decide) ?_
  refine uw_put (ci := 5) (fl2 := [.ref r, .ref r2, .ref r3, .int 0, .int 0, .int 0, .int 0]) C rfl inX5 tyX5 tyX5_ok nmX5 6 (by decide) bw_146 rfl rfl (ty := .int) (by decide +kernel) rfl rfl (Nat.le_of_ble_eq_true rfl) rfl dX5_init_61 ?_
  exact uw_nret C N hrt dX5_init_64 ⟨z_of [r, a, r2, a2, r3, a3], rfl⟩)
abbrev rm_glyph : Room := { frames := 2, cells := 8, slots := 60, locals := 35 }
set_option maxHeartbeats 4000000 in
set_option maxRecDepth 100000 in
theorem cu_glyph {l : Launch} {g : Gx} {q : Nat} : CUn g l yX4_init cX4_init 1 rm_glyph [.ref q] (q, .inr (4, [.null, .null, .null, .null, .int 0])) (isGlyph g q) := fun w0 => cu_entry (own := RX4) (plainFor_of_name (by decide)) rfl (Nat.le_of_ble_eq_true rfl) rfl (fun f hf C N hrt hni => by
  subst hf
  refine uw_aload_n C dX4_init_0 0 rfl ?_
  refine uw_obj C bw_176 dX4_init_1 (Nat.le_of_ble_eq_true rfl) (Nat.le_of_ble_eq_true rfl) ?_
  refine uw_aload_n C dX4_init_4 0 rfl ?_
  refine uw_new (ci := 7) (fl := [.null, .int 0]) C rfl inX8 tyX8 tyX8_ok bw_177 bw_89 bw_62 (fun j hj => by rcases (show j = 0 ∨ j = 1 by omega) with rfl | rfl <;> rfl) (Nat.le_of_ble_eq_true rfl) (Nat.le_of_ble_eq_true rfl) dX4_init_5 (fun r => ?_)
  refine uw_dup C dX4_init_8 rfl ?_
  refine uw_iconst (v := nI 4) C dX4_init_9 (by decide) ?_
  refine uw_cI (As := [.int (nI 4)]) (rest := [.ref r, .ref q]) C N ok_X8_init bw_178 dX4_init_10 (cu_row (n := 4) (Nat.le_of_ble_eq_true rfl)) rfl ⟨Nat.le_of_ble_eq_true rfl, Nat.le_of_ble_eq_true rfl⟩ (Nat.le_of_ble_eq_true rfl) (c2 := 2) (s2 := 6) rfl rfl ⟨Nat.le_of_ble_eq_true rfl, Nat.le_of_ble_eq_true rfl⟩ rfl (fun u hu => ?_)
  obtain ⟨a, rfl⟩ := hu
  refine uw_putF (ci := 4) (fl2 := [.ref r, .null, .null, .null, .int 0]) C hni rfl inX4 tyX4 tyX4_ok nmX4 0 (by decide) bw_179 rfl rfl rfl (ty := .object "FontPacker$Row") (by decide +kernel) rfl rfl (Nat.le_of_ble_eq_true rfl) rfl dX4_init_13 ?_
  refine uw_aload_n C dX4_init_16 0 rfl ?_
  refine uw_new (ci := 7) (fl := [.null, .int 0]) C rfl inX8 tyX8 tyX8_ok bw_177 bw_89 bw_62 (fun j hj => by rcases (show j = 0 ∨ j = 1 by omega) with rfl | rfl <;> rfl) (Nat.le_of_ble_eq_true rfl) (Nat.le_of_ble_eq_true rfl) dX4_init_17 (fun r2 => ?_)
  refine uw_dup C dX4_init_20 rfl ?_
  refine uw_bipush (v := nI 16) C dX4_init_21 (by decide) ?_
  refine uw_cI (As := [.int (nI 16)]) (rest := [.ref r2, .ref q]) C N ok_X8_init bw_178 dX4_init_23 (cu_row (n := 16) (Nat.le_of_ble_eq_true rfl)) rfl ⟨Nat.le_of_ble_eq_true rfl, Nat.le_of_ble_eq_true rfl⟩ (Nat.le_of_ble_eq_true rfl) (c2 := 4) (s2 := 24) rfl rfl ⟨Nat.le_of_ble_eq_true rfl, Nat.le_of_ble_eq_true rfl⟩ rfl (fun u hu => ?_)
  obtain ⟨a2, rfl⟩ := hu
  refine uw_putF (ci := 4) (fl2 := [.ref r, .ref r2, .null, .null, .int 0]) C hni rfl inX4 tyX4 tyX4_ok nmX4 1 (by decide) bw_180 rfl rfl rfl (ty := .object "FontPacker$Row") (by decide +kernel) rfl rfl (Nat.le_of_ble_eq_true rfl) rfl dX4_init_26 ?_
  refine uw_aload_n C dX4_init_29 0 rfl ?_
  refine uw_new (ci := 7) (fl := [.null, .int 0]) C rfl inX8 tyX8 tyX8_ok bw_177 bw_89 bw_62 (fun j hj => by rcases (show j = 0 ∨ j = 1 by omega) with rfl | rfl <;> rfl) (Nat.le_of_ble_eq_true rfl) (Nat.le_of_ble_eq_true rfl) dX4_init_30 (fun r3 => ?_)
  refine uw_dup C dX4_init_33 rfl ?_
  refine uw_bipush (v := nI 16) C dX4_init_34 (by decide) ?_
  refine uw_cI (As := [.int (nI 16)]) (rest := [.ref r3, .ref q]) C N ok_X8_init bw_178 dX4_init_36 (cu_row (n := 16) (Nat.le_of_ble_eq_true rfl)) rfl ⟨Nat.le_of_ble_eq_true rfl, Nat.le_of_ble_eq_true rfl⟩ (Nat.le_of_ble_eq_true rfl) (c2 := 6) (s2 := 42) rfl rfl ⟨Nat.le_of_ble_eq_true rfl, Nat.le_of_ble_eq_true rfl⟩ rfl (fun u hu => ?_)
  obtain ⟨a3, rfl⟩ := hu
  refine uw_putF (ci := 4) (fl2 := [.ref r, .ref r2, .ref r3, .null, .int 0]) C hni rfl inX4 tyX4 tyX4_ok nmX4 2 (by decide) bw_181 rfl rfl rfl (ty := .object "FontPacker$Row") (by decide +kernel) rfl rfl (Nat.le_of_ble_eq_true rfl) rfl dX4_init_39 ?_
  refine uw_aload_n C dX4_init_42 0 rfl ?_
  refine uw_new (ci := 7) (fl := [.null, .int 0]) C rfl inX8 tyX8 tyX8_ok bw_177 bw_89 bw_62 (fun j hj => by rcases (show j = 0 ∨ j = 1 by omega) with rfl | rfl <;> rfl) (Nat.le_of_ble_eq_true rfl) (Nat.le_of_ble_eq_true rfl) dX4_init_43 (fun r4 => ?_)
  refine uw_dup C dX4_init_46 rfl ?_
  refine uw_bipush (v := nI 16) C dX4_init_47 (by decide) ?_
  refine uw_cI (As := [.int (nI 16)]) (rest := [.ref r4, .ref q]) C N ok_X8_init bw_178 dX4_init_49 (cu_row (n := 16) (Nat.le_of_ble_eq_true rfl)) rfl ⟨Nat.le_of_ble_eq_true rfl, Nat.le_of_ble_eq_true rfl⟩ (Nat.le_of_ble_eq_true rfl) (c2 := 8) (s2 := 60) rfl rfl ⟨Nat.le_of_ble_eq_true rfl, Nat.le_of_ble_eq_true rfl⟩ rfl (fun u hu => ?_)
  obtain ⟨a4, rfl⟩ := hu
  refine uw_putF (ci := 4) (fl2 := [.ref r, .ref r2, .ref r3, .ref r4, .int 0]) C hni rfl inX4 tyX4 tyX4_ok nmX4 3 (by decide) bw_182 rfl rfl rfl (ty := .object "FontPacker$Row") (by decide +kernel) rfl rfl (Nat.le_of_ble_eq_true rfl) rfl dX4_init_52 ?_
  refine uw_aload_n C dX4_init_55 0 rfl ?_
  refine uw_iconst (v := 0) C dX4_init_56 (by decide) ?_
  refine uw_put (ci := 4) (fl2 := [.ref r, .ref r2, .ref r3, .ref r4, .int 0]) C rfl inX4 tyX4 tyX4_ok nmX4 4 (by decide) bw_183 rfl rfl (ty := .int) (by decide +kernel) rfl rfl (Nat.le_of_ble_eq_true rfl) rfl dX4_init_57 ?_
  exact uw_nret C N hrt dX4_init_60 ⟨z_of [r, a, r2, a2, r3, a3, r4, a4], rfl⟩)
