/-! the object itself, and the reference -/
def pkC (g : Gx) (q : Nat) (e : Nat → Nat) (zw zr : Nat → Nat) (x y : Nat) (p : Nat → Nat) (z : Nat → Nat → Nat) (t : Nat → Nat) (x' y' : Nat) (p' : Nat → Nat) (z' : Nat → Nat → Nat) (t' : Nat → Nat) : va_W := (q, .inr (9, [.ref (e 0), .ref (e 2), .ref (e 3), .ref (e 4), .ref (e 5), .int 0])) :: (rwC g (e 0) (e 1) 1500 ++ wrC g (e 2) zw ++ rdC g (e 3) zr ++ ftC g (e 4) x y p z t ++ ftC g (e 5) x' y' p' z' t')
def isPacker (g : Gx) (q : Nat) (u : va_W) : Prop := ∃ e zw zr x y p z t x' y' p' z' t', u = pkC g q e zw zr x y p z t x' y' p' z' t'
abbrev rm_packer : Room := { frames := 4, cells := 157, slots := 11984, locals := 76 }
set_option maxHeartbeats 4000000 in
set_option maxRecDepth 100000 in
theorem cu_packer {l : Launch} {g : Gx} {q : Nat} : CUn g l yX10_init cX10_init 1 rm_packer [.ref q] (q, .inr (9, [.null, .null, .null, .null, .null, .int 0])) (isPacker g q) := fun w0 => cu_entry (own := RX10) (plainFor_of_name (by decide)) rfl (Nat.le_of_ble_eq_true rfl) rfl (fun f hf C N hrt hni => by
  subst hf
  refine uw_aload_n C dX10_init_0 0 rfl ?_
  refine uw_obj C bw_85 dX10_init_1 (Nat.le_of_ble_eq_true rfl) (Nat.le_of_ble_eq_true rfl) ?_
  refine uw_aload_n C dX10_init_4 0 rfl ?_
  refine uw_new (ci := 7) (fl := [.null, .int 0]) C rfl inX8 tyX8 tyX8_ok bw_88 bw_89 bw_62 (fun j hj => by rcases (show j = 0 ∨ j = 1 by omega) with rfl | rfl <;> rfl) (Nat.le_of_ble_eq_true rfl) (Nat.le_of_ble_eq_true rfl) dX10_init_5 (fun r => ?_)
  refine uw_dup C dX10_init_8 rfl ?_
  refine uw_sipush (v := nI 1500) C dX10_init_9 (by decide) ?_
  refine uw_cI (As := [.int (nI 1500)]) (rest := [.ref r, .ref q]) C N ok_X8_init bw_90 dX10_init_12 (cu_row (n := 1500) (Nat.le_of_ble_eq_true rfl)) rfl ⟨Nat.le_of_ble_eq_true rfl, Nat.le_of_ble_eq_true rfl⟩ (Nat.le_of_ble_eq_true rfl) (c2 := 2) (s2 := 1502) rfl rfl ⟨Nat.le_of_ble_eq_true rfl, Nat.le_of_ble_eq_true rfl⟩ rfl (fun u hu => ?_)
  obtain ⟨a, rfl⟩ := hu
  refine uw_putF (ci := 9) (fl2 := [.ref r, .null, .null, .null, .null, .int 0]) C hni rfl inX10 tyX10 tyX10_ok nmX10 0 (by decide) bw_209 rfl rfl rfl (ty := .object "FontPacker$Row") (by decide +kernel) rfl rfl (Nat.le_of_ble_eq_true rfl) rfl dX10_init_15 ?_
  refine uw_aload_n C dX10_init_18 0 rfl ?_
  refine uw_new (ci := 6) (fl := [.null, .null]) C rfl inX6 tyX6 tyX6_ok bw_105 bw_106 bw_64 (fun j hj => by rcases (show j = 0 ∨ j = 1 by omega) with rfl | rfl <;> rfl) (Nat.le_of_ble_eq_true rfl) (Nat.le_of_ble_eq_true rfl) dX10_init_19 (fun w => ?_)
  refine uw_dup C dX10_init_22 rfl ?_
  refine uw_cN (As := []) (rest := [.ref w, .ref q]) C N ok_X6_init N.1 dX10_init_23 (cu_writer) rfl ⟨Nat.le_of_ble_eq_true rfl, Nat.le_of_ble_eq_true rfl⟩ (Nat.le_of_ble_eq_true rfl) (c2 := 8) (s2 := 2893) rfl rfl ⟨Nat.le_of_ble_eq_true rfl, Nat.le_of_ble_eq_true rfl⟩ rfl (fun u hu => ?_)
  obtain ⟨zw, rfl⟩ := hu
  refine uw_putF (ci := 9) (fl2 := [.ref r, .ref w, .null, .null, .null, .int 0]) C hni rfl inX10 tyX10 tyX10_ok nmX10 1 (by decide) bw_210 rfl rfl rfl (ty := .object "FontPacker$PackedWriter") (by decide +kernel) rfl rfl (Nat.le_of_ble_eq_true rfl) rfl dX10_init_26 ?_
  refine uw_aload_n C dX10_init_29 0 rfl ?_
  refine uw_new (ci := 5) (fl := [.null, .null, .null, .int 0, .int 0, .int 0, .int 0]) C rfl inX5 tyX5 tyX5_ok bw_132 bw_133 bw_66 (fun j hj => by rcases (show j = 0 ∨ j = 1 ∨ j = 2 ∨ j = 3 ∨ j = 4 ∨ j = 5 ∨ j = 6 by omega) with rfl | rfl | rfl | rfl | rfl | rfl | rfl <;> rfl) (Nat.le_of_ble_eq_true rfl) (Nat.le_of_ble_eq_true rfl) dX10_init_30 (fun d => ?_)
  refine uw_dup C dX10_init_33 rfl ?_
  refine uw_cN (As := []) (rest := [.ref d, .ref q]) C N ok_X5_init N.2.2.1 dX10_init_34 (cu_reader) rfl ⟨Nat.le_of_ble_eq_true rfl, Nat.le_of_ble_eq_true rfl⟩ (Nat.le_of_ble_eq_true rfl) (c2 := 15) (s2 := 3920) rfl rfl ⟨Nat.le_of_ble_eq_true rfl, Nat.le_of_ble_eq_true rfl⟩ rfl (fun u hu => ?_)
  obtain ⟨zr, rfl⟩ := hu
  refine uw_putF (ci := 9) (fl2 := [.ref r, .ref w, .ref d, .null, .null, .int 0]) C hni rfl inX10 tyX10 tyX10_ok nmX10 2 (by decide) bw_211 rfl rfl rfl (ty := .object "FontPacker$PackedReader") (by decide +kernel) rfl rfl (Nat.le_of_ble_eq_true rfl) rfl dX10_init_37 ?_
  refine uw_aload_n C dX10_init_40 0 rfl ?_
  refine uw_new (ci := 3) (fl := [.null, .null, .int 0]) C rfl inX3 tyX3 tyX3_ok bw_162 bw_163 bw_67 (fun j hj => by rcases (show j = 0 ∨ j = 1 ∨ j = 2 by omega) with rfl | rfl | rfl <;> rfl) (Nat.le_of_ble_eq_true rfl) (Nat.le_of_ble_eq_true rfl) dX10_init_41 (fun f1 => ?_)
  refine uw_dup C dX10_init_44 rfl ?_
  refine uw_cI (As := []) (rest := [.ref f1, .ref q]) C N ok_X3_init bw_164 dX10_init_45 (cu_font) rfl ⟨Nat.le_of_ble_eq_true rfl, Nat.le_of_ble_eq_true rfl⟩ (Nat.le_of_ble_eq_true rfl) (c2 := 86) (s2 := 7952) rfl rfl ⟨Nat.le_of_ble_eq_true rfl, Nat.le_of_ble_eq_true rfl⟩ rfl (fun u hu => ?_)
  obtain ⟨x, y, p, z, t, rfl⟩ := hu
  refine uw_put (ci := 9) (fl2 := [.ref r, .ref w, .ref d, .ref f1, .null, .int 0]) C rfl inX10 tyX10 tyX10_ok nmX10 3 (by decide) bw_212 rfl rfl (ty := .object "FontPacker$Font") (by decide +kernel) rfl rfl (Nat.le_of_ble_eq_true rfl) rfl dX10_init_48 ?_
  refine uw_aload_n C dX10_init_51 0 rfl ?_
  refine uw_new (ci := 3) (fl := [.null, .null, .int 0]) C rfl inX3 tyX3 tyX3_ok bw_162 bw_163 bw_67 (fun j hj => by rcases (show j = 0 ∨ j = 1 ∨ j = 2 by omega) with rfl | rfl | rfl <;> rfl) (Nat.le_of_ble_eq_true rfl) (Nat.le_of_ble_eq_true rfl) dX10_init_52 (fun f2 => ?_)
  refine uw_dup C dX10_init_55 rfl ?_
  refine uw_cI (As := []) (rest := [.ref f2, .ref q]) C N ok_X3_init bw_164 dX10_init_56 (cu_font) rfl ⟨Nat.le_of_ble_eq_true rfl, Nat.le_of_ble_eq_true rfl⟩ (Nat.le_of_ble_eq_true rfl) (c2 := 157) (s2 := 11984) rfl rfl ⟨Nat.le_of_ble_eq_true rfl, Nat.le_of_ble_eq_true rfl⟩ rfl (fun u hu => ?_)
  obtain ⟨x', y', p', z', t', rfl⟩ := hu
  refine uw_put (ci := 9) (fl2 := [.ref r, .ref w, .ref d, .ref f1, .ref f2, .int 0]) C rfl inX10 tyX10 tyX10_ok nmX10 4 (by decide) bw_213 rfl rfl (ty := .object "FontPacker$Font") (by decide +kernel) rfl rfl (Nat.le_of_ble_eq_true rfl) rfl dX10_init_59 ?_
  refine uw_aload_n C dX10_init_62 0 rfl ?_
  refine uw_iconst (v := 0) C dX10_init_63 (by decide) ?_
  refine uw_put (ci := 9) (fl2 := [.ref r, .ref w, .ref d, .ref f1, .ref f2, .int 0]) C rfl inX10 tyX10 tyX10_ok nmX10 5 (by decide) bw_214 rfl rfl (ty := .int) (by decide +kernel) rfl rfl (Nat.le_of_ble_eq_true rfl) rfl dX10_init_64 ?_
  exact uw_nret C N hrt dX10_init_67 ⟨z_of [r, a, w, d, f1, f2], zw, zr, x, y, p, z, t, x', y', p', z', t', rfl⟩)
def mdC (g : Gx) (q : Nat) (m : Nat → Nat) : va_W := (q, .inr (10, .int 0 :: .int 0 :: .ref (m 0) :: .ref (m 1) :: .ref (m 2) :: .ref (m 3) :: .ref (m 4) :: .ref (m 5) :: .ref (m 6) :: .ref (m 7) :: .ref (m 8) :: .int 0 :: .ref (m 9) :: .ref (m 10) :: .ref (m 11) :: .ref (m 12) :: .ref (m 13) :: .ref (m 14) :: .ref (m 15) :: .ref (m 16) :: .ref (m 17) :: .ref (m 18) :: .int 0 :: .ref (m 19) :: .int 0 :: .ref (m 20) :: .int 0 :: .ref (m 21) :: .int 0 :: .int 0 :: .int 0 :: .int 0 :: .int 0 :: .int 0 :: .int 0 :: .int 0 :: .int 0 :: .ref (m 22) :: .ref (m 23) :: [])) :: (m 0, .inl (g.2.1.1, (6, .inl fun _ => 0))) :: (m 1, .inl (g.2.1.1, (6, .inl fun _ => 0))) :: (m 2, .inl (g.2.1.1, (6, .inl fun _ => 0))) :: (m 3, .inl (g.2.1.1, (96, .inl fun _ => 0))) :: (m 4, .inl (g.2.1.1, (96, .inl fun _ => 0))) :: (m 5, .inl (g.2.1.2.1, (96, .inl fun _ => 0))) :: (m 6, .inl (g.2.1.1, (96, .inl fun _ => 0))) :: (m 7, .inl (g.2.1.1, (7, .inl fun _ => 0))) :: (m 8, .inl (g.2.1.1, (140, .inl fun _ => 0))) :: (m 9, .inl (g.2.1.1, (6, .inl fun _ => 0))) :: (m 10, .inl (g.2.1.1, (6, .inl fun _ => 0))) :: (m 11, .inl (g.2.1.1, (6, .inl fun _ => 0))) :: (m 12, .inl (g.2.1.1, (96, .inl fun _ => 0))) :: (m 13, .inl (g.2.1.1, (96, .inl fun _ => 0))) :: (m 14, .inl (g.2.1.1, (96, .inl fun _ => 0))) :: (m 15, .inl (g.2.1.1, (96, .inl fun _ => 0))) :: (m 16, .inl (g.2.1.1, (24, .inl fun _ => 0))) :: (m 17, .inl (g.2.1.1, (7, .inl fun _ => 0))) :: (m 18, .inl (g.2.1.1, (140, .inl fun _ => 0))) :: (m 19, .inl (g.2.1.1, (1500, .inl fun _ => 0))) :: (m 20, .inl (g.2.1.1, (1100, .inl fun _ => 0))) :: (m 21, .inl (g.2.1.1, (1100, .inl fun _ => 0))) :: (m 22, .inl (g.2.1.1, (7, .inl fun _ => 0))) :: (m 23, .inl (g.2.1.1, (7, .inl fun _ => 0))) :: []
def isModel (g : Gx) (q : Nat) (u : va_W) : Prop := ∃ m, u = mdC g q m
abbrev rm_model : Room := { frames := 1, cells := 24, slots := 4836, locals := 12 }
set_option maxHeartbeats 4000000 in
set_option maxRecDepth 100000 in
theorem cu_model {l : Launch} {g : Gx} {q : Nat} : CUn g l yX11_init cX11_init 1 rm_model [.ref q] (q, .inr (10, (.int 0 :: .int 0 :: .null :: .null :: .null :: .null :: .null :: .null :: .null :: .null :: .null :: .int 0 :: .null :: .null :: .null :: .null :: .null :: .null :: .null :: .null :: .null :: .null :: .int 0 :: .null :: .int 0 :: .null :: .int 0 :: .null :: .int 0 :: .int 0 :: .int 0 :: .int 0 :: .int 0 :: .int 0 :: .int 0 :: .int 0 :: .int 0 :: .null :: .null :: []))) (isModel g q) := fun w0 => cu_entry (own := RX11) (plainFor_of_name (by decide)) rfl (Nat.le_of_ble_eq_true rfl) rfl (fun f hf C N hrt hni => by
  subst hf
  refine uw_aload_n C dX11_init_0 0 rfl ?_
  refine uw_obj C bw_922 dX11_init_1 (Nat.le_of_ble_eq_true rfl) (Nat.le_of_ble_eq_true rfl) ?_
  refine uw_aload_n C dX11_init_4 0 rfl ?_
  refine uw_bipush (v := nI 6) C dX11_init_5 (by decide) ?_
  refine uw_newi (N := 6) C (by decide) (by decide) (Nat.le_of_ble_eq_true rfl) (Nat.le_of_ble_eq_true rfl) (Nat.le_of_ble_eq_true rfl) dX11_init_7 (fun m0 => ?_)
  refine uw_putF (ci := 10) (fl2 := (.int 0 :: .int 0 :: .ref m0 :: .null :: .null :: .null :: .null :: .null :: .null :: .null :: .null :: .int 0 :: .null :: .null :: .null :: .null :: .null :: .null :: .null :: .null :: .null :: .null :: .int 0 :: .null :: .int 0 :: .null :: .int 0 :: .null :: .int 0 :: .int 0 :: .int 0 :: .int 0 :: .int 0 :: .int 0 :: .int 0 :: .int 0 :: .int 0 :: .null :: .null :: [])) C hni rfl inX11 tyX11 tyX11_ok nmX11 2 (by decide) bw_925 rfl rfl rfl (ty := .array .int) (by decide +kernel) rfl rfl (Nat.le_of_ble_eq_true rfl) rfl dX11_init_9 ?_
  refine uw_aload_n C dX11_init_12 0 rfl ?_
  refine uw_bipush (v := nI 6) C dX11_init_13 (by decide) ?_
  refine uw_newi (N := 6) C (by decide) (by decide) (Nat.le_of_ble_eq_true rfl) (Nat.le_of_ble_eq_true rfl) (Nat.le_of_ble_eq_true rfl) dX11_init_15 (fun m1 => ?_)
  refine uw_putF (ci := 10) (fl2 := (.int 0 :: .int 0 :: .ref m0 :: .ref m1 :: .null :: .null :: .null :: .null :: .null :: .null :: .null :: .int 0 :: .null :: .null :: .null :: .null :: .null :: .null :: .null :: .null :: .null :: .null :: .int 0 :: .null :: .int 0 :: .null :: .int 0 :: .null :: .int 0 :: .int 0 :: .int 0 :: .int 0 :: .int 0 :: .int 0 :: .int 0 :: .int 0 :: .int 0 :: .null :: .null :: [])) C hni rfl inX11 tyX11 tyX11_ok nmX11 3 (by decide) bw_926 rfl rfl rfl (ty := .array .int) (by decide +kernel) rfl rfl (Nat.le_of_ble_eq_true rfl) rfl dX11_init_17 ?_
  refine uw_aload_n C dX11_init_20 0 rfl ?_
  refine uw_bipush (v := nI 6) C dX11_init_21 (by decide) ?_
  refine uw_newi (N := 6) C (by decide) (by decide) (Nat.le_of_ble_eq_true rfl) (Nat.le_of_ble_eq_true rfl) (Nat.le_of_ble_eq_true rfl) dX11_init_23 (fun m2 => ?_)
  refine uw_putF (ci := 10) (fl2 := (.int 0 :: .int 0 :: .ref m0 :: .ref m1 :: .ref m2 :: .null :: .null :: .null :: .null :: .null :: .null :: .int 0 :: .null :: .null :: .null :: .null :: .null :: .null :: .null :: .null :: .null :: .null :: .int 0 :: .null :: .int 0 :: .null :: .int 0 :: .null :: .int 0 :: .int 0 :: .int 0 :: .int 0 :: .int 0 :: .int 0 :: .int 0 :: .int 0 :: .int 0 :: .null :: .null :: [])) C hni rfl inX11 tyX11 tyX11_ok nmX11 4 (by decide) bw_927 rfl rfl rfl (ty := .array .int) (by decide +kernel) rfl rfl (Nat.le_of_ble_eq_true rfl) rfl dX11_init_25 ?_
  refine uw_aload_n C dX11_init_28 0 rfl ?_
  refine uw_bipush (v := nI 96) C dX11_init_29 (by decide) ?_
  refine uw_newi (N := 96) C (by decide) (by decide) (Nat.le_of_ble_eq_true rfl) (Nat.le_of_ble_eq_true rfl) (Nat.le_of_ble_eq_true rfl) dX11_init_31 (fun m3 => ?_)
  refine uw_putF (ci := 10) (fl2 := (.int 0 :: .int 0 :: .ref m0 :: .ref m1 :: .ref m2 :: .ref m3 :: .null :: .null :: .null :: .null :: .null :: .int 0 :: .null :: .null :: .null :: .null :: .null :: .null :: .null :: .null :: .null :: .null :: .int 0 :: .null :: .int 0 :: .null :: .int 0 :: .null :: .int 0 :: .int 0 :: .int 0 :: .int 0 :: .int 0 :: .int 0 :: .int 0 :: .int 0 :: .int 0 :: .null :: .null :: [])) C hni rfl inX11 tyX11 tyX11_ok nmX11 5 (by decide) bw_928 rfl rfl rfl (ty := .array .int) (by decide +kernel) rfl rfl (Nat.le_of_ble_eq_true rfl) rfl dX11_init_33 ?_
  refine uw_aload_n C dX11_init_36 0 rfl ?_
  refine uw_bipush (v := nI 96) C dX11_init_37 (by decide) ?_
  refine uw_newi (N := 96) C (by decide) (by decide) (Nat.le_of_ble_eq_true rfl) (Nat.le_of_ble_eq_true rfl) (Nat.le_of_ble_eq_true rfl) dX11_init_39 (fun m4 => ?_)
  refine uw_putF (ci := 10) (fl2 := (.int 0 :: .int 0 :: .ref m0 :: .ref m1 :: .ref m2 :: .ref m3 :: .ref m4 :: .null :: .null :: .null :: .null :: .int 0 :: .null :: .null :: .null :: .null :: .null :: .null :: .null :: .null :: .null :: .null :: .int 0 :: .null :: .int 0 :: .null :: .int 0 :: .null :: .int 0 :: .int 0 :: .int 0 :: .int 0 :: .int 0 :: .int 0 :: .int 0 :: .int 0 :: .int 0 :: .null :: .null :: [])) C hni rfl inX11 tyX11 tyX11_ok nmX11 6 (by decide) bw_929 rfl rfl rfl (ty := .array .int) (by decide +kernel) rfl rfl (Nat.le_of_ble_eq_true rfl) rfl dX11_init_41 ?_
  refine uw_aload_n C dX11_init_44 0 rfl ?_
  refine uw_bipush (v := nI 96) C dX11_init_45 (by decide) ?_
  refine uw_newz (N := 96) C (by decide) (by decide) (Nat.le_of_ble_eq_true rfl) (Nat.le_of_ble_eq_true rfl) (Nat.le_of_ble_eq_true rfl) dX11_init_47 (fun m5 => ?_)
  refine uw_putF (ci := 10) (fl2 := (.int 0 :: .int 0 :: .ref m0 :: .ref m1 :: .ref m2 :: .ref m3 :: .ref m4 :: .ref m5 :: .null :: .null :: .null :: .int 0 :: .null :: .null :: .null :: .null :: .null :: .null :: .null :: .null :: .null :: .null :: .int 0 :: .null :: .int 0 :: .null :: .int 0 :: .null :: .int 0 :: .int 0 :: .int 0 :: .int 0 :: .int 0 :: .int 0 :: .int 0 :: .int 0 :: .int 0 :: .null :: .null :: [])) C hni rfl inX11 tyX11 tyX11_ok nmX11 7 (by decide) bw_930 rfl rfl rfl (ty := .array .boolean) (by decide +kernel) rfl rfl (Nat.le_of_ble_eq_true rfl) rfl dX11_init_49 ?_
  refine uw_aload_n C dX11_init_52 0 rfl ?_
  refine uw_bipush (v := nI 96) C dX11_init_53 (by decide) ?_
  refine uw_newi (N := 96) C (by decide) (by decide) (Nat.le_of_ble_eq_true rfl) (Nat.le_of_ble_eq_true rfl) (Nat.le_of_ble_eq_true rfl) dX11_init_55 (fun m6 => ?_)
  refine uw_putF (ci := 10) (fl2 := (.int 0 :: .int 0 :: .ref m0 :: .ref m1 :: .ref m2 :: .ref m3 :: .ref m4 :: .ref m5 :: .ref m6 :: .null :: .null :: .int 0 :: .null :: .null :: .null :: .null :: .null :: .null :: .null :: .null :: .null :: .null :: .int 0 :: .null :: .int 0 :: .null :: .int 0 :: .null :: .int 0 :: .int 0 :: .int 0 :: .int 0 :: .int 0 :: .int 0 :: .int 0 :: .int 0 :: .int 0 :: .null :: .null :: [])) C hni rfl inX11 tyX11 tyX11_ok nmX11 8 (by decide) bw_931 rfl rfl rfl (ty := .array .int) (by decide +kernel) rfl rfl (Nat.le_of_ble_eq_true rfl) rfl dX11_init_57 ?_
  refine uw_aload_n C dX11_init_60 0 rfl ?_
  refine uw_bipush (v := nI 7) C dX11_init_61 (by decide) ?_
  refine uw_newi (N := 7) C (by decide) (by decide) (Nat.le_of_ble_eq_true rfl) (Nat.le_of_ble_eq_true rfl) (Nat.le_of_ble_eq_true rfl) dX11_init_63 (fun m7 => ?_)
  refine uw_putF (ci := 10) (fl2 := (.int 0 :: .int 0 :: .ref m0 :: .ref m1 :: .ref m2 :: .ref m3 :: .ref m4 :: .ref m5 :: .ref m6 :: .ref m7 :: .null :: .int 0 :: .null :: .null :: .null :: .null :: .null :: .null :: .null :: .null :: .null :: .null :: .int 0 :: .null :: .int 0 :: .null :: .int 0 :: .null :: .int 0 :: .int 0 :: .int 0 :: .int 0 :: .int 0 :: .int 0 :: .int 0 :: .int 0 :: .int 0 :: .null :: .null :: [])) C hni rfl inX11 tyX11 tyX11_ok nmX11 9 (by decide) bw_932 rfl rfl rfl (ty := .array .int) (by decide +kernel) rfl rfl (Nat.le_of_ble_eq_true rfl) rfl dX11_init_65 ?_
  refine uw_aload_n C dX11_init_68 0 rfl ?_
  refine uw_sipush (v := nI 140) C dX11_init_69 (by decide) ?_
  refine uw_newi (N := 140) C (by decide) (by decide) (Nat.le_of_ble_eq_true rfl) (Nat.le_of_ble_eq_true rfl) (Nat.le_of_ble_eq_true rfl) dX11_init_72 (fun m8 => ?_)
  refine uw_putF (ci := 10) (fl2 := (.int 0 :: .int 0 :: .ref m0 :: .ref m1 :: .ref m2 :: .ref m3 :: .ref m4 :: .ref m5 :: .ref m6 :: .ref m7 :: .ref m8 :: .int 0 :: .null :: .null :: .null :: .null :: .null :: .null :: .null :: .null :: .null :: .null :: .int 0 :: .null :: .int 0 :: .null :: .int 0 :: .null :: .int 0 :: .int 0 :: .int 0 :: .int 0 :: .int 0 :: .int 0 :: .int 0 :: .int 0 :: .int 0 :: .null :: .null :: [])) C hni rfl inX11 tyX11 tyX11_ok nmX11 10 (by decide) bw_933 rfl rfl rfl (ty := .array .int) (by decide +kernel) rfl rfl (Nat.le_of_ble_eq_true rfl) rfl dX11_init_74 ?_
  refine uw_aload_n C dX11_init_77 0 rfl ?_
  refine uw_bipush (v := nI 6) C dX11_init_78 (by decide) ?_
  refine uw_newi (N := 6) C (by decide) (by decide) (Nat.le_of_ble_eq_true rfl) (Nat.le_of_ble_eq_true rfl) (Nat.le_of_ble_eq_true rfl) dX11_init_80 (fun m9 => ?_)
  refine uw_putF (ci := 10) (fl2 := (.int 0 :: .int 0 :: .ref m0 :: .ref m1 :: .ref m2 :: .ref m3 :: .ref m4 :: .ref m5 :: .ref m6 :: .ref m7 :: .ref m8 :: .int 0 :: .ref m9 :: .null :: .null :: .null :: .null :: .null :: .null :: .null :: .null :: .null :: .int 0 :: .null :: .int 0 :: .null :: .int 0 :: .null :: .int 0 :: .int 0 :: .int 0 :: .int 0 :: .int 0 :: .int 0 :: .int 0 :: .int 0 :: .int 0 :: .null :: .null :: [])) C hni rfl inX11 tyX11 tyX11_ok nmX11 12 (by decide) bw_935 rfl rfl rfl (ty := .array .int) (by decide +kernel) rfl rfl (Nat.le_of_ble_eq_true rfl) rfl dX11_init_82 ?_
  refine uw_aload_n C dX11_init_85 0 rfl ?_
  refine uw_bipush (v := nI 6) C dX11_init_86 (by decide) ?_
  refine uw_newi (N := 6) C (by decide) (by decide) (Nat.le_of_ble_eq_true rfl) (Nat.le_of_ble_eq_true rfl) (Nat.le_of_ble_eq_true rfl) dX11_init_88 (fun m10 => ?_)
  refine uw_putF (ci := 10) (fl2 := (.int 0 :: .int 0 :: .ref m0 :: .ref m1 :: .ref m2 :: .ref m3 :: .ref m4 :: .ref m5 :: .ref m6 :: .ref m7 :: .ref m8 :: .int 0 :: .ref m9 :: .ref m10 :: .null :: .null :: .null :: .null :: .null :: .null :: .null :: .null :: .int 0 :: .null :: .int 0 :: .null :: .int 0 :: .null :: .int 0 :: .int 0 :: .int 0 :: .int 0 :: .int 0 :: .int 0 :: .int 0 :: .int 0 :: .int 0 :: .null :: .null :: [])) C hni rfl inX11 tyX11 tyX11_ok nmX11 13 (by decide) bw_936 rfl rfl rfl (ty := .array .int) (by decide +kernel) rfl rfl (Nat.le_of_ble_eq_true rfl) rfl dX11_init_90 ?_
  refine uw_aload_n C dX11_init_93 0 rfl ?_
  refine uw_bipush (v := nI 6) C dX11_init_94 (by decide) ?_
  refine uw_newi (N := 6) C (by decide) (by decide) (Nat.le_of_ble_eq_true rfl) (Nat.le_of_ble_eq_true rfl) (Nat.le_of_ble_eq_true rfl) dX11_init_96 (fun m11 => ?_)
  refine uw_putF (ci := 10) (fl2 := (.int 0 :: .int 0 :: .ref m0 :: .ref m1 :: .ref m2 :: .ref m3 :: .ref m4 :: .ref m5 :: .ref m6 :: .ref m7 :: .ref m8 :: .int 0 :: .ref m9 :: .ref m10 :: .ref m11 :: .null :: .null :: .null :: .null :: .null :: .null :: .null :: .int 0 :: .null :: .int 0 :: .null :: .int 0 :: .null :: .int 0 :: .int 0 :: .int 0 :: .int 0 :: .int 0 :: .int 0 :: .int 0 :: .int 0 :: .int 0 :: .null :: .null :: [])) C hni rfl inX11 tyX11 tyX11_ok nmX11 14 (by decide) bw_937 rfl rfl rfl (ty := .array .int) (by decide +kernel) rfl rfl (Nat.le_of_ble_eq_true rfl) rfl dX11_init_98 ?_
  refine uw_aload_n C dX11_init_101 0 rfl ?_
  refine uw_bipush (v := nI 96) C dX11_init_102 (by decide) ?_
  refine uw_newi (N := 96) C (by decide) (by decide) (Nat.le_of_ble_eq_true rfl) (Nat.le_of_ble_eq_true rfl) (Nat.le_of_ble_eq_true rfl) dX11_init_104 (fun m12 => ?_)
  refine uw_putF (ci := 10) (fl2 := (.int 0 :: .int 0 :: .ref m0 :: .ref m1 :: .ref m2 :: .ref m3 :: .ref m4 :: .ref m5 :: .ref m6 :: .ref m7 :: .ref m8 :: .int 0 :: .ref m9 :: .ref m10 :: .ref m11 :: .ref m12 :: .null :: .null :: .null :: .null :: .null :: .null :: .int 0 :: .null :: .int 0 :: .null :: .int 0 :: .null :: .int 0 :: .int 0 :: .int 0 :: .int 0 :: .int 0 :: .int 0 :: .int 0 :: .int 0 :: .int 0 :: .null :: .null :: [])) C hni rfl inX11 tyX11 tyX11_ok nmX11 15 (by decide) bw_938 rfl rfl rfl (ty := .array .int) (by decide +kernel) rfl rfl (Nat.le_of_ble_eq_true rfl) rfl dX11_init_106 ?_
  refine uw_aload_n C dX11_init_109 0 rfl ?_
  refine uw_bipush (v := nI 96) C dX11_init_110 (by decide) ?_
  refine uw_newi (N := 96) C (by decide) (by decide) (Nat.le_of_ble_eq_true rfl) (Nat.le_of_ble_eq_true rfl) (Nat.le_of_ble_eq_true rfl) dX11_init_112 (fun m13 => ?_)
  refine uw_putF (ci := 10) (fl2 := (.int 0 :: .int 0 :: .ref m0 :: .ref m1 :: .ref m2 :: .ref m3 :: .ref m4 :: .ref m5 :: .ref m6 :: .ref m7 :: .ref m8 :: .int 0 :: .ref m9 :: .ref m10 :: .ref m11 :: .ref m12 :: .ref m13 :: .null :: .null :: .null :: .null :: .null :: .int 0 :: .null :: .int 0 :: .null :: .int 0 :: .null :: .int 0 :: .int 0 :: .int 0 :: .int 0 :: .int 0 :: .int 0 :: .int 0 :: .int 0 :: .int 0 :: .null :: .null :: [])) C hni rfl inX11 tyX11 tyX11_ok nmX11 16 (by decide) bw_939 rfl rfl rfl (ty := .array .int) (by decide +kernel) rfl rfl (Nat.le_of_ble_eq_true rfl) rfl dX11_init_114 ?_
  refine uw_aload_n C dX11_init_117 0 rfl ?_
  refine uw_bipush (v := nI 96) C dX11_init_118 (by decide) ?_
  refine uw_newi (N := 96) C (by decide) (by decide) (Nat.le_of_ble_eq_true rfl) (Nat.le_of_ble_eq_true rfl) (Nat.le_of_ble_eq_true rfl) dX11_init_120 (fun m14 => ?_)
  refine uw_putF (ci := 10) (fl2 := (.int 0 :: .int 0 :: .ref m0 :: .ref m1 :: .ref m2 :: .ref m3 :: .ref m4 :: .ref m5 :: .ref m6 :: .ref m7 :: .ref m8 :: .int 0 :: .ref m9 :: .ref m10 :: .ref m11 :: .ref m12 :: .ref m13 :: .ref m14 :: .null :: .null :: .null :: .null :: .int 0 :: .null :: .int 0 :: .null :: .int 0 :: .null :: .int 0 :: .int 0 :: .int 0 :: .int 0 :: .int 0 :: .int 0 :: .int 0 :: .int 0 :: .int 0 :: .null :: .null :: [])) C hni rfl inX11 tyX11 tyX11_ok nmX11 17 (by decide) bw_940 rfl rfl rfl (ty := .array .int) (by decide +kernel) rfl rfl (Nat.le_of_ble_eq_true rfl) rfl dX11_init_122 ?_
  refine uw_aload_n C dX11_init_125 0 rfl ?_
  refine uw_bipush (v := nI 96) C dX11_init_126 (by decide) ?_
  refine uw_newi (N := 96) C (by decide) (by decide) (Nat.le_of_ble_eq_true rfl) (Nat.le_of_ble_eq_true rfl) (Nat.le_of_ble_eq_true rfl) dX11_init_128 (fun m15 => ?_)
  refine uw_putF (ci := 10) (fl2 := (.int 0 :: .int 0 :: .ref m0 :: .ref m1 :: .ref m2 :: .ref m3 :: .ref m4 :: .ref m5 :: .ref m6 :: .ref m7 :: .ref m8 :: .int 0 :: .ref m9 :: .ref m10 :: .ref m11 :: .ref m12 :: .ref m13 :: .ref m14 :: .ref m15 :: .null :: .null :: .null :: .int 0 :: .null :: .int 0 :: .null :: .int 0 :: .null :: .int 0 :: .int 0 :: .int 0 :: .int 0 :: .int 0 :: .int 0 :: .int 0 :: .int 0 :: .int 0 :: .null :: .null :: [])) C hni rfl inX11 tyX11 tyX11_ok nmX11 18 (by decide) bw_941 rfl rfl rfl (ty := .array .int) (by decide +kernel) rfl rfl (Nat.le_of_ble_eq_true rfl) rfl dX11_init_130 ?_
  refine uw_aload_n C dX11_init_133 0 rfl ?_
  refine uw_bipush (v := nI 24) C dX11_init_134 (by decide) ?_
  refine uw_newi (N := 24) C (by decide) (by decide) (Nat.le_of_ble_eq_true rfl) (Nat.le_of_ble_eq_true rfl) (Nat.le_of_ble_eq_true rfl) dX11_init_136 (fun m16 => ?_)
  refine uw_putF (ci := 10) (fl2 := (.int 0 :: .int 0 :: .ref m0 :: .ref m1 :: .ref m2 :: .ref m3 :: .ref m4 :: .ref m5 :: .ref m6 :: .ref m7 :: .ref m8 :: .int 0 :: .ref m9 :: .ref m10 :: .ref m11 :: .ref m12 :: .ref m13 :: .ref m14 :: .ref m15 :: .ref m16 :: .null :: .null :: .int 0 :: .null :: .int 0 :: .null :: .int 0 :: .null :: .int 0 :: .int 0 :: .int 0 :: .int 0 :: .int 0 :: .int 0 :: .int 0 :: .int 0 :: .int 0 :: .null :: .null :: [])) C hni rfl inX11 tyX11 tyX11_ok nmX11 19 (by decide) bw_942 rfl rfl rfl (ty := .array .int) (by decide +kernel) rfl rfl (Nat.le_of_ble_eq_true rfl) rfl dX11_init_138 ?_
  refine uw_aload_n C dX11_init_141 0 rfl ?_
  refine uw_bipush (v := nI 7) C dX11_init_142 (by decide) ?_
  refine uw_newi (N := 7) C (by decide) (by decide) (Nat.le_of_ble_eq_true rfl) (Nat.le_of_ble_eq_true rfl) (Nat.le_of_ble_eq_true rfl) dX11_init_144 (fun m17 => ?_)
  refine uw_putF (ci := 10) (fl2 := (.int 0 :: .int 0 :: .ref m0 :: .ref m1 :: .ref m2 :: .ref m3 :: .ref m4 :: .ref m5 :: .ref m6 :: .ref m7 :: .ref m8 :: .int 0 :: .ref m9 :: .ref m10 :: .ref m11 :: .ref m12 :: .ref m13 :: .ref m14 :: .ref m15 :: .ref m16 :: .ref m17 :: .null :: .int 0 :: .null :: .int 0 :: .null :: .int 0 :: .null :: .int 0 :: .int 0 :: .int 0 :: .int 0 :: .int 0 :: .int 0 :: .int 0 :: .int 0 :: .int 0 :: .null :: .null :: [])) C hni rfl inX11 tyX11 tyX11_ok nmX11 20 (by decide) bw_943 rfl rfl rfl (ty := .array .int) (by decide +kernel) rfl rfl (Nat.le_of_ble_eq_true rfl) rfl dX11_init_146 ?_
  refine uw_aload_n C dX11_init_149 0 rfl ?_
  refine uw_sipush (v := nI 140) C dX11_init_150 (by decide) ?_
  refine uw_newi (N := 140) C (by decide) (by decide) (Nat.le_of_ble_eq_true rfl) (Nat.le_of_ble_eq_true rfl) (Nat.le_of_ble_eq_true rfl) dX11_init_153 (fun m18 => ?_)
  refine uw_putF (ci := 10) (fl2 := (.int 0 :: .int 0 :: .ref m0 :: .ref m1 :: .ref m2 :: .ref m3 :: .ref m4 :: .ref m5 :: .ref m6 :: .ref m7 :: .ref m8 :: .int 0 :: .ref m9 :: .ref m10 :: .ref m11 :: .ref m12 :: .ref m13 :: .ref m14 :: .ref m15 :: .ref m16 :: .ref m17 :: .ref m18 :: .int 0 :: .null :: .int 0 :: .null :: .int 0 :: .null :: .int 0 :: .int 0 :: .int 0 :: .int 0 :: .int 0 :: .int 0 :: .int 0 :: .int 0 :: .int 0 :: .null :: .null :: [])) C hni rfl inX11 tyX11 tyX11_ok nmX11 21 (by decide) bw_944 rfl rfl rfl (ty := .array .int) (by decide +kernel) rfl rfl (Nat.le_of_ble_eq_true rfl) rfl dX11_init_155 ?_
  refine uw_aload_n C dX11_init_158 0 rfl ?_
  refine uw_sipush (v := nI 1500) C dX11_init_159 (by decide) ?_
  refine uw_newi (N := 1500) C (by decide) (by decide) (Nat.le_of_ble_eq_true rfl) (Nat.le_of_ble_eq_true rfl) (Nat.le_of_ble_eq_true rfl) dX11_init_162 (fun m19 => ?_)
  refine uw_putF (ci := 10) (fl2 := (.int 0 :: .int 0 :: .ref m0 :: .ref m1 :: .ref m2 :: .ref m3 :: .ref m4 :: .ref m5 :: .ref m6 :: .ref m7 :: .ref m8 :: .int 0 :: .ref m9 :: .ref m10 :: .ref m11 :: .ref m12 :: .ref m13 :: .ref m14 :: .ref m15 :: .ref m16 :: .ref m17 :: .ref m18 :: .int 0 :: .ref m19 :: .int 0 :: .null :: .int 0 :: .null :: .int 0 :: .int 0 :: .int 0 :: .int 0 :: .int 0 :: .int 0 :: .int 0 :: .int 0 :: .int 0 :: .null :: .null :: [])) C hni rfl inX11 tyX11 tyX11_ok nmX11 23 (by decide) bw_946 rfl rfl rfl (ty := .array .int) (by decide +kernel) rfl rfl (Nat.le_of_ble_eq_true rfl) rfl dX11_init_164 ?_
  refine uw_aload_n C dX11_init_167 0 rfl ?_
  refine uw_sipush (v := nI 1100) C dX11_init_168 (by decide) ?_
  refine uw_newi (N := 1100) C (by decide) (by decide) (Nat.le_of_ble_eq_true rfl) (Nat.le_of_ble_eq_true rfl) (Nat.le_of_ble_eq_true rfl) dX11_init_171 (fun m20 => ?_)
  refine uw_putF (ci := 10) (fl2 := (.int 0 :: .int 0 :: .ref m0 :: .ref m1 :: .ref m2 :: .ref m3 :: .ref m4 :: .ref m5 :: .ref m6 :: .ref m7 :: .ref m8 :: .int 0 :: .ref m9 :: .ref m10 :: .ref m11 :: .ref m12 :: .ref m13 :: .ref m14 :: .ref m15 :: .ref m16 :: .ref m17 :: .ref m18 :: .int 0 :: .ref m19 :: .int 0 :: .ref m20 :: .int 0 :: .null :: .int 0 :: .int 0 :: .int 0 :: .int 0 :: .int 0 :: .int 0 :: .int 0 :: .int 0 :: .int 0 :: .null :: .null :: [])) C hni rfl inX11 tyX11 tyX11_ok nmX11 25 (by decide) bw_948 rfl rfl rfl (ty := .array .int) (by decide +kernel) rfl rfl (Nat.le_of_ble_eq_true rfl) rfl dX11_init_173 ?_
  refine uw_aload_n C dX11_init_176 0 rfl ?_
  refine uw_sipush (v := nI 1100) C dX11_init_177 (by decide) ?_
  refine uw_newi (N := 1100) C (by decide) (by decide) (Nat.le_of_ble_eq_true rfl) (Nat.le_of_ble_eq_true rfl) (Nat.le_of_ble_eq_true rfl) dX11_init_180 (fun m21 => ?_)
  refine uw_putF (ci := 10) (fl2 := (.int 0 :: .int 0 :: .ref m0 :: .ref m1 :: .ref m2 :: .ref m3 :: .ref m4 :: .ref m5 :: .ref m6 :: .ref m7 :: .ref m8 :: .int 0 :: .ref m9 :: .ref m10 :: .ref m11 :: .ref m12 :: .ref m13 :: .ref m14 :: .ref m15 :: .ref m16 :: .ref m17 :: .ref m18 :: .int 0 :: .ref m19 :: .int 0 :: .ref m20 :: .int 0 :: .ref m21 :: .int 0 :: .int 0 :: .int 0 :: .int 0 :: .int 0 :: .int 0 :: .int 0 :: .int 0 :: .int 0 :: .null :: .null :: [])) C hni rfl inX11 tyX11 tyX11_ok nmX11 27 (by decide) bw_950 rfl rfl rfl (ty := .array .int) (by decide +kernel) rfl rfl (Nat.le_of_ble_eq_true rfl) rfl dX11_init_182 ?_
  refine uw_aload_n C dX11_init_185 0 rfl ?_
  refine uw_bipush (v := nI 7) C dX11_init_186 (by decide) ?_
  refine uw_newi (N := 7) C (by decide) (by decide) (Nat.le_of_ble_eq_true rfl) (Nat.le_of_ble_eq_true rfl) (Nat.le_of_ble_eq_true rfl) dX11_init_188 (fun m22 => ?_)
  refine uw_putF (ci := 10) (fl2 := (.int 0 :: .int 0 :: .ref m0 :: .ref m1 :: .ref m2 :: .ref m3 :: .ref m4 :: .ref m5 :: .ref m6 :: .ref m7 :: .ref m8 :: .int 0 :: .ref m9 :: .ref m10 :: .ref m11 :: .ref m12 :: .ref m13 :: .ref m14 :: .ref m15 :: .ref m16 :: .ref m17 :: .ref m18 :: .int 0 :: .ref m19 :: .int 0 :: .ref m20 :: .int 0 :: .ref m21 :: .int 0 :: .int 0 :: .int 0 :: .int 0 :: .int 0 :: .int 0 :: .int 0 :: .int 0 :: .int 0 :: .ref m22 :: .null :: [])) C hni rfl inX11 tyX11 tyX11_ok nmX11 37 (by decide) bw_960 rfl rfl rfl (ty := .array .int) (by decide +kernel) rfl rfl (Nat.le_of_ble_eq_true rfl) rfl dX11_init_190 ?_
  refine uw_aload_n C dX11_init_193 0 rfl ?_
  refine uw_bipush (v := nI 7) C dX11_init_194 (by decide) ?_
  refine uw_newi (N := 7) C (by decide) (by decide) (Nat.le_of_ble_eq_true rfl) (Nat.le_of_ble_eq_true rfl) (Nat.le_of_ble_eq_true rfl) dX11_init_196 (fun m23 => ?_)
  refine uw_putF (ci := 10) (fl2 := (.int 0 :: .int 0 :: .ref m0 :: .ref m1 :: .ref m2 :: .ref m3 :: .ref m4 :: .ref m5 :: .ref m6 :: .ref m7 :: .ref m8 :: .int 0 :: .ref m9 :: .ref m10 :: .ref m11 :: .ref m12 :: .ref m13 :: .ref m14 :: .ref m15 :: .ref m16 :: .ref m17 :: .ref m18 :: .int 0 :: .ref m19 :: .int 0 :: .ref m20 :: .int 0 :: .ref m21 :: .int 0 :: .int 0 :: .int 0 :: .int 0 :: .int 0 :: .int 0 :: .int 0 :: .int 0 :: .int 0 :: .ref m22 :: .ref m23 :: [])) C hni rfl inX11 tyX11 tyX11_ok nmX11 38 (by decide) bw_961 rfl rfl rfl (ty := .array .int) (by decide +kernel) rfl rfl (Nat.le_of_ble_eq_true rfl) rfl dX11_init_198 ?_
  refine uw_widen (c2 := 24) (s2 := 4836) (Nat.le_of_ble_eq_true rfl) (Nat.le_of_ble_eq_true rfl) ?_
  refine uw_nret C N hrt dX11_init_201 ?_
  refine ⟨z_of (m0 :: m1 :: m2 :: m3 :: m4 :: m5 :: m6 :: m7 :: m8 :: m9 :: m10 :: m11 :: m12 :: m13 :: m14 :: m15 :: m16 :: m17 :: m18 :: m19 :: m20 :: m21 :: m22 :: m23 :: []), ?_⟩
  simp only [List.append_eq, List.nil_append, List.cons_append]
  rfl)
