/-! a font's constructor -/
abbrev rm_rs : Room := { frames := 0, cells := 0, slots := 0, locals := 0 }
theorem ok_X3_rowSize : SOK yX3_rowSize cX3_rowSize 1 (some .int) 1 := ⟨bw_196, bw_67, bw_197, by decide +kernel⟩
set_option maxHeartbeats 4000000 in
set_option maxRecDepth 100000 in
theorem cu_rowSize {l : Launch} {g : Gx} {i : Nat} (hi : i < 7) : CUi g l yX3_rowSize cX3_rowSize 1 rm_rs [.int (nI i)] (nI (rowCap i)) := fun w => cu_entry (own := RX3) (plainFor_of_name (by decide)) rfl (Nat.le_of_ble_eq_true rfl) rfl (fun f hf C N hrt hni => by
  subst hf
  refine uw_iload_n C dX3_rowSize_0 0 rfl ?_
  rcases (show i = 0 ∨ i = 1 ∨ i = 2 ∨ i = 3 ∨ i = 4 ∨ i = 5 ∨ i = 6 by omega) with rfl | rfl | rfl | rfl | rfl | rfl | rfl
  · refine uw_look (off := 27) (tgt := 28) C dX3_rowSize_1 (by decide) (by decide) (by decide) ?_
    refine uw_sipush (v := nI 516) C dX3_rowSize_28 (by decide) ?_
    exact uw_iret C N hrt dX3_rowSize_31 rfl
  · refine uw_look (off := 31) (tgt := 32) C dX3_rowSize_1 (by decide) (by decide) (by decide) ?_
    refine uw_bipush (v := nI 24) C dX3_rowSize_32 (by decide) ?_
    exact uw_iret C N hrt dX3_rowSize_34 rfl
  all_goals
    refine uw_look (off := 34) (tgt := 35) C dX3_rowSize_1 (by decide) (by decide) (by decide) ?_
    refine uw_bipush (v := nI 20) C dX3_rowSize_35 (by decide) ?_
    exact uw_iret C N hrt dX3_rowSize_37 rfl)
abbrev rm_font : Room := { frames := 3, cells := 70, slots := 4029, locals := 55 }
theorem rowCap_le (i : Nat) : rowCap i ≤ 516 := by unfold rowCap; split <;> (try split) <;> omega
section FT
variable {f : Fx} {g : Gx} {w0 tl : va_W} {q x y i c s : Nat} {F F2 : Nat → Option Nat} {Q : State → Prop}
def ftW (g : Gx) (q x y : Nat) (F F2 : Nat → Option Nat) (tl : va_W) : va_W := (q, .inr (3, [.ref x, .ref y, .int 0])) :: (x, .inl (g.2.1.2.2.2.1, (6, .inr (.inr (.inr (.inr F)))))) :: (y, .inl (g.2.1.2.2.2.2, (7, .inr (.inr (.inr (.inr F2)))))) :: tl
set_option maxHeartbeats 4000000 in
set_option maxRecDepth 100000 in
theorem font_t1 (C : Cx f g cX3_init 2 RX3) (N : NU (fs f)) (hi : i < 6) (hc : c + 9 ≤ 70) (hs : s + 65 ≤ 4029) (k : ∀ p z, UW f rm_font g 2 (c + 9) (s + 65) Q (w0 ++ ftW g q x y (va_up F i (some p)) F2 (tl ++ glC g p z)) 29 [(1, .int (nI (i + 1))), (0, .ref q)] []) : UW f rm_font g 2 c s Q (w0 ++ ftW g q x y F F2 tl) 29 [(1, .int (nI i)), (0, .ref q)] [] := by
  refine uw_iload_n C dX3_init_29 0 rfl ?_
  refine uw_aload_n C dX3_init_30 1 rfl ?_
  refine uw_get C rfl inX3 0 (by decide) bw_199 rfl rfl dX3_init_31 ?_
  refine uw_alen C 1 rfl 3 rfl (v := nI 6) rfl dX3_init_34 ?_
  refine uw_icmp_ge (tgt := 57) C dX3_init_35 (by decide) (fun h => absurd ((nI_leI (by omega) (by omega)).mp h) (by omega)) (fun _ => ?_)
  refine uw_aload_n C dX3_init_38 1 rfl ?_
  refine uw_get C rfl inX3 0 (by decide) bw_199 rfl rfl dX3_init_39 ?_
  refine uw_iload_n C dX3_init_42 0 rfl ?_
  refine uw_new (ci := 4) (fl := [.null, .null, .null, .null, .int 0]) C rfl inX4 tyX4 tyX4_ok bw_168 bw_172 bw_68 (fun j hj => by rcases (show j = 0 ∨ j = 1 ∨ j = 2 ∨ j = 3 ∨ j = 4 by omega) with rfl | rfl | rfl | rfl | rfl <;> rfl) (by show c + 1 ≤ 70; omega) (by show s + 5 ≤ 4029; omega) dX3_init_43 (fun p => ?_)
  refine uw_dup C dX3_init_46 rfl ?_
  refine uw_cN (As := []) (rest := [.ref p, .int (nI i), .ref x]) C N ok_X4_init N.2.2.2.1 dX3_init_47 cu_glyph rfl ⟨Nat.le_of_ble_eq_true rfl, Nat.le_of_ble_eq_true rfl⟩ (Nat.le_of_ble_eq_true rfl) (c2 := c + 9) (s2 := s + 65) rfl rfl ⟨hc, hs⟩ rfl (fun u hu => ?_)
  obtain ⟨z, rfl⟩ := hu
  refine uw_ast C 1 rfl 3 rfl (r := (RX4, TX4, 5)) (ci := 4) (vs := [.ref (z 0), .ref (z 2), .ref (z 4), .ref (z 6), .int 0]) (by simp [glC]) rfl (nI_clamp (by omega)) (vp_in_nI (by omega) (by omega)) rfl dX3_init_50 ?_
  refine uw_iinc (v := nI (i + 1)) C dX3_init_51 0 rfl (nI_1 i) (Nat.le_of_ble_eq_true rfl) rfl ?_
  refine uw_goto (tgt := 29) C dX3_init_54 (by decide) ?_
  exact k p z
set_option maxHeartbeats 4000000 in
set_option maxRecDepth 100000 in
theorem font_t2 (C : Cx f g cX3_init 2 RX3) (N : NU (fs f)) (hi : i < 7) (hc : c + 2 ≤ 70) (hs : s + 518 ≤ 4029) (k : ∀ p a, UW f rm_font g 2 (c + 2) (s + 518) Q (w0 ++ ftW g q x y F (va_up F2 i (some p)) (tl ++ rwC g p a (rowCap i))) 59 [(1, .int (nI (i + 1))), (0, .ref q)] []) : UW f rm_font g 2 c s Q (w0 ++ ftW g q x y F F2 tl) 59 [(1, .int (nI i)), (0, .ref q)] [] := by
  have hcap := rowCap_le i
  refine uw_iload_n C dX3_init_59 0 rfl ?_
  refine uw_aload_n C dX3_init_60 1 rfl ?_
  refine uw_get C rfl inX3 1 (by decide) bw_200 rfl rfl dX3_init_61 ?_
  refine uw_alen C 2 rfl 4 rfl (v := nI 7) rfl dX3_init_64 ?_
  refine uw_icmp_ge (tgt := 91) C dX3_init_65 (by decide) (fun h => absurd ((nI_leI (by omega) (by omega)).mp h) (by omega)) (fun _ => ?_)
  refine uw_aload_n C dX3_init_68 1 rfl ?_
  refine uw_get C rfl inX3 1 (by decide) bw_200 rfl rfl dX3_init_69 ?_
  refine uw_iload_n C dX3_init_72 0 rfl ?_
  refine uw_new (ci := 7) (fl := [.null, .int 0]) C rfl inX8 tyX8 tyX8_ok bw_170 bw_89 bw_62 (fun j hj => by rcases (show j = 0 ∨ j = 1 by omega) with rfl | rfl <;> rfl) (by show c + 1 ≤ 70; omega) (by show s + 2 ≤ 4029; omega) dX3_init_73 (fun p => ?_)
  refine uw_dup C dX3_init_76 rfl ?_
  refine uw_iload_n C dX3_init_77 0 rfl ?_
  refine uw_cS (As := [.int (nI i)]) (rest := [.ref p, .ref p, .int (nI i), .ref y]) C N ok_X3_rowSize bw_195 dX3_init_78 (cu_rowSize hi) rfl ⟨Nat.le_of_ble_eq_true rfl, Nat.le_of_ble_eq_true rfl⟩ (Nat.le_of_ble_eq_true rfl) (c2 := c + 1) (s2 := s + 2) rfl rfl ⟨by show c + 1 ≤ 70; omega, by show s + 2 ≤ 4029; omega⟩ rfl ?_
  refine uw_cI (As := [.int (nI (rowCap i))]) (rest := [.ref p, .int (nI i), .ref y]) C N ok_X8_init bw_198 dX3_init_81 (cu_row (n := rowCap i) (by omega)) rfl ⟨Nat.le_of_ble_eq_true rfl, Nat.le_of_ble_eq_true rfl⟩ (Nat.le_of_ble_eq_true rfl) (c2 := c + 2) (s2 := s + 2 + rowCap i) rfl rfl ⟨hc, by show s + 2 + rowCap i ≤ 4029; omega⟩ rfl (fun u hu => ?_)
  obtain ⟨a, rfl⟩ := hu
  refine uw_ast C 2 rfl 4 rfl (r := (RX8, TX8, 2)) (ci := 7) (vs := [.ref a, .int 0]) (by simp [rwC]) rfl (nI_clamp (by omega)) (vp_in_nI (by omega) (by omega)) rfl dX3_init_84 ?_
  refine uw_iinc (v := nI (i + 1)) C dX3_init_85 0 rfl (nI_1 i) (Nat.le_of_ble_eq_true rfl) rfl ?_
  refine uw_goto (tgt := 59) C dX3_init_88 (by decide) ?_
  exact uw_widen (Nat.le_refl _) (by omega) (k p a)
set_option maxHeartbeats 4000000 in
set_option maxRecDepth 100000 in
theorem cu_font {l : Launch} : CUn g l yX3_init cX3_init 2 rm_font [.ref q] (q, .inr (3, [.null, .null, .int 0])) (isFont g q) := fun w0 => cu_entry (own := RX3) (plainFor_of_name (by decide)) rfl (Nat.le_of_ble_eq_true rfl) rfl (fun f hf C N hrt hni => by
  subst hf
  refine uw_aload_n C dX3_init_0 0 rfl ?_
  refine uw_obj C bw_167 dX3_init_1 (Nat.le_of_ble_eq_true rfl) (Nat.le_of_ble_eq_true rfl) ?_
  refine uw_aload_n C dX3_init_4 0 rfl ?_
  refine uw_bipush (v := nI 6) C dX3_init_5 (by decide) ?_
  refine uw_newq (N := 6) C bw_168 N.2.2.2.2.1 3 rfl (by decide) (by decide) (Nat.le_of_ble_eq_true rfl) (Nat.le_of_ble_eq_true rfl) (Nat.le_of_ble_eq_true rfl) dX3_init_7 (fun x => ?_)
  refine uw_putF (ci := 3) (fl2 := [.ref x, .null, .int 0]) C hni rfl inX3 tyX3 tyX3_ok nmX3 0 (by decide) bw_199 rfl rfl rfl (ty := .array (.object "FontPacker$Glyph")) (by decide +kernel) rfl rfl (Nat.le_of_ble_eq_true rfl) rfl dX3_init_10 ?_
  refine uw_aload_n C dX3_init_13 0 rfl ?_
  refine uw_bipush (v := nI 7) C dX3_init_14 (by decide) ?_
  refine uw_newq (N := 7) C bw_170 N.2.2.2.2.2 4 rfl (by decide) (by decide) (Nat.le_of_ble_eq_true rfl) (Nat.le_of_ble_eq_true rfl) (Nat.le_of_ble_eq_true rfl) dX3_init_16 (fun y => ?_)
  refine uw_putF (ci := 3) (fl2 := [.ref x, .ref y, .int 0]) C hni rfl inX3 tyX3 tyX3_ok nmX3 1 (by decide) bw_200 rfl rfl rfl (ty := .array (.object "FontPacker$Row")) (by decide +kernel) rfl rfl (Nat.le_of_ble_eq_true rfl) rfl dX3_init_19 ?_
  refine uw_aload_n C dX3_init_22 0 rfl ?_
  refine uw_iconst (v := 0) C dX3_init_23 (by decide) ?_
  refine uw_put (ci := 3) (fl2 := [.ref x, .ref y, .int 0]) C rfl inX3 tyX3 tyX3_ok nmX3 2 (by decide) bw_201 rfl rfl (ty := .int) (by decide +kernel) rfl rfl (Nat.le_of_ble_eq_true rfl) rfl dX3_init_24 ?_
  refine uw_iconst (v := nI 0) C dX3_init_27 (by decide) ?_
  refine uw_istore_n (i := 1) C dX3_init_28 rfl (Nat.le_of_ble_eq_true rfl) rfl ?_
  refine font_t1 (i := 0) (tl := []) (c := 2) (s := 13) C N (by omega) (by omega) (by omega) (fun p0 z0 => ?_)
  refine font_t1 (i := 1) (c := 11) (s := 78) C N (by omega) (by omega) (by omega) (fun p1 z1 => ?_)
  refine font_t1 (i := 2) (c := 20) (s := 143) C N (by omega) (by omega) (by omega) (fun p2 z2 => ?_)
  refine font_t1 (i := 3) (c := 29) (s := 208) C N (by omega) (by omega) (by omega) (fun p3 z3 => ?_)
  refine font_t1 (i := 4) (c := 38) (s := 273) C N (by omega) (by omega) (by omega) (fun p4 z4 => ?_)
  refine font_t1 (i := 5) (c := 47) (s := 338) C N (by omega) (by omega) (by omega) (fun p5 z5 => ?_)
  refine uw_iload_n C dX3_init_29 0 rfl ?_
  refine uw_aload_n C dX3_init_30 1 rfl ?_
  refine uw_get C rfl inX3 0 (by decide) bw_199 rfl rfl dX3_init_31 ?_
  refine uw_alen C 1 rfl 3 rfl (v := nI 6) rfl dX3_init_34 ?_
  refine uw_icmp_ge (tgt := 57) C dX3_init_35 (by decide) (fun _ => ?_) (fun h => absurd ((nI_leI (a := 6) (b := 6) (by omega) (by omega)).mpr (by omega)) h)
  refine uw_iconst (v := nI 0) C dX3_init_57 (by decide) ?_
  refine uw_istore_n (i := 1) C dX3_init_58 rfl (Nat.le_of_ble_eq_true rfl) rfl ?_
  refine font_t2 (i := 0) (c := 56) (s := 403) C N (by omega) (by omega) (by omega) (fun r0 a0 => ?_)
  refine font_t2 (i := 1) (c := 58) (s := 921) C N (by omega) (by omega) (by omega) (fun r1 a1 => ?_)
  refine font_t2 (i := 2) (c := 60) (s := 1439) C N (by omega) (by omega) (by omega) (fun r2 a2 => ?_)
  refine font_t2 (i := 3) (c := 62) (s := 1957) C N (by omega) (by omega) (by omega) (fun r3 a3 => ?_)
  refine font_t2 (i := 4) (c := 64) (s := 2475) C N (by omega) (by omega) (by omega) (fun r4 a4 => ?_)
  refine font_t2 (i := 5) (c := 66) (s := 2993) C N (by omega) (by omega) (by omega) (fun r5 a5 => ?_)
  refine font_t2 (i := 6) (c := 68) (s := 3511) C N (by omega) (by omega) (by omega) (fun r6 a6 => ?_)
  refine uw_iload_n C dX3_init_59 0 rfl ?_
  refine uw_aload_n C dX3_init_60 1 rfl ?_
  refine uw_get C rfl inX3 1 (by decide) bw_200 rfl rfl dX3_init_61 ?_
  refine uw_alen C 2 rfl 4 rfl (v := nI 7) rfl dX3_init_64 ?_
  refine uw_icmp_ge (tgt := 91) C dX3_init_65 (by decide) (fun _ => ?_) (fun h => absurd ((nI_leI (a := 7) (b := 7) (by omega) (by omega)).mpr (by omega)) h)
  refine uw_acg 1 (F2 := fun k => some (z_of [p0, p1, p2, p3, p4, p5] k)) rfl (fun k hk => by rcases (show k = 0 ∨ k = 1 ∨ k = 2 ∨ k = 3 ∨ k = 4 ∨ k = 5 by omega) with rfl | rfl | rfl | rfl | rfl | rfl <;> rfl) rfl ?_
  refine uw_acg 2 (F2 := fun k => some (z_of [r0, a0, r1, a1, r2, a2, r3, a3, r4, a4, r5, a5, r6, a6] (2 * k))) rfl (fun k hk => by rcases (show k = 0 ∨ k = 1 ∨ k = 2 ∨ k = 3 ∨ k = 4 ∨ k = 5 ∨ k = 6 by omega) with rfl | rfl | rfl | rfl | rfl | rfl | rfl <;> rfl) rfl ?_
  exact uw_nret C N hrt dX3_init_91 ⟨x, y, z_of [p0, p1, p2, p3, p4, p5], fun i => [z0, z1, z2, z3, z4, z5].getD i z0, z_of [r0, a0, r1, a1, r2, a2, r3, a3, r4, a4, r5, a5, r6, a6], rfl⟩)
end FT
