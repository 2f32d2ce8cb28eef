abbrev rm_X6_writePacked : Room := { frames := 5, cells := 1, slots := 3, locals := 116 }
theorem ok_X6_writePacked : MOK yX6_writePacked RX6 cX6_writePacked 7 none 2 := ⟨bw_463, bw_464, bw_64, bw_465, by decide +kernel⟩
def st_X6_writePacked_65 (T0 : List (Nat × Nat × Nat)) (j : Nat) (r : Nat) (P : St → Prop) (X65 : St → Int32 → Int32 → Int32 → Prop) (X116 : St → Int32 → Int32 → Int32 → Nat → Int32 → Prop) (X128 : St → Int32 → Int32 → Int32 → Nat → Prop) (X146 : St → Int32 → Int32 → Int32 → Prop) (S : St) (v3 : Int32) (v4 : Int32) (v5 : Int32) : Prop :=
  ((7 ≤ v5 → ∀ S32 : St, S32 = rLong S r (rLen S 64) → ∀ n164 : Nat, (∀ t ∈ S32.2.2.1, t.1 ≠ n164) → ∀ S33 : St, S33 = stT S32 (S32.2.2.1 ++ [(n164, 4, 0)]) → ∀ S34 : St, S34 = cIni S33 n164 1 r → wp_X6_compressStream S34 n164 r (fun S35 => P (stT S35 T0))) ∧ (¬ 7 ≤ v5 → wp_X3_hasTable S j v5 (fun r38 S37 => ((r38 = 0 → X146 S37 v3 v4 v5) ∧ (¬ r38 = 0 → ((2 ≤ v5 → ∀ S41 : St, S41 = rAdd S37 r v5 → X128 S41 v3 v4 v5 (rwId S37 j v5)) ∧ (¬ 2 ≤ v5 → ∀ S42 : St, S42 = rAdd S37 r (v5 + 64) → ((¬ v5 = 0 → X116 S42 v3 v4 v5 (rwId S37 j v5) v4) ∧ (v5 = 0 → X116 S42 v3 v4 v5 (rwId S37 j v5) v3)))))))))
def st_X6_writePacked_116 (T0 : List (Nat × Nat × Nat)) (j : Nat) (r : Nat) (P : St → Prop) (X65 : St → Int32 → Int32 → Int32 → Prop) (X116 : St → Int32 → Int32 → Int32 → Nat → Int32 → Prop) (X128 : St → Int32 → Int32 → Int32 → Nat → Prop) (X146 : St → Int32 → Int32 → Int32 → Prop) (S : St) (v3 : Int32) (v4 : Int32) (v5 : Int32) (v6 : Nat) (s0 : Int32) : Prop :=
  ∀ S44 : St, S44 = rLong S r s0 → X128 S44 v3 v4 v5 v6
def st_X6_writePacked_128 (T0 : List (Nat × Nat × Nat)) (j : Nat) (r : Nat) (P : St → Prop) (X65 : St → Int32 → Int32 → Int32 → Prop) (X116 : St → Int32 → Int32 → Int32 → Nat → Int32 → Prop) (X128 : St → Int32 → Int32 → Int32 → Nat → Prop) (X146 : St → Int32 → Int32 → Int32 → Prop) (S : St) (v3 : Int32) (v4 : Int32) (v5 : Int32) (v6 : Nat) : Prop :=
  ∀ S45 : St, S45 = rLong S r (rLen S v6) → (neRow S45 64 v6 ∧ ∀ S46 : St, S46 = rAddRow S45 64 v6 → X146 S46 v3 v4 v5)
def st_X6_writePacked_146 (T0 : List (Nat × Nat × Nat)) (j : Nat) (r : Nat) (P : St → Prop) (X65 : St → Int32 → Int32 → Int32 → Prop) (X116 : St → Int32 → Int32 → Int32 → Nat → Int32 → Prop) (X128 : St → Int32 → Int32 → Int32 → Nat → Prop) (X146 : St → Int32 → Int32 → Int32 → Prop) (S : St) (v3 : Int32) (v4 : Int32) (v5 : Int32) : Prop :=
  ∀ x47 : Int32, x47 = v5 + 1 → X65 S v3 v4 x47
def at_X6_writePacked_65 (f : Fx) (g : Gx) (T0 : List (Nat × Nat × Nat)) (j : Nat) (r : Nat) (P : St → Prop) (S : St) (v3 : Int32) (v4 : Int32) (v5 : Int32) : Prop := S.2.2.1 = T0 → WW f rm_X6_writePacked g 7 0 0 (Qv f g 1 3 T0 P) S 65 [(0, .ref (gad g 155)), (1, .ref (gad g (148 + j))), (2, .ref (gad g r)), (3, .int v3), (4, .int v4), (5, .int v5)] []
def at_X6_writePacked_116 (f : Fx) (g : Gx) (T0 : List (Nat × Nat × Nat)) (j : Nat) (r : Nat) (P : St → Prop) (S : St) (v3 : Int32) (v4 : Int32) (v5 : Int32) (v6 : Nat) (s0 : Int32) : Prop := S.2.2.1 = T0 → v6 < 68 → WW f rm_X6_writePacked g 7 0 0 (Qv f g 1 3 T0 P) S 116 [(0, .ref (gad g 155)), (1, .ref (gad g (148 + j))), (2, .ref (gad g r)), (3, .int v3), (4, .int v4), (5, .int v5), (6, .ref (gad g v6))] [.int s0, .ref (gad g r)]
def at_X6_writePacked_128 (f : Fx) (g : Gx) (T0 : List (Nat × Nat × Nat)) (j : Nat) (r : Nat) (P : St → Prop) (S : St) (v3 : Int32) (v4 : Int32) (v5 : Int32) (v6 : Nat) : Prop := S.2.2.1 = T0 → v6 < 68 → WW f rm_X6_writePacked g 7 0 0 (Qv f g 1 3 T0 P) S 128 [(0, .ref (gad g 155)), (1, .ref (gad g (148 + j))), (2, .ref (gad g r)), (3, .int v3), (4, .int v4), (5, .int v5), (6, .ref (gad g v6))] []
def at_X6_writePacked_146 (f : Fx) (g : Gx) (T0 : List (Nat × Nat × Nat)) (j : Nat) (r : Nat) (P : St → Prop) (S : St) (v3 : Int32) (v4 : Int32) (v5 : Int32) : Prop := S.2.2.1 = T0 → WW f rm_X6_writePacked g 7 0 0 (Qv f g 1 3 T0 P) S 146 [(0, .ref (gad g 155)), (1, .ref (gad g (148 + j))), (2, .ref (gad g r)), (3, .int v3), (4, .int v4), (5, .int v5)] []
set_option maxHeartbeats 4000000 in
set_option maxRecDepth 100000 in
theorem run_X6_writePacked_65 {f : Fx} {g : Gx} {T0 : List (Nat × Nat × Nat)} {S : St} {j : Nat} {r : Nat} {P : St → Prop} (C : Cx f g cX6_writePacked 7 RX6) (hrt : (fmeth f).sig.returnType = none) (hj : j < 2) (hr : r < 68) {v3 : Int32} {v4 : Int32} {v5 : Int32} (h : st_X6_writePacked_65 T0 j r P (at_X6_writePacked_65 f g T0 j r P) (at_X6_writePacked_116 f g T0 j r P) (at_X6_writePacked_128 f g T0 j r P) (at_X6_writePacked_146 f g T0 j r P) S v3 v4 v5) : at_X6_writePacked_65 f g T0 j r P S v3 v4 v5 := by
  intro hT 
  unfold st_X6_writePacked_65 at h
  refine ww_iload C dX6_writePacked_65 5 rfl ?_
  refine ww_bipush (v := 7) C dX6_writePacked_67 (by decide) ?_
  refine ww_icmp_ge (tgt := 152) C dX6_writePacked_69 (by decide) (fun q31 => ?_) (fun q31 => ?_)
  · replace h := h.1 q31
    refine ww_aload_n C dX6_writePacked_152 2 rfl ?_
    refine ww_aload_n C dX6_writePacked_153 0 rfl ?_
    refine gf_PackedWriter_stream C bw_126 dX6_writePacked_154 ?_
    refine ww_cVf (As := []) (rest := [.ref (gad g r)]) C ok_X8_length bw_528 dX6_writePacked_157 (cm_X8_length (by decide)) (rc_Row (by decide)) rfl ⟨Nat.le_of_ble_eq_true rfl, Nat.le_of_ble_eq_true rfl⟩ (Nat.le_of_ble_eq_true rfl) (c2 := 0) (s2 := 0) rfl rfl ⟨Nat.le_of_ble_eq_true rfl, Nat.le_of_ble_eq_true rfl⟩ rfl ?_
    refine ww_cVg (As := [.int (rLen S 64)]) (rest := []) C ok_X8_addLong bw_576 dX6_writePacked_160 (cm_X8_addLong hr) (rc_Row hr) rfl ⟨Nat.le_of_ble_eq_true rfl, Nat.le_of_ble_eq_true rfl⟩ (Nat.le_of_ble_eq_true rfl) (c2 := 0) (s2 := 0) rfl rfl ⟨Nat.le_of_ble_eq_true rfl, Nat.le_of_ble_eq_true rfl⟩ rfl (fun hTg => ?_)
    refine ww_nm (fun S32 e_S32 => ?_)
    replace h := h S32 e_S32
    have hT_S32 : S32.2.2.1 = T0 := by rw [e_S32, hTg]; exact hT
    refine ww_aload_n C dX6_writePacked_163 0 rfl ?_
    refine ww_newWriter C bw_581 (Nat.le_of_ble_eq_true rfl) (Nat.le_of_ble_eq_true rfl) dX6_writePacked_164 (fun n164 hf_n164 => ?_)
    replace h := h n164 hf_n164
    rw [hT_S32] at hf_n164
    refine ww_nm (fun S33 e_S33 => ?_)
    replace h := h S33 e_S33
    have hT_S33 : S33.2.2.1 = T0 ++ [(n164, 4, 0)] := by rw [e_S33]; show S32.2.2.1 ++ _ = _; simp [hT_S32]
    refine ww_dup C dX6_writePacked_167 rfl ?_
    refine ww_aload_n C dX6_writePacked_168 2 rfl ?_
    refine ww_cIn (As := [.ref (gad g r)]) (rest := [.ref n164, .ref (gad g 155)]) C ok_X1_init bw_583 dX6_writePacked_169 (cm_X1_init (by rw [hT_S33]; simp) hr) rfl ⟨Nat.le_of_ble_eq_true rfl, Nat.le_of_ble_eq_true rfl⟩ (Nat.le_of_ble_eq_true rfl) (c2 := 1) (s2 := 3) rfl rfl ⟨Nat.le_of_ble_eq_true rfl, Nat.le_of_ble_eq_true rfl⟩ rfl ?_
    refine ww_nm (fun S34 e_S34 => ?_)
    replace h := h S34 e_S34
    have hT_S34 : S34.2.2.1 = T0 ++ [(n164, 1, r)] := by rw [e_S34]; show tlSet S33.2.2.1 _ = _; rw [hT_S33]; simpa using tlSet_push (k := 4) (o := 0) (k2 := 1) (r := r) hf_n164
    refine ww_cVv (As := [.ref n164]) (rest := []) C ok_X6_compressStream bw_597 dX6_writePacked_172 (run_X6_compressStream (c := n164) (r := r) (by rw [hT_S34]; exact (by simp)) hr (fun _ => h)) rc_PackedWriter rfl ⟨Nat.le_of_ble_eq_true rfl, Nat.le_of_ble_eq_true rfl⟩ (Nat.le_of_ble_eq_true rfl) (c2 := 1) (s2 := 3) rfl rfl ⟨Nat.le_of_ble_eq_true rfl, Nat.le_of_ble_eq_true rfl⟩ rfl (fun S35 hp hTg => ?_)
    replace h := hp
    have hT_S35 : S35.2.2.1 = T0 ++ [(n164, 1, r)] := by rw [hTg]; exact hT_S34
    refine ww_drop (T0 := T0) (show S35.2.2.1 = T0 ++ [(n164, 1, r)] by rw [hT_S35]) ?_
    exact ww_vret C hrt dX6_writePacked_175 rfl h
  · replace h := h.2 q31
    refine ww_aload_n C dX6_writePacked_72 1 rfl ?_
    refine ww_iload C dX6_writePacked_73 5 rfl ?_
    refine ww_cVi (As := [.int v5]) (rest := []) C ok_X3_hasTable bw_575 dX6_writePacked_75 (run_X3_hasTable hj (fun _ => h)) (rc_Font hj) rfl ⟨Nat.le_of_ble_eq_true rfl, Nat.le_of_ble_eq_true rfl⟩ (Nat.le_of_ble_eq_true rfl) (c2 := 0) (s2 := 0) rfl rfl ⟨Nat.le_of_ble_eq_true rfl, Nat.le_of_ble_eq_true rfl⟩ rfl (fun r38 S37 hp hTg => ?_)
    replace h := hp
    have hT_S37 : S37.2.2.1 = T0 := by rw [hTg]; exact hT
    refine ww_if_eq (tgt := 146) C dX6_writePacked_78 (by decide) (fun q39 => ?_) (fun q39 => ?_)
    · replace h := h.1 q39
      exact ww_sub [0, 1, 2, 3, 4, 5] rfl (h hT_S37)
    · replace h := h.2 q39
      refine ww_aload_n C dX6_writePacked_81 1 rfl ?_
      refine ww_iload C dX6_writePacked_82 5 rfl ?_
      refine ww_cVr (As := [.int v5]) (rest := []) C ok_X3_tableRow bw_527 dX6_writePacked_84 (cm_X3_tableRow hj) (rc_Font hj) rfl ⟨Nat.le_of_ble_eq_true rfl, Nat.le_of_ble_eq_true rfl⟩ (Nat.le_of_ble_eq_true rfl) (c2 := 0) (s2 := 0) rfl rfl ⟨Nat.le_of_ble_eq_true rfl, Nat.le_of_ble_eq_true rfl⟩ rfl ?_
      refine ww_astore (lv2 := [(6, .ref (gad g (rwId S37 j v5))), (0, .ref (gad g 155)), (1, .ref (gad g (148 + j))), (2, .ref (gad g r)), (3, .int v3), (4, .int v4), (5, .int v5)]) C dX6_writePacked_87 (Nat.le_of_ble_eq_true rfl) rfl ?_
      refine ww_iload C dX6_writePacked_89 6 rfl ?_
      refine ww_iconst (v := 2) C dX6_writePacked_91 (by decide) ?_
      refine ww_icmp_ge (tgt := 122) C dX6_writePacked_92 (by decide) (fun q40 => ?_) (fun q40 => ?_)
      · replace h := h.1 q40
        refine ww_aload_n C dX6_writePacked_122 3 rfl ?_
        refine ww_iload C dX6_writePacked_123 6 rfl ?_
        refine ww_cVg (As := [.int v5]) (rest := []) C ok_X8_add bw_564 dX6_writePacked_125 (cm_X8_add hr) (rc_Row hr) rfl ⟨Nat.le_of_ble_eq_true rfl, Nat.le_of_ble_eq_true rfl⟩ (Nat.le_of_ble_eq_true rfl) (c2 := 0) (s2 := 0) rfl rfl ⟨Nat.le_of_ble_eq_true rfl, Nat.le_of_ble_eq_true rfl⟩ rfl (fun hTg => ?_)
        refine ww_nm (fun S41 e_S41 => ?_)
        replace h := h S41 e_S41
        have hT_S41 : S41.2.2.1 = T0 := by rw [e_S41, hTg]; exact hT_S37
        exact ww_sub [1, 2, 3, 4, 5, 6, 0] rfl (h hT_S41 (rwId_lt hj))
      · replace h := h.2 q40
        refine ww_aload_n C dX6_writePacked_95 3 rfl ?_
        refine ww_iload C dX6_writePacked_96 6 rfl ?_
        refine ww_bipush (v := 64) C dX6_writePacked_98 (by decide) ?_
        refine ww_iadd C dX6_writePacked_100 ?_
        refine ww_cVg (As := [.int (v5 + 64)]) (rest := []) C ok_X8_add bw_564 dX6_writePacked_101 (cm_X8_add hr) (rc_Row hr) rfl ⟨Nat.le_of_ble_eq_true rfl, Nat.le_of_ble_eq_true rfl⟩ (Nat.le_of_ble_eq_true rfl) (c2 := 0) (s2 := 0) rfl rfl ⟨Nat.le_of_ble_eq_true rfl, Nat.le_of_ble_eq_true rfl⟩ rfl (fun hTg => ?_)
        refine ww_nm (fun S42 e_S42 => ?_)
        replace h := h S42 e_S42
        have hT_S42 : S42.2.2.1 = T0 := by rw [e_S42, hTg]; exact hT_S37
        refine ww_aload_n C dX6_writePacked_104 3 rfl ?_
        refine ww_iload C dX6_writePacked_105 6 rfl ?_
        refine ww_if_ne (tgt := 114) C dX6_writePacked_107 (by decide) (fun q43 => ?_) (fun q43 => ?_)
        · replace h := h.1 q43
          refine ww_iload C dX6_writePacked_114 5 rfl ?_
          exact ww_sub [1, 2, 3, 4, 5, 6, 0] rfl (h hT_S42 (rwId_lt hj))
        · replace h := h.2 q43
          refine ww_iload_n C dX6_writePacked_110 4 rfl ?_
          refine ww_goto (tgt := 116) C dX6_writePacked_111 (by decide) ?_
          exact ww_sub [1, 2, 3, 4, 5, 6, 0] rfl (h hT_S42 (rwId_lt hj))
set_option maxHeartbeats 4000000 in
set_option maxRecDepth 100000 in
theorem run_X6_writePacked_116 {f : Fx} {g : Gx} {T0 : List (Nat × Nat × Nat)} {S : St} {j : Nat} {r : Nat} {P : St → Prop} (C : Cx f g cX6_writePacked 7 RX6) (hrt : (fmeth f).sig.returnType = none) (hj : j < 2) (hr : r < 68) {v3 : Int32} {v4 : Int32} {v5 : Int32} {v6 : Nat} {s0 : Int32} (h : st_X6_writePacked_116 T0 j r P (at_X6_writePacked_65 f g T0 j r P) (at_X6_writePacked_116 f g T0 j r P) (at_X6_writePacked_128 f g T0 j r P) (at_X6_writePacked_146 f g T0 j r P) S v3 v4 v5 v6 s0) : at_X6_writePacked_116 f g T0 j r P S v3 v4 v5 v6 s0 := by
  intro hT hv6
  unfold st_X6_writePacked_116 at h
  refine ww_cVg (As := [.int s0]) (rest := []) C ok_X8_addLong bw_576 dX6_writePacked_116 (cm_X8_addLong hr) (rc_Row hr) rfl ⟨Nat.le_of_ble_eq_true rfl, Nat.le_of_ble_eq_true rfl⟩ (Nat.le_of_ble_eq_true rfl) (c2 := 0) (s2 := 0) rfl rfl ⟨Nat.le_of_ble_eq_true rfl, Nat.le_of_ble_eq_true rfl⟩ rfl (fun hTg => ?_)
  refine ww_nm (fun S44 e_S44 => ?_)
  replace h := h S44 e_S44
  have hT_S44 : S44.2.2.1 = T0 := by rw [e_S44, hTg]; exact hT
  refine ww_goto (tgt := 128) C dX6_writePacked_119 (by decide) ?_
  exact ww_sub [0, 1, 2, 3, 4, 5, 6] rfl (h hT_S44 hv6)
set_option maxHeartbeats 4000000 in
set_option maxRecDepth 100000 in
theorem run_X6_writePacked_128 {f : Fx} {g : Gx} {T0 : List (Nat × Nat × Nat)} {S : St} {j : Nat} {r : Nat} {P : St → Prop} (C : Cx f g cX6_writePacked 7 RX6) (hrt : (fmeth f).sig.returnType = none) (hj : j < 2) (hr : r < 68) {v3 : Int32} {v4 : Int32} {v5 : Int32} {v6 : Nat} (h : st_X6_writePacked_128 T0 j r P (at_X6_writePacked_65 f g T0 j r P) (at_X6_writePacked_116 f g T0 j r P) (at_X6_writePacked_128 f g T0 j r P) (at_X6_writePacked_146 f g T0 j r P) S v3 v4 v5 v6) : at_X6_writePacked_128 f g T0 j r P S v3 v4 v5 v6 := by
  intro hT hv6
  unfold st_X6_writePacked_128 at h
  refine ww_aload_n C dX6_writePacked_128 2 rfl ?_
  refine ww_aload C dX6_writePacked_129 6 rfl ?_
  refine ww_cVf (As := []) (rest := [.ref (gad g r)]) C ok_X8_length bw_528 dX6_writePacked_131 (cm_X8_length hv6) (rc_Row hv6) rfl ⟨Nat.le_of_ble_eq_true rfl, Nat.le_of_ble_eq_true rfl⟩ (Nat.le_of_ble_eq_true rfl) (c2 := 0) (s2 := 0) rfl rfl ⟨Nat.le_of_ble_eq_true rfl, Nat.le_of_ble_eq_true rfl⟩ rfl ?_
  refine ww_cVg (As := [.int (rLen S v6)]) (rest := []) C ok_X8_addLong bw_576 dX6_writePacked_134 (cm_X8_addLong hr) (rc_Row hr) rfl ⟨Nat.le_of_ble_eq_true rfl, Nat.le_of_ble_eq_true rfl⟩ (Nat.le_of_ble_eq_true rfl) (c2 := 0) (s2 := 0) rfl rfl ⟨Nat.le_of_ble_eq_true rfl, Nat.le_of_ble_eq_true rfl⟩ rfl (fun hTg => ?_)
  refine ww_nm (fun S45 e_S45 => ?_)
  replace h := h S45 e_S45
  have hT_S45 : S45.2.2.1 = T0 := by rw [e_S45, hTg]; exact hT
  refine ww_aload_n C dX6_writePacked_137 0 rfl ?_
  refine gf_PackedWriter_stream C bw_126 dX6_writePacked_138 ?_
  refine ww_aload C dX6_writePacked_141 6 rfl ?_
  refine ww_cVg (As := [.ref (gad g v6)]) (rest := []) C ok_X8_addRow bw_580 dX6_writePacked_143 (cm_X8_addRow (by decide) hv6 h.1) (rc_Row (by decide)) rfl ⟨Nat.le_of_ble_eq_true rfl, Nat.le_of_ble_eq_true rfl⟩ (Nat.le_of_ble_eq_true rfl) (c2 := 0) (s2 := 0) rfl rfl ⟨Nat.le_of_ble_eq_true rfl, Nat.le_of_ble_eq_true rfl⟩ rfl (fun hTg => ?_)
  replace h := h.2
  refine ww_nm (fun S46 e_S46 => ?_)
  replace h := h S46 e_S46
  have hT_S46 : S46.2.2.1 = T0 := by rw [e_S46, hTg]; exact hT_S45
  exact ww_sub [0, 1, 2, 3, 4, 5] rfl (h hT_S46)
set_option maxHeartbeats 4000000 in
set_option maxRecDepth 100000 in
theorem run_X6_writePacked_146 {f : Fx} {g : Gx} {T0 : List (Nat × Nat × Nat)} {S : St} {j : Nat} {r : Nat} {P : St → Prop} (C : Cx f g cX6_writePacked 7 RX6) (hrt : (fmeth f).sig.returnType = none) (hj : j < 2) (hr : r < 68) {v3 : Int32} {v4 : Int32} {v5 : Int32} (h : st_X6_writePacked_146 T0 j r P (at_X6_writePacked_65 f g T0 j r P) (at_X6_writePacked_116 f g T0 j r P) (at_X6_writePacked_128 f g T0 j r P) (at_X6_writePacked_146 f g T0 j r P) S v3 v4 v5) : at_X6_writePacked_146 f g T0 j r P S v3 v4 v5 := by
  intro hT 
  unfold st_X6_writePacked_146 at h
  obtain ⟨x47, e_x47⟩ : ∃ z : Int32, z = v5 + 1 := ⟨_, rfl⟩
  replace h := h x47 e_x47
  refine ww_iinc (v := x47) (lv2 := [(5, .int x47), (0, .ref (gad g 155)), (1, .ref (gad g (148 + j))), (2, .ref (gad g r)), (3, .int v3), (4, .int v4)]) C dX6_writePacked_146 5 rfl (by rw [e_x47]; rfl) (Nat.le_of_ble_eq_true rfl) rfl ?_
  refine ww_goto (tgt := 65) C dX6_writePacked_149 (by decide) ?_
  exact ww_sub [1, 2, 3, 4, 5, 0] rfl (h hT)
def wp_X6_writePacked (T0 : List (Nat × Nat × Nat)) (S : St) (j : Nat) (r : Nat) (P : St → Prop) : Prop :=
  ∀ (X65 : St → Int32 → Int32 → Int32 → Prop) (X116 : St → Int32 → Int32 → Int32 → Nat → Int32 → Prop) (X128 : St → Int32 → Int32 → Int32 → Nat → Prop) (X146 : St → Int32 → Int32 → Int32 → Prop), (∀ S v3 v4 v5, st_X6_writePacked_65 T0 j r P X65 X116 X128 X146 S v3 v4 v5 → X65 S v3 v4 v5) → (∀ S v3 v4 v5 v6 s0, st_X6_writePacked_116 T0 j r P X65 X116 X128 X146 S v3 v4 v5 v6 s0 → X116 S v3 v4 v5 v6 s0) → (∀ S v3 v4 v5 v6, st_X6_writePacked_128 T0 j r P X65 X116 X128 X146 S v3 v4 v5 v6 → X128 S v3 v4 v5 v6) → (∀ S v3 v4 v5, st_X6_writePacked_146 T0 j r P X65 X116 X128 X146 S v3 v4 v5 → X146 S v3 v4 v5) → wp_X7_makeTables S j (fun S48 => ∀ x50 : Int32, x50 = rLen S48 (rwId S48 j 0) → ∀ x51 : Int32, x51 = rLen S48 (rwId S48 j 1) → wp_X9_makeTables S48 j (fun S52 => ∀ S54 : St, S54 = rMake S52 64 → ∀ S55 : St, S55 = rMake S54 r → ∀ S56 : St, S56 = rAdd S55 r 119 → ∀ S57 : St, S57 = rAdd S56 r 50 → wp_X3_tableCount S57 j (fun r59 S58 => ∀ S60 : St, S60 = rAdd S58 r r59 → X65 S60 x50 x51 0)))
set_option maxHeartbeats 4000000 in
set_option maxRecDepth 100000 in
theorem run_X6_writePacked {l : Launch} {g : Gx} {S : St} {j : Nat} {r : Nat} {P : St → Prop} (hj : j < 2) (hr : r < 68) (h : rowsLe S → wp_X6_writePacked S.2.2.1 S j r P) : CMv g l yX6_writePacked cX6_writePacked 7 none rm_X6_writePacked [.ref (gad g 155), .ref (gad g (148 + j)), .ref (gad g r)] S P := cm_entry (own := RX6) (plainFor_of_name (by decide)) rfl (Nat.le_of_ble_eq_true rfl) rfl (fun hle f hf C hrt => by
  subst hf
  replace h := h hle
  obtain ⟨T0, hT⟩ : ∃ T, S.2.2.1 = T := ⟨_, rfl⟩
  rw [hT]
  rw [hT] at h
  replace h := h (at_X6_writePacked_65 f g T0 j r P) (at_X6_writePacked_116 f g T0 j r P) (at_X6_writePacked_128 f g T0 j r P) (at_X6_writePacked_146 f g T0 j r P) (fun S v3 v4 v5 h => run_X6_writePacked_65 C hrt hj hr h) (fun S v3 v4 v5 v6 s0 h => run_X6_writePacked_116 C hrt hj hr h) (fun S v3 v4 v5 v6 h => run_X6_writePacked_128 C hrt hj hr h) (fun S v3 v4 v5 h => run_X6_writePacked_146 C hrt hj hr h)
  refine ww_aload_n C dX6_writePacked_0 1 rfl ?_
  refine ww_cSv (As := [.ref (gad g (148 + j))]) (rest := []) C ok_X7_makeTables bw_466 dX6_writePacked_1 (run_X7_makeTables hj (fun _ => h)) rfl ⟨Nat.le_of_ble_eq_true rfl, Nat.le_of_ble_eq_true rfl⟩ (Nat.le_of_ble_eq_true rfl) (c2 := 0) (s2 := 0) rfl rfl ⟨Nat.le_of_ble_eq_true rfl, Nat.le_of_ble_eq_true rfl⟩ rfl (fun S48 hp hTg => ?_)
  replace h := hp
  have hT_S48 : S48.2.2.1 = T0 := by rw [hTg]; exact hT
  refine ww_aload_n C dX6_writePacked_4 1 rfl ?_
  refine ww_iconst (v := 0) C dX6_writePacked_5 (by decide) ?_
  refine ww_cVr (As := [.int 0]) (rest := []) C ok_X3_tableRow bw_527 dX6_writePacked_6 (cm_X3_tableRow hj) (rc_Font hj) rfl ⟨Nat.le_of_ble_eq_true rfl, Nat.le_of_ble_eq_true rfl⟩ (Nat.le_of_ble_eq_true rfl) (c2 := 0) (s2 := 0) rfl rfl ⟨Nat.le_of_ble_eq_true rfl, Nat.le_of_ble_eq_true rfl⟩ rfl ?_
  refine ww_cVf (As := []) (rest := []) C ok_X8_length bw_528 dX6_writePacked_9 (cm_X8_length (rwId_lt hj)) (rc_Row (rwId_lt hj)) rfl ⟨Nat.le_of_ble_eq_true rfl, Nat.le_of_ble_eq_true rfl⟩ (Nat.le_of_ble_eq_true rfl) (c2 := 0) (s2 := 0) rfl rfl ⟨Nat.le_of_ble_eq_true rfl, Nat.le_of_ble_eq_true rfl⟩ rfl ?_
  refine ww_topi (fun x50 e_x50 => ?_)
  replace h := h x50 e_x50
  refine ww_istore_n (lv2 := [(3, .int x50), (0, .ref (gad g 155)), (1, .ref (gad g (148 + j))), (2, .ref (gad g r))]) C dX6_writePacked_12 rfl (Nat.le_of_ble_eq_true rfl) rfl ?_
  refine ww_aload_n C dX6_writePacked_13 2 rfl ?_
  refine ww_iconst (v := 1) C dX6_writePacked_14 (by decide) ?_
  refine ww_cVr (As := [.int 1]) (rest := []) C ok_X3_tableRow bw_527 dX6_writePacked_15 (cm_X3_tableRow hj) (rc_Font hj) rfl ⟨Nat.le_of_ble_eq_true rfl, Nat.le_of_ble_eq_true rfl⟩ (Nat.le_of_ble_eq_true rfl) (c2 := 0) (s2 := 0) rfl rfl ⟨Nat.le_of_ble_eq_true rfl, Nat.le_of_ble_eq_true rfl⟩ rfl ?_
  refine ww_cVf (As := []) (rest := []) C ok_X8_length bw_528 dX6_writePacked_18 (cm_X8_length (rwId_lt hj)) (rc_Row (rwId_lt hj)) rfl ⟨Nat.le_of_ble_eq_true rfl, Nat.le_of_ble_eq_true rfl⟩ (Nat.le_of_ble_eq_true rfl) (c2 := 0) (s2 := 0) rfl rfl ⟨Nat.le_of_ble_eq_true rfl, Nat.le_of_ble_eq_true rfl⟩ rfl ?_
  refine ww_topi (fun x51 e_x51 => ?_)
  replace h := h x51 e_x51
  refine ww_istore (lv2 := [(4, .int x51), (3, .int x50), (0, .ref (gad g 155)), (1, .ref (gad g (148 + j))), (2, .ref (gad g r))]) C dX6_writePacked_21 (Nat.le_of_ble_eq_true rfl) rfl ?_
  refine ww_aload_n C dX6_writePacked_23 2 rfl ?_
  refine gf_PackedWriter_form C bw_125 dX6_writePacked_24 ?_
  refine ww_aload_n C dX6_writePacked_27 3 rfl ?_
  refine ww_cVv (As := [.ref (gad g (148 + j))]) (rest := []) C ok_X9_makeTables bw_529 dX6_writePacked_28 (run_X9_makeTables hj (fun _ => h)) rc_StreamForm rfl ⟨Nat.le_of_ble_eq_true rfl, Nat.le_of_ble_eq_true rfl⟩ (Nat.le_of_ble_eq_true rfl) (c2 := 0) (s2 := 0) rfl rfl ⟨Nat.le_of_ble_eq_true rfl, Nat.le_of_ble_eq_true rfl⟩ rfl (fun S52 hp hTg => ?_)
  replace h := hp
  have hT_S52 : S52.2.2.1 = T0 := by rw [hTg]; exact hT_S48
  refine ww_aload_n C dX6_writePacked_31 2 rfl ?_
  refine gf_PackedWriter_stream C bw_126 dX6_writePacked_32 ?_
  refine ww_cVg (As := []) (rest := []) C ok_X8_makeEmpty bw_563 dX6_writePacked_35 (cm_X8_makeEmpty (by decide)) (rc_Row (by decide)) rfl ⟨Nat.le_of_ble_eq_true rfl, Nat.le_of_ble_eq_true rfl⟩ (Nat.le_of_ble_eq_true rfl) (c2 := 0) (s2 := 0) rfl rfl ⟨Nat.le_of_ble_eq_true rfl, Nat.le_of_ble_eq_true rfl⟩ rfl (fun hTg => ?_)
  refine ww_nm (fun S54 e_S54 => ?_)
  replace h := h S54 e_S54
  have hT_S54 : S54.2.2.1 = T0 := by rw [e_S54, hTg]; exact hT_S52
  refine ww_aload_n C dX6_writePacked_38 4 rfl ?_
  refine ww_cVg (As := []) (rest := []) C ok_X8_makeEmpty bw_563 dX6_writePacked_39 (cm_X8_makeEmpty hr) (rc_Row hr) rfl ⟨Nat.le_of_ble_eq_true rfl, Nat.le_of_ble_eq_true rfl⟩ (Nat.le_of_ble_eq_true rfl) (c2 := 0) (s2 := 0) rfl rfl ⟨Nat.le_of_ble_eq_true rfl, Nat.le_of_ble_eq_true rfl⟩ rfl (fun hTg => ?_)
  refine ww_nm (fun S55 e_S55 => ?_)
  replace h := h S55 e_S55
  have hT_S55 : S55.2.2.1 = T0 := by rw [e_S55, hTg]; exact hT_S54
  refine ww_aload_n C dX6_writePacked_42 4 rfl ?_
  refine ww_bipush (v := 119) C dX6_writePacked_43 (by decide) ?_
  refine ww_cVg (As := [.int 119]) (rest := []) C ok_X8_add bw_564 dX6_writePacked_45 (cm_X8_add hr) (rc_Row hr) rfl ⟨Nat.le_of_ble_eq_true rfl, Nat.le_of_ble_eq_true rfl⟩ (Nat.le_of_ble_eq_true rfl) (c2 := 0) (s2 := 0) rfl rfl ⟨Nat.le_of_ble_eq_true rfl, Nat.le_of_ble_eq_true rfl⟩ rfl (fun hTg => ?_)
  refine ww_nm (fun S56 e_S56 => ?_)
  replace h := h S56 e_S56
  have hT_S56 : S56.2.2.1 = T0 := by rw [e_S56, hTg]; exact hT_S55
  refine ww_aload_n C dX6_writePacked_48 4 rfl ?_
  refine ww_bipush (v := 50) C dX6_writePacked_49 (by decide) ?_
  refine ww_cVg (As := [.int 50]) (rest := []) C ok_X8_add bw_564 dX6_writePacked_51 (cm_X8_add hr) (rc_Row hr) rfl ⟨Nat.le_of_ble_eq_true rfl, Nat.le_of_ble_eq_true rfl⟩ (Nat.le_of_ble_eq_true rfl) (c2 := 0) (s2 := 0) rfl rfl ⟨Nat.le_of_ble_eq_true rfl, Nat.le_of_ble_eq_true rfl⟩ rfl (fun hTg => ?_)
  refine ww_nm (fun S57 e_S57 => ?_)
  replace h := h S57 e_S57
  have hT_S57 : S57.2.2.1 = T0 := by rw [e_S57, hTg]; exact hT_S56
  refine ww_aload_n C dX6_writePacked_54 4 rfl ?_
  refine ww_aload_n C dX6_writePacked_55 3 rfl ?_
  refine ww_cVi (As := []) (rest := [.ref (gad g r)]) C ok_X3_tableCount bw_565 dX6_writePacked_56 (run_X3_tableCount hj (fun _ => h)) (rc_Font hj) rfl ⟨Nat.le_of_ble_eq_true rfl, Nat.le_of_ble_eq_true rfl⟩ (Nat.le_of_ble_eq_true rfl) (c2 := 0) (s2 := 0) rfl rfl ⟨Nat.le_of_ble_eq_true rfl, Nat.le_of_ble_eq_true rfl⟩ rfl (fun r59 S58 hp hTg => ?_)
  replace h := hp
  have hT_S58 : S58.2.2.1 = T0 := by rw [hTg]; exact hT_S57
  refine ww_cVg (As := [.int r59]) (rest := []) C ok_X8_add bw_564 dX6_writePacked_59 (cm_X8_add hr) (rc_Row hr) rfl ⟨Nat.le_of_ble_eq_true rfl, Nat.le_of_ble_eq_true rfl⟩ (Nat.le_of_ble_eq_true rfl) (c2 := 0) (s2 := 0) rfl rfl ⟨Nat.le_of_ble_eq_true rfl, Nat.le_of_ble_eq_true rfl⟩ rfl (fun hTg => ?_)
  refine ww_nm (fun S60 e_S60 => ?_)
  replace h := h S60 e_S60
  have hT_S60 : S60.2.2.1 = T0 := by rw [e_S60, hTg]; exact hT_S58
  refine ww_iconst (v := 0) C dX6_writePacked_62 (by decide) ?_
  refine ww_istore (lv2 := [(5, .int 0), (4, .int x51), (3, .int x50), (0, .ref (gad g 155)), (1, .ref (gad g (148 + j))), (2, .ref (gad g r))]) C dX6_writePacked_63 (Nat.le_of_ble_eq_true rfl) rfl ?_
  exact ww_sub [3, 4, 5, 2, 1, 0] rfl (h hT_S60))
abbrev rm_X5_readOutlines : Room := { frames := 4, cells := 3, slots := 12, locals := 96 }
theorem ok_X5_readOutlines : MOK yX5_readOutlines RX5 cX5_readOutlines 9 (some .boolean) 1 := ⟨bw_762, bw_9, bw_66, bw_763, by decide +kernel⟩
def st_X5_readOutlines_39 (T0 : List (Nat × Nat × Nat)) (j : Nat) (P : Int32 → St → Prop) (X39 : St → Nat → Int32 → Int32 → Int32 → Prop) (X138 : St → Nat → Nat → Nat → Int32 → Prop) (S : St) (n9 : Nat) (v2 : Int32) (v4 : Int32) (v5 : Int32) : Prop :=
  (((fv_X3_glyphCount S j) ≤ v5 → ∀ x29 : Int32, x29 = (fv_X2_place S n9 65) + v4 → ((x29 ≤ v2 → ∀ n100 : Nat, (∀ t ∈ S.2.2.1, t.1 ≠ n100) → ∀ S31 : St, S31 = stT S (S.2.2.1 ++ [(n100, 5, 0)]) → ∀ S32 : St, S32 = cuIni S31 n100 65 (fv_X2_place S31 n9 65) x29 → ∀ n119 : Nat, (∀ t ∈ S32.2.2.1, t.1 ≠ n119) → ∀ S33 : St, S33 = stT S32 (S32.2.2.1 ++ [(n119, 5, 0)]) → ∀ S34 : St, S34 = cuIni S33 n119 65 x29 v2 → X138 S34 n9 n100 n119 0) ∧ (¬ x29 ≤ v2 → P 0 (stT S T0)))) ∧ (¬ (fv_X3_glyphCount S j) ≤ v5 → wp_X5_readSizes S n9 65 (glId S j v5) (fun r36 S35 => ((¬ r36 = 0 → wp_X4_sizesTogether S35 (glId S35 j v5) (fun r39 S38 => ∀ x40 : Int32, x40 = v4 + r39 → ∀ x41 : Int32, x41 = v5 + 1 → X39 S38 n9 v2 x40 x41)) ∧ (r36 = 0 → P 0 (stT S35 T0))))))
def st_X5_readOutlines_138 (T0 : List (Nat × Nat × Nat)) (j : Nat) (P : Int32 → St → Prop) (X39 : St → Nat → Int32 → Int32 → Int32 → Prop) (X138 : St → Nat → Nat → Nat → Int32 → Prop) (S : St) (n9 : Nat) (n100 : Nat) (n119 : Nat) (v8 : Int32) : Prop :=
  (((fv_X3_glyphCount S j) ≤ v8 → wp_X2_isAtEnd S n119 65 (fun r44 S43 => ((r44 = 0 ∨ r44 = 1) ∧ P r44 (stT S43 T0)))) ∧ (¬ (fv_X3_glyphCount S j) ≤ v8 → wp_X5_readPoints S (glId S j v8) n100 65 n119 65 (fun r46 S45 => ((¬ r46 = 0 → ∀ x48 : Int32, x48 = v8 + 1 → X138 S45 n9 n100 n119 x48) ∧ (r46 = 0 → P 0 (stT S45 T0))))))
def at_X5_readOutlines_39 (f : Fx) (g : Gx) (T0 : List (Nat × Nat × Nat)) (j : Nat) (P : Int32 → St → Prop) (S : St) (n9 : Nat) (v2 : Int32) (v4 : Int32) (v5 : Int32) : Prop := S.2.2.1 = T0 ++ [(n9, 2, 65)] → WW f rm_X5_readOutlines g 9 1 4 (Qi f g 3 12 T0 P) S 39 [(0, .ref (gad g 156)), (1, .ref (gad g (148 + j))), (2, .int v2), (3, .ref n9), (4, .int v4), (5, .int v5)] []
def at_X5_readOutlines_138 (f : Fx) (g : Gx) (T0 : List (Nat × Nat × Nat)) (j : Nat) (P : Int32 → St → Prop) (S : St) (n9 : Nat) (n100 : Nat) (n119 : Nat) (v8 : Int32) : Prop := S.2.2.1 = T0 ++ [(n9, 2, 65), (n100, 2, 65), (n119, 2, 65)] → WW f rm_X5_readOutlines g 9 3 12 (Qi f g 3 12 T0 P) S 138 [(0, .ref (gad g 156)), (1, .ref (gad g (148 + j))), (6, .ref n100), (7, .ref n119), (8, .int v8)] []
set_option maxHeartbeats 4000000 in
set_option maxRecDepth 100000 in
theorem run_X5_readOutlines_39 {f : Fx} {g : Gx} {T0 : List (Nat × Nat × Nat)} {S : St} {j : Nat} {P : Int32 → St → Prop} (C : Cx f g cX5_readOutlines 9 RX5) (hrt : (fmeth f).sig.returnType = (some .boolean)) (hj : j < 2) {n9 : Nat} {v2 : Int32} {v4 : Int32} {v5 : Int32} (h : st_X5_readOutlines_39 T0 j P (at_X5_readOutlines_39 f g T0 j P) (at_X5_readOutlines_138 f g T0 j P) S n9 v2 v4 v5) : at_X5_readOutlines_39 f g T0 j P S n9 v2 v4 v5 := by
  intro hT 
  unfold st_X5_readOutlines_39 at h
  refine ww_iload C dX5_readOutlines_39 5 rfl ?_
  refine ww_aload_n C dX5_readOutlines_41 1 rfl ?_
  refine ww_cVf (As := []) (rest := [.int v5]) C ok_X3_glyphCount bw_770 dX5_readOutlines_42 (cm_X3_glyphCount hj) (rc_Font hj) rfl ⟨Nat.le_of_ble_eq_true rfl, Nat.le_of_ble_eq_true rfl⟩ (Nat.le_of_ble_eq_true rfl) (c2 := 1) (s2 := 4) rfl rfl ⟨Nat.le_of_ble_eq_true rfl, Nat.le_of_ble_eq_true rfl⟩ rfl ?_
  refine ww_icmp_ge (tgt := 83) C dX5_readOutlines_45 (by decide) (fun q28 => ?_) (fun q28 => ?_)
  · replace h := h.1 q28
    refine ww_aload_n C dX5_readOutlines_83 3 rfl ?_
    refine ww_cVf (As := []) (rest := []) C ok_X2_place bw_711 dX5_readOutlines_84 (cm_X2_place (c := n9) (r := 65) (by rw [hT]; exact (by simp)) (by decide)) (rc_Cursor (q := n9) (r := 65) (by rw [hT]; exact (by simp))) rfl ⟨Nat.le_of_ble_eq_true rfl, Nat.le_of_ble_eq_true rfl⟩ (Nat.le_of_ble_eq_true rfl) (c2 := 1) (s2 := 4) rfl rfl ⟨Nat.le_of_ble_eq_true rfl, Nat.le_of_ble_eq_true rfl⟩ rfl ?_
    refine ww_iload C dX5_readOutlines_87 4 rfl ?_
    refine ww_iadd C dX5_readOutlines_89 ?_
    refine ww_topi (fun x29 e_x29 => ?_)
    replace h := h x29 e_x29
    refine ww_istore (lv2 := [(5, .int x29), (0, .ref (gad g 156)), (1, .ref (gad g (148 + j))), (2, .int v2), (3, .ref n9), (4, .int v4)]) C dX5_readOutlines_90 (Nat.le_of_ble_eq_true rfl) rfl ?_
    refine ww_iload C dX5_readOutlines_92 0 rfl ?_
    refine ww_iload_n C dX5_readOutlines_94 3 rfl ?_
    refine ww_icmp_le (tgt := 100) C dX5_readOutlines_95 (by decide) (fun q30 => ?_) (fun q30 => ?_)
    · replace h := h.1 q30
      refine ww_newCursor C bw_660 (Nat.le_of_ble_eq_true rfl) (Nat.le_of_ble_eq_true rfl) dX5_readOutlines_100 (fun n100 hf_n100 => ?_)
      replace h := h n100 hf_n100
      rw [hT] at hf_n100
      refine ww_nm (fun S31 e_S31 => ?_)
      replace h := h S31 e_S31
      have hT_S31 : S31.2.2.1 = T0 ++ [(n9, 2, 65), (n100, 5, 0)] := by rw [e_S31]; show S.2.2.1 ++ _ = _; simp [hT]
      refine ww_dup C dX5_readOutlines_103 rfl ?_
      refine ww_aload_n C dX5_readOutlines_104 1 rfl ?_
      refine gf_PackedReader_stream C bw_140 dX5_readOutlines_105 ?_
      refine ww_aload_n C dX5_readOutlines_108 4 rfl ?_
      refine ww_cVf (As := []) (rest := [.ref (gad g 65), .ref n100, .ref n100]) C ok_X2_place bw_711 dX5_readOutlines_109 (cm_X2_place (c := n9) (r := 65) (by rw [hT_S31]; exact (by simp)) (by decide)) (rc_Cursor (q := n9) (r := 65) (by rw [hT_S31]; exact (by simp))) rfl ⟨Nat.le_of_ble_eq_true rfl, Nat.le_of_ble_eq_true rfl⟩ (Nat.le_of_ble_eq_true rfl) (c2 := 2) (s2 := 8) rfl rfl ⟨Nat.le_of_ble_eq_true rfl, Nat.le_of_ble_eq_true rfl⟩ rfl ?_
      refine ww_iload C dX5_readOutlines_112 0 rfl ?_
      refine ww_cIn (As := [.ref (gad g 65), .int (fv_X2_place S31 n9 65), .int x29]) (rest := [.ref n100]) C ok_X2_init bw_663 dX5_readOutlines_114 (cm_X2_init (by rw [hT_S31]; simp) (by decide)) rfl ⟨Nat.le_of_ble_eq_true rfl, Nat.le_of_ble_eq_true rfl⟩ (Nat.le_of_ble_eq_true rfl) (c2 := 2) (s2 := 8) rfl rfl ⟨Nat.le_of_ble_eq_true rfl, Nat.le_of_ble_eq_true rfl⟩ rfl ?_
      refine ww_nm (fun S32 e_S32 => ?_)
      replace h := h S32 e_S32
      have hT_S32 : S32.2.2.1 = T0 ++ [(n9, 2, 65), (n100, 2, 65)] := by rw [e_S32]; show tlSet S31.2.2.1 _ = _; rw [hT_S31]; simpa using tlSet_push (k := 5) (o := 0) (k2 := 2) (r := 65) hf_n100
      refine ww_astore (lv2 := [(6, .ref n100), (5, .int x29), (0, .ref (gad g 156)), (1, .ref (gad g (148 + j))), (2, .int v2), (3, .ref n9), (4, .int v4)]) C dX5_readOutlines_117 (Nat.le_of_ble_eq_true rfl) rfl ?_
      refine ww_newCursor C bw_660 (Nat.le_of_ble_eq_true rfl) (Nat.le_of_ble_eq_true rfl) dX5_readOutlines_119 (fun n119 hf_n119 => ?_)
      replace h := h n119 hf_n119
      rw [hT_S32] at hf_n119
      refine ww_nm (fun S33 e_S33 => ?_)
      replace h := h S33 e_S33
      have hT_S33 : S33.2.2.1 = T0 ++ [(n9, 2, 65), (n100, 2, 65), (n119, 5, 0)] := by rw [e_S33]; show S32.2.2.1 ++ _ = _; simp [hT_S32]
      refine ww_dup C dX5_readOutlines_122 rfl ?_
      refine ww_aload_n C dX5_readOutlines_123 2 rfl ?_
      refine gf_PackedReader_stream C bw_140 dX5_readOutlines_124 ?_
      refine ww_iload C dX5_readOutlines_127 1 rfl ?_
      refine ww_iload_n C dX5_readOutlines_129 4 rfl ?_
      refine ww_cIn (As := [.ref (gad g 65), .int x29, .int v2]) (rest := [.ref n119]) C ok_X2_init bw_663 dX5_readOutlines_130 (cm_X2_init (by rw [hT_S33]; simp) (by decide)) rfl ⟨Nat.le_of_ble_eq_true rfl, Nat.le_of_ble_eq_true rfl⟩ (Nat.le_of_ble_eq_true rfl) (c2 := 3) (s2 := 12) rfl rfl ⟨Nat.le_of_ble_eq_true rfl, Nat.le_of_ble_eq_true rfl⟩ rfl ?_
      refine ww_nm (fun S34 e_S34 => ?_)
      replace h := h S34 e_S34
      have hT_S34 : S34.2.2.1 = T0 ++ [(n9, 2, 65), (n100, 2, 65), (n119, 2, 65)] := by rw [e_S34]; show tlSet S33.2.2.1 _ = _; rw [hT_S33]; simpa using tlSet_push (k := 5) (o := 0) (k2 := 2) (r := 65) hf_n119
      refine ww_astore (lv2 := [(7, .ref n119), (6, .ref n100), (5, .int x29), (0, .ref (gad g 156)), (1, .ref (gad g (148 + j))), (2, .int v2), (3, .ref n9), (4, .int v4)]) C dX5_readOutlines_133 (Nat.le_of_ble_eq_true rfl) rfl ?_
      refine ww_iconst (v := 0) C dX5_readOutlines_135 (by decide) ?_
      refine ww_istore (lv2 := [(8, .int 0), (7, .ref n119), (6, .ref n100), (5, .int x29), (0, .ref (gad g 156)), (1, .ref (gad g (148 + j))), (2, .int v2), (3, .ref n9), (4, .int v4)]) C dX5_readOutlines_136 (Nat.le_of_ble_eq_true rfl) rfl ?_
      exact ww_sub [4, 5, 2, 1, 0] rfl (h hT_S34)
    · replace h := h.2 q30
      refine ww_iconst (v := 0) C dX5_readOutlines_98 (by decide) ?_
      refine ww_drop (T0 := T0) (show S.2.2.1 = T0 ++ [(n9, 2, 65)] by rw [hT]) ?_
      refine ww_widen (c2 := 3) (s2 := 12) (by omega) (by omega) ?_
      exact ww_zret C hrt dX5_readOutlines_99 rfl (by decide) h
  · replace h := h.2 q28
    refine ww_aload_n C dX5_readOutlines_48 3 rfl ?_
    refine ww_aload_n C dX5_readOutlines_49 1 rfl ?_
    refine ww_iload C dX5_readOutlines_50 5 rfl ?_
    refine ww_cVr (As := [.int v5]) (rest := [.ref n9]) C ok_X3_glyphAt bw_768 dX5_readOutlines_52 (cm_X3_glyphAt hj) (rc_Font hj) rfl ⟨Nat.le_of_ble_eq_true rfl, Nat.le_of_ble_eq_true rfl⟩ (Nat.le_of_ble_eq_true rfl) (c2 := 1) (s2 := 4) rfl rfl ⟨Nat.le_of_ble_eq_true rfl, Nat.le_of_ble_eq_true rfl⟩ rfl ?_
    refine ww_cSi (As := [.ref n9, .ref (gad g (136 + (glId S j v5)))]) (rest := []) C ok_X5_readSizes bw_771 dX5_readOutlines_55 (run_X5_readSizes (c := n9) (r := 65) (by rw [hT]; exact (by simp)) (by decide) (glId_lt hj) (fun _ => h)) rfl ⟨Nat.le_of_ble_eq_true rfl, Nat.le_of_ble_eq_true rfl⟩ (Nat.le_of_ble_eq_true rfl) (c2 := 1) (s2 := 4) rfl rfl ⟨Nat.le_of_ble_eq_true rfl, Nat.le_of_ble_eq_true rfl⟩ rfl (fun r36 S35 hp hTg => ?_)
    replace h := hp
    have hT_S35 : S35.2.2.1 = T0 ++ [(n9, 2, 65)] := by rw [hTg]; exact hT
    refine ww_if_ne (tgt := 63) C dX5_readOutlines_58 (by decide) (fun q37 => ?_) (fun q37 => ?_)
    · replace h := h.1 q37
      refine ww_iload C dX5_readOutlines_63 4 rfl ?_
      refine ww_aload_n C dX5_readOutlines_65 1 rfl ?_
      refine ww_iload C dX5_readOutlines_66 5 rfl ?_
      refine ww_cVr (As := [.int v5]) (rest := [.int v4]) C ok_X3_glyphAt bw_768 dX5_readOutlines_68 (cm_X3_glyphAt hj) (rc_Font hj) rfl ⟨Nat.le_of_ble_eq_true rfl, Nat.le_of_ble_eq_true rfl⟩ (Nat.le_of_ble_eq_true rfl) (c2 := 1) (s2 := 4) rfl rfl ⟨Nat.le_of_ble_eq_true rfl, Nat.le_of_ble_eq_true rfl⟩ rfl ?_
      refine ww_cVi (As := []) (rest := [.int v4]) C ok_X4_sizesTogether bw_779 dX5_readOutlines_71 (run_X4_sizesTogether (glId_lt hj) (fun _ => h)) (rc_Glyph (glId_lt hj)) rfl ⟨Nat.le_of_ble_eq_true rfl, Nat.le_of_ble_eq_true rfl⟩ (Nat.le_of_ble_eq_true rfl) (c2 := 1) (s2 := 4) rfl rfl ⟨Nat.le_of_ble_eq_true rfl, Nat.le_of_ble_eq_true rfl⟩ rfl (fun r39 S38 hp hTg => ?_)
      replace h := hp
      have hT_S38 : S38.2.2.1 = T0 ++ [(n9, 2, 65)] := by rw [hTg]; exact hT_S35
      refine ww_iadd C dX5_readOutlines_74 ?_
      refine ww_topi (fun x40 e_x40 => ?_)
      replace h := h x40 e_x40
      refine ww_istore (lv2 := [(4, .int x40), (0, .ref (gad g 156)), (1, .ref (gad g (148 + j))), (2, .int v2), (3, .ref n9), (5, .int v5)]) C dX5_readOutlines_75 (Nat.le_of_ble_eq_true rfl) rfl ?_
      obtain ⟨x41, e_x41⟩ : ∃ z : Int32, z = v5 + 1 := ⟨_, rfl⟩
      replace h := h x41 e_x41
      refine ww_iinc (v := x41) (lv2 := [(5, .int x41), (4, .int x40), (0, .ref (gad g 156)), (1, .ref (gad g (148 + j))), (2, .int v2), (3, .ref n9)]) C dX5_readOutlines_77 5 rfl (by rw [e_x41]; rfl) (Nat.le_of_ble_eq_true rfl) rfl ?_
      refine ww_goto (tgt := 39) C dX5_readOutlines_80 (by decide) ?_
      exact ww_sub [2, 3, 4, 5, 1, 0] rfl (h hT_S38)
    · replace h := h.2 q37
      refine ww_iconst (v := 0) C dX5_readOutlines_61 (by decide) ?_
      refine ww_drop (T0 := T0) (show S35.2.2.1 = T0 ++ [(n9, 2, 65)] by rw [hT_S35]) ?_
      refine ww_widen (c2 := 3) (s2 := 12) (by omega) (by omega) ?_
      exact ww_zret C hrt dX5_readOutlines_62 rfl (by decide) h
set_option maxHeartbeats 4000000 in
set_option maxRecDepth 100000 in
theorem run_X5_readOutlines_138 {f : Fx} {g : Gx} {T0 : List (Nat × Nat × Nat)} {S : St} {j : Nat} {P : Int32 → St → Prop} (C : Cx f g cX5_readOutlines 9 RX5) (hrt : (fmeth f).sig.returnType = (some .boolean)) (hj : j < 2) {n9 : Nat} {n100 : Nat} {n119 : Nat} {v8 : Int32} (h : st_X5_readOutlines_138 T0 j P (at_X5_readOutlines_39 f g T0 j P) (at_X5_readOutlines_138 f g T0 j P) S n9 n100 n119 v8) : at_X5_readOutlines_138 f g T0 j P S n9 n100 n119 v8 := by
  intro hT 
  unfold st_X5_readOutlines_138 at h
  refine ww_iload C dX5_readOutlines_138 4 rfl ?_
  refine ww_aload_n C dX5_readOutlines_140 1 rfl ?_
  refine ww_cVf (As := []) (rest := [.int v8]) C ok_X3_glyphCount bw_770 dX5_readOutlines_141 (cm_X3_glyphCount hj) (rc_Font hj) rfl ⟨Nat.le_of_ble_eq_true rfl, Nat.le_of_ble_eq_true rfl⟩ (Nat.le_of_ble_eq_true rfl) (c2 := 3) (s2 := 12) rfl rfl ⟨Nat.le_of_ble_eq_true rfl, Nat.le_of_ble_eq_true rfl⟩ rfl ?_
  refine ww_icmp_ge (tgt := 172) C dX5_readOutlines_144 (by decide) (fun q42 => ?_) (fun q42 => ?_)
  · replace h := h.1 q42
    refine ww_aload C dX5_readOutlines_172 3 rfl ?_
    refine ww_cVi (As := []) (rest := []) C ok_X2_isAtEnd bw_804 dX5_readOutlines_174 (run_X2_isAtEnd (c := n119) (r := 65) (by rw [hT]; exact (by simp)) (by decide) (fun _ => h)) (rc_Cursor (q := n119) (r := 65) (by rw [hT]; exact (by simp))) rfl ⟨Nat.le_of_ble_eq_true rfl, Nat.le_of_ble_eq_true rfl⟩ (Nat.le_of_ble_eq_true rfl) (c2 := 3) (s2 := 12) rfl rfl ⟨Nat.le_of_ble_eq_true rfl, Nat.le_of_ble_eq_true rfl⟩ rfl (fun r44 S43 hp hTg => ?_)
    replace h := hp
    have hT_S43 : S43.2.2.1 = T0 ++ [(n9, 2, 65), (n100, 2, 65), (n119, 2, 65)] := by rw [hTg]; exact hT
    refine ww_drop (T0 := T0) (show S43.2.2.1 = T0 ++ [(n9, 2, 65), (n100, 2, 65), (n119, 2, 65)] by rw [hT_S43]) ?_
    exact ww_zret C hrt dX5_readOutlines_177 rfl h.1 h.2
  · replace h := h.2 q42
    refine ww_aload_n C dX5_readOutlines_147 0 rfl ?_
    refine ww_aload_n C dX5_readOutlines_148 1 rfl ?_
    refine ww_iload C dX5_readOutlines_149 4 rfl ?_
    refine ww_cVr (As := [.int v8]) (rest := [.ref (gad g 156)]) C ok_X3_glyphAt bw_768 dX5_readOutlines_151 (cm_X3_glyphAt hj) (rc_Font hj) rfl ⟨Nat.le_of_ble_eq_true rfl, Nat.le_of_ble_eq_true rfl⟩ (Nat.le_of_ble_eq_true rfl) (c2 := 3) (s2 := 12) rfl rfl ⟨Nat.le_of_ble_eq_true rfl, Nat.le_of_ble_eq_true rfl⟩ rfl ?_
    refine ww_aload C dX5_readOutlines_154 2 rfl ?_
    refine ww_aload C dX5_readOutlines_156 3 rfl ?_
    refine ww_cVi (As := [.ref (gad g (136 + (glId S j v8))), .ref n100, .ref n119]) (rest := []) C ok_X5_readPoints bw_787 dX5_readOutlines_158 (run_X5_readPoints (c := n100) (r := 65) (d := n119) (o := 65) (glId_lt hj) (by rw [hT]; exact (by simp)) (by decide) (by rw [hT]; exact (by simp)) (by decide) (fun _ => h)) rc_PackedReader rfl ⟨Nat.le_of_ble_eq_true rfl, Nat.le_of_ble_eq_true rfl⟩ (Nat.le_of_ble_eq_true rfl) (c2 := 3) (s2 := 12) rfl rfl ⟨Nat.le_of_ble_eq_true rfl, Nat.le_of_ble_eq_true rfl⟩ rfl (fun r46 S45 hp hTg => ?_)
    replace h := hp
    have hT_S45 : S45.2.2.1 = T0 ++ [(n9, 2, 65), (n100, 2, 65), (n119, 2, 65)] := by rw [hTg]; exact hT
    refine ww_if_ne (tgt := 166) C dX5_readOutlines_161 (by decide) (fun q47 => ?_) (fun q47 => ?_)
    · replace h := h.1 q47
      obtain ⟨x48, e_x48⟩ : ∃ z : Int32, z = v8 + 1 := ⟨_, rfl⟩
      replace h := h x48 e_x48
      refine ww_iinc (v := x48) (lv2 := [(8, .int x48), (0, .ref (gad g 156)), (1, .ref (gad g (148 + j))), (6, .ref n100), (7, .ref n119)]) C dX5_readOutlines_166 4 rfl (by rw [e_x48]; rfl) (Nat.le_of_ble_eq_true rfl) rfl ?_
      refine ww_goto (tgt := 138) C dX5_readOutlines_169 (by decide) ?_
      exact ww_sub [1, 2, 3, 4, 0] rfl (h hT_S45)
    · replace h := h.2 q47
      refine ww_iconst (v := 0) C dX5_readOutlines_164 (by decide) ?_
      refine ww_drop (T0 := T0) (show S45.2.2.1 = T0 ++ [(n9, 2, 65), (n100, 2, 65), (n119, 2, 65)] by rw [hT_S45]) ?_
      exact ww_zret C hrt dX5_readOutlines_165 rfl (by decide) h
def wp_X5_readOutlines (T0 : List (Nat × Nat × Nat)) (S : St) (j : Nat) (P : Int32 → St → Prop) : Prop :=
  ∀ (X39 : St → Nat → Int32 → Int32 → Int32 → Prop) (X138 : St → Nat → Nat → Nat → Int32 → Prop), (∀ S n9 v2 v4 v5, st_X5_readOutlines_39 T0 j P X39 X138 S n9 v2 v4 v5 → X39 S n9 v2 v4 v5) → (∀ S n9 n100 n119 v8, st_X5_readOutlines_138 T0 j P X39 X138 S n9 n100 n119 v8 → X138 S n9 n100 n119 v8) → ∀ x49 : Int32, x49 = rGet S 67 0 → ∀ n9 : Nat, (∀ t ∈ S.2.2.1, t.1 ≠ n9) → ∀ S50 : St, S50 = stT S (S.2.2.1 ++ [(n9, 5, 0)]) → ∀ S51 : St, S51 = cuIni S50 n9 65 0 x49 → wp_X5_readContours S51 n9 65 j (fun r53 S52 => ((¬ r53 = 0 → X39 S52 n9 x49 0 0) ∧ (r53 = 0 → P 0 (stT S52 T0))))
set_option maxHeartbeats 4000000 in
set_option maxRecDepth 100000 in
theorem run_X5_readOutlines {l : Launch} {g : Gx} {S : St} {j : Nat} {P : Int32 → St → Prop} (hj : j < 2) (h : rowsLe S → wp_X5_readOutlines S.2.2.1 S j P) : CMi g l yX5_readOutlines cX5_readOutlines 9 (some .boolean) rm_X5_readOutlines [.ref (gad g 156), .ref (gad g (148 + j))] S P := cm_entry (own := RX5) (plainFor_of_name (by decide)) rfl (Nat.le_of_ble_eq_true rfl) rfl (fun hle f hf C hrt => by
  subst hf
  replace h := h hle
  obtain ⟨T0, hT⟩ : ∃ T, S.2.2.1 = T := ⟨_, rfl⟩
  rw [hT]
  rw [hT] at h
  replace h := h (at_X5_readOutlines_39 f g T0 j P) (at_X5_readOutlines_138 f g T0 j P) (fun S n9 v2 v4 v5 h => run_X5_readOutlines_39 C hrt hj h) (fun S n9 n100 n119 v8 h => run_X5_readOutlines_138 C hrt hj h)
  refine ww_aload_n C dX5_readOutlines_0 0 rfl ?_
  refine gf_PackedReader_streamLengths C bw_142 dX5_readOutlines_1 ?_
  refine ww_iconst (v := 0) C dX5_readOutlines_4 (by decide) ?_
  refine ww_cVf (As := [.int 0]) (rest := []) C ok_X8_get bw_708 dX5_readOutlines_5 (cm_X8_get (by decide)) (rc_Row (by decide)) rfl ⟨Nat.le_of_ble_eq_true rfl, Nat.le_of_ble_eq_true rfl⟩ (Nat.le_of_ble_eq_true rfl) (c2 := 0) (s2 := 0) rfl rfl ⟨Nat.le_of_ble_eq_true rfl, Nat.le_of_ble_eq_true rfl⟩ rfl ?_
  refine ww_topi (fun x49 e_x49 => ?_)
  replace h := h x49 e_x49
  refine ww_istore_n (lv2 := [(2, .int x49), (0, .ref (gad g 156)), (1, .ref (gad g (148 + j)))]) C dX5_readOutlines_8 rfl (Nat.le_of_ble_eq_true rfl) rfl ?_
  refine ww_newCursor C bw_660 (Nat.le_of_ble_eq_true rfl) (Nat.le_of_ble_eq_true rfl) dX5_readOutlines_9 (fun n9 hf_n9 => ?_)
  replace h := h n9 hf_n9
  rw [hT] at hf_n9
  refine ww_nm (fun S50 e_S50 => ?_)
  replace h := h S50 e_S50
  have hT_S50 : S50.2.2.1 = T0 ++ [(n9, 5, 0)] := by rw [e_S50]; show S.2.2.1 ++ _ = _; simp [hT]
  refine ww_dup C dX5_readOutlines_12 rfl ?_
  refine ww_aload_n C dX5_readOutlines_13 1 rfl ?_
  refine gf_PackedReader_stream C bw_140 dX5_readOutlines_14 ?_
  refine ww_iconst (v := 0) C dX5_readOutlines_17 (by decide) ?_
  refine ww_iload_n C dX5_readOutlines_18 0 rfl ?_
  refine ww_cIn (As := [.ref (gad g 65), .int 0, .int x49]) (rest := [.ref n9]) C ok_X2_init bw_663 dX5_readOutlines_19 (cm_X2_init (by rw [hT_S50]; simp) (by decide)) rfl ⟨Nat.le_of_ble_eq_true rfl, Nat.le_of_ble_eq_true rfl⟩ (Nat.le_of_ble_eq_true rfl) (c2 := 1) (s2 := 4) rfl rfl ⟨Nat.le_of_ble_eq_true rfl, Nat.le_of_ble_eq_true rfl⟩ rfl ?_
  refine ww_nm (fun S51 e_S51 => ?_)
  replace h := h S51 e_S51
  have hT_S51 : S51.2.2.1 = T0 ++ [(n9, 2, 65)] := by rw [e_S51]; show tlSet S50.2.2.1 _ = _; rw [hT_S50]; simpa using tlSet_push (k := 5) (o := 0) (k2 := 2) (r := 65) hf_n9
  refine ww_astore_n (lv2 := [(3, .ref n9), (2, .int x49), (0, .ref (gad g 156)), (1, .ref (gad g (148 + j)))]) C dX5_readOutlines_22 rfl (Nat.le_of_ble_eq_true rfl) rfl ?_
  refine ww_aload_n C dX5_readOutlines_23 0 rfl ?_
  refine ww_aload_n C dX5_readOutlines_24 3 rfl ?_
  refine ww_cSi (As := [.ref n9, .ref (gad g (148 + j))]) (rest := []) C ok_X5_readContours bw_764 dX5_readOutlines_25 (run_X5_readContours (c := n9) (r := 65) (by rw [hT_S51]; exact (by simp)) (by decide) hj (fun _ => h)) rfl ⟨Nat.le_of_ble_eq_true rfl, Nat.le_of_ble_eq_true rfl⟩ (Nat.le_of_ble_eq_true rfl) (c2 := 1) (s2 := 4) rfl rfl ⟨Nat.le_of_ble_eq_true rfl, Nat.le_of_ble_eq_true rfl⟩ rfl (fun r53 S52 hp hTg => ?_)
  replace h := hp
  have hT_S52 : S52.2.2.1 = T0 ++ [(n9, 2, 65)] := by rw [hTg]; exact hT_S51
  refine ww_if_ne (tgt := 33) C dX5_readOutlines_28 (by decide) (fun q54 => ?_) (fun q54 => ?_)
  · replace h := h.1 q54
    refine ww_iconst (v := 0) C dX5_readOutlines_33 (by decide) ?_
    refine ww_istore (lv2 := [(4, .int 0), (3, .ref n9), (2, .int x49), (0, .ref (gad g 156)), (1, .ref (gad g (148 + j)))]) C dX5_readOutlines_34 (Nat.le_of_ble_eq_true rfl) rfl ?_
    refine ww_iconst (v := 0) C dX5_readOutlines_36 (by decide) ?_
    refine ww_istore (lv2 := [(5, .int 0), (4, .int 0), (3, .ref n9), (2, .int x49), (0, .ref (gad g 156)), (1, .ref (gad g (148 + j)))]) C dX5_readOutlines_37 (Nat.le_of_ble_eq_true rfl) rfl ?_
    exact ww_sub [4, 5, 3, 2, 1, 0] rfl (h hT_S52)
  · replace h := h.2 q54
    refine ww_iconst (v := 0) C dX5_readOutlines_31 (by decide) ?_
    refine ww_drop (T0 := T0) (show S52.2.2.1 = T0 ++ [(n9, 2, 65)] by rw [hT_S52]) ?_
    refine ww_widen (c2 := 3) (s2 := 12) (by omega) (by omega) ?_
    exact ww_zret C hrt dX5_readOutlines_32 rfl (by decide) h)
abbrev rm_X5_readAdvances : Room := { frames := 3, cells := 1, slots := 4, locals := 64 }
theorem ok_X5_readAdvances : MOK yX5_readAdvances RX5 cX5_readAdvances 6 (some .boolean) 1 := ⟨bw_810, bw_13, bw_66, bw_811, by decide +kernel⟩
def st_X5_readAdvances_35 (T0 : List (Nat × Nat × Nat)) (j : Nat) (P : Int32 → St → Prop) (X35 : St → Nat → Int32 → Prop) (S : St) (n9 : Nat) (v4 : Int32) : Prop :=
  (((fv_X3_glyphCount S j) ≤ v4 → wp_X2_isAtEnd S n9 65 (fun r14 S13 => ((r14 = 0 ∨ r14 = 1) ∧ P r14 (stT S13 T0)))) ∧ (¬ (fv_X3_glyphCount S j) ≤ v4 → ∀ (r16 : Int32) (S15 : St), r16 = fv_X2_nextShort S n9 65 → S15 = fs_X2_nextShort S n9 65 → ((r16 ≤ 2000 → ∀ S18 : St, S18 = fs_X4_changeAdvance S15 (glId S15 j v4) r16 → ∀ x19 : Int32, x19 = v4 + 1 → X35 S18 n9 x19) ∧ (¬ r16 ≤ 2000 → P 0 (stT S15 T0)))))
def at_X5_readAdvances_35 (f : Fx) (g : Gx) (T0 : List (Nat × Nat × Nat)) (j : Nat) (P : Int32 → St → Prop) (S : St) (n9 : Nat) (v4 : Int32) : Prop := S.2.2.1 = T0 ++ [(n9, 2, 65)] → WW f rm_X5_readAdvances g 6 1 4 (Qi f g 1 4 T0 P) S 35 [(1, .ref (gad g (148 + j))), (3, .ref n9), (4, .int v4)] []
set_option maxHeartbeats 4000000 in
set_option maxRecDepth 100000 in
theorem run_X5_readAdvances_35 {f : Fx} {g : Gx} {T0 : List (Nat × Nat × Nat)} {S : St} {j : Nat} {P : Int32 → St → Prop} (C : Cx f g cX5_readAdvances 6 RX5) (hrt : (fmeth f).sig.returnType = (some .boolean)) (hj : j < 2) {n9 : Nat} {v4 : Int32} (h : st_X5_readAdvances_35 T0 j P (at_X5_readAdvances_35 f g T0 j P) S n9 v4) : at_X5_readAdvances_35 f g T0 j P S n9 v4 := by
  intro hT 
  unfold st_X5_readAdvances_35 at h
  refine ww_iload C dX5_readAdvances_35 2 rfl ?_
  refine ww_aload_n C dX5_readAdvances_37 0 rfl ?_
  refine ww_cVf (As := []) (rest := [.int v4]) C ok_X3_glyphCount bw_770 dX5_readAdvances_38 (cm_X3_glyphCount hj) (rc_Font hj) rfl ⟨Nat.le_of_ble_eq_true rfl, Nat.le_of_ble_eq_true rfl⟩ (Nat.le_of_ble_eq_true rfl) (c2 := 1) (s2 := 4) rfl rfl ⟨Nat.le_of_ble_eq_true rfl, Nat.le_of_ble_eq_true rfl⟩ rfl ?_
  refine ww_icmp_ge (tgt := 77) C dX5_readAdvances_41 (by decide) (fun q12 => ?_) (fun q12 => ?_)
  · replace h := h.1 q12
    refine ww_aload_n C dX5_readAdvances_77 1 rfl ?_
    refine ww_cVi (As := []) (rest := []) C ok_X2_isAtEnd bw_804 dX5_readAdvances_78 (run_X2_isAtEnd (c := n9) (r := 65) (by rw [hT]; exact (by simp)) (by decide) (fun _ => h)) (rc_Cursor (q := n9) (r := 65) (by rw [hT]; exact (by simp))) rfl ⟨Nat.le_of_ble_eq_true rfl, Nat.le_of_ble_eq_true rfl⟩ (Nat.le_of_ble_eq_true rfl) (c2 := 1) (s2 := 4) rfl rfl ⟨Nat.le_of_ble_eq_true rfl, Nat.le_of_ble_eq_true rfl⟩ rfl (fun r14 S13 hp hTg => ?_)
    replace h := hp
    have hT_S13 : S13.2.2.1 = T0 ++ [(n9, 2, 65)] := by rw [hTg]; exact hT
    refine ww_drop (T0 := T0) (show S13.2.2.1 = T0 ++ [(n9, 2, 65)] by rw [hT_S13]) ?_
    exact ww_zret C hrt dX5_readAdvances_81 rfl h.1 h.2
  · replace h := h.2 q12
    refine ww_aload_n C dX5_readAdvances_44 1 rfl ?_
    refine ww_cVi (As := []) (rest := []) C ok_X2_nextShort bw_775 dX5_readAdvances_45 (cm_X2_nextShort (c := n9) (r := 65) (by rw [hT]; exact (by simp)) (by decide)) (rc_Cursor (q := n9) (r := 65) (by rw [hT]; exact (by simp))) rfl ⟨Nat.le_of_ble_eq_true rfl, Nat.le_of_ble_eq_true rfl⟩ (Nat.le_of_ble_eq_true rfl) (c2 := 1) (s2 := 4) rfl rfl ⟨Nat.le_of_ble_eq_true rfl, Nat.le_of_ble_eq_true rfl⟩ rfl (fun r16 S15 hp hTg => ?_)
    obtain ⟨e_r16, e_S15⟩ := hp
    replace h := h r16 S15 e_r16 e_S15
    have hT_S15 : S15.2.2.1 = T0 ++ [(n9, 2, 65)] := by rw [hTg]; exact hT
    refine ww_istore (lv2 := [(5, .int r16), (1, .ref (gad g (148 + j))), (3, .ref n9), (4, .int v4)]) C dX5_readAdvances_48 (Nat.le_of_ble_eq_true rfl) rfl ?_
    refine ww_iload C dX5_readAdvances_50 0 rfl ?_
    refine ww_sipush (v := 2000) C dX5_readAdvances_52 (by decide) ?_
    refine ww_icmp_le (tgt := 60) C dX5_readAdvances_55 (by decide) (fun q17 => ?_) (fun q17 => ?_)
    · replace h := h.1 q17
      refine ww_aload_n C dX5_readAdvances_60 1 rfl ?_
      refine ww_iload C dX5_readAdvances_61 3 rfl ?_
      refine ww_cVr (As := [.int v4]) (rest := []) C ok_X3_glyphAt bw_768 dX5_readAdvances_63 (cm_X3_glyphAt hj) (rc_Font hj) rfl ⟨Nat.le_of_ble_eq_true rfl, Nat.le_of_ble_eq_true rfl⟩ (Nat.le_of_ble_eq_true rfl) (c2 := 1) (s2 := 4) rfl rfl ⟨Nat.le_of_ble_eq_true rfl, Nat.le_of_ble_eq_true rfl⟩ rfl ?_
      refine ww_iload C dX5_readAdvances_66 0 rfl ?_
      refine ww_cVg (As := [.int r16]) (rest := []) C ok_X4_changeAdvance bw_812 dX5_readAdvances_68 (cm_X4_changeAdvance (glId_lt hj)) (rc_Glyph (glId_lt hj)) rfl ⟨Nat.le_of_ble_eq_true rfl, Nat.le_of_ble_eq_true rfl⟩ (Nat.le_of_ble_eq_true rfl) (c2 := 1) (s2 := 4) rfl rfl ⟨Nat.le_of_ble_eq_true rfl, Nat.le_of_ble_eq_true rfl⟩ rfl (fun hTg => ?_)
      refine ww_nm (fun S18 e_S18 => ?_)
      replace h := h S18 e_S18
      have hT_S18 : S18.2.2.1 = T0 ++ [(n9, 2, 65)] := by rw [e_S18, hTg]; exact hT_S15
      obtain ⟨x19, e_x19⟩ : ∃ z : Int32, z = v4 + 1 := ⟨_, rfl⟩
      replace h := h x19 e_x19
      refine ww_iinc (v := x19) (lv2 := [(4, .int x19), (5, .int r16), (1, .ref (gad g (148 + j))), (3, .ref n9)]) C dX5_readAdvances_71 3 rfl (by rw [e_x19]; rfl) (Nat.le_of_ble_eq_true rfl) rfl ?_
      refine ww_goto (tgt := 35) C dX5_readAdvances_74 (by decide) ?_
      exact ww_sub [2, 3, 0] rfl (h hT_S18)
    · replace h := h.2 q17
      refine ww_iconst (v := 0) C dX5_readAdvances_58 (by decide) ?_
      refine ww_drop (T0 := T0) (show S15.2.2.1 = T0 ++ [(n9, 2, 65)] by rw [hT_S15]) ?_
      exact ww_zret C hrt dX5_readAdvances_59 rfl (by decide) h
def wp_X5_readAdvances (T0 : List (Nat × Nat × Nat)) (S : St) (j : Nat) (P : Int32 → St → Prop) : Prop :=
  ∀ (X35 : St → Nat → Int32 → Prop), (∀ S n9 v4, st_X5_readAdvances_35 T0 j P X35 S n9 v4 → X35 S n9 v4) → ∀ x20 : Int32, x20 = rGet S 67 0 → ∀ n9 : Nat, (∀ t ∈ S.2.2.1, t.1 ≠ n9) → ∀ S21 : St, S21 = stT S (S.2.2.1 ++ [(n9, 5, 0)]) → ∀ S22 : St, S22 = cuIni S21 n9 65 x20 (x20 + (rGet S21 67 1)) → X35 S22 n9 0
set_option maxHeartbeats 4000000 in
set_option maxRecDepth 100000 in
theorem run_X5_readAdvances {l : Launch} {g : Gx} {S : St} {j : Nat} {P : Int32 → St → Prop} (hj : j < 2) (h : rowsLe S → wp_X5_readAdvances S.2.2.1 S j P) : CMi g l yX5_readAdvances cX5_readAdvances 6 (some .boolean) rm_X5_readAdvances [.ref (gad g 156), .ref (gad g (148 + j))] S P := cm_entry (own := RX5) (plainFor_of_name (by decide)) rfl (Nat.le_of_ble_eq_true rfl) rfl (fun hle f hf C hrt => by
  subst hf
  replace h := h hle
  obtain ⟨T0, hT⟩ : ∃ T, S.2.2.1 = T := ⟨_, rfl⟩
  rw [hT]
  rw [hT] at h
  replace h := h (at_X5_readAdvances_35 f g T0 j P) (fun S n9 v4 h => run_X5_readAdvances_35 C hrt hj h)
  refine ww_aload_n C dX5_readAdvances_0 0 rfl ?_
  refine gf_PackedReader_streamLengths C bw_142 dX5_readAdvances_1 ?_
  refine ww_iconst (v := 0) C dX5_readAdvances_4 (by decide) ?_
  refine ww_cVf (As := [.int 0]) (rest := []) C ok_X8_get bw_708 dX5_readAdvances_5 (cm_X8_get (by decide)) (rc_Row (by decide)) rfl ⟨Nat.le_of_ble_eq_true rfl, Nat.le_of_ble_eq_true rfl⟩ (Nat.le_of_ble_eq_true rfl) (c2 := 0) (s2 := 0) rfl rfl ⟨Nat.le_of_ble_eq_true rfl, Nat.le_of_ble_eq_true rfl⟩ rfl ?_
  refine ww_topi (fun x20 e_x20 => ?_)
  replace h := h x20 e_x20
  refine ww_istore_n (lv2 := [(2, .int x20), (0, .ref (gad g 156)), (1, .ref (gad g (148 + j)))]) C dX5_readAdvances_8 rfl (Nat.le_of_ble_eq_true rfl) rfl ?_
  refine ww_newCursor C bw_660 (Nat.le_of_ble_eq_true rfl) (Nat.le_of_ble_eq_true rfl) dX5_readAdvances_9 (fun n9 hf_n9 => ?_)
  replace h := h n9 hf_n9
  rw [hT] at hf_n9
  refine ww_nm (fun S21 e_S21 => ?_)
  replace h := h S21 e_S21
  have hT_S21 : S21.2.2.1 = T0 ++ [(n9, 5, 0)] := by rw [e_S21]; show S.2.2.1 ++ _ = _; simp [hT]
  refine ww_dup C dX5_readAdvances_12 rfl ?_
  refine ww_aload_n C dX5_readAdvances_13 1 rfl ?_
  refine gf_PackedReader_stream C bw_140 dX5_readAdvances_14 ?_
  refine ww_iload_n C dX5_readAdvances_17 0 rfl ?_
  refine ww_iload_n C dX5_readAdvances_18 0 rfl ?_
  refine ww_aload_n C dX5_readAdvances_19 1 rfl ?_
  refine gf_PackedReader_streamLengths C bw_142 dX5_readAdvances_20 ?_
  refine ww_iconst (v := 1) C dX5_readAdvances_23 (by decide) ?_
  refine ww_cVf (As := [.int 1]) (rest := [.int x20, .int x20, .ref (gad g 65), .ref n9, .ref n9]) C ok_X8_get bw_708 dX5_readAdvances_24 (cm_X8_get (by decide)) (rc_Row (by decide)) rfl ⟨Nat.le_of_ble_eq_true rfl, Nat.le_of_ble_eq_true rfl⟩ (Nat.le_of_ble_eq_true rfl) (c2 := 1) (s2 := 4) rfl rfl ⟨Nat.le_of_ble_eq_true rfl, Nat.le_of_ble_eq_true rfl⟩ rfl ?_
  refine ww_iadd C dX5_readAdvances_27 ?_
  refine ww_cIn (As := [.ref (gad g 65), .int x20, .int (x20 + (rGet S21 67 1))]) (rest := [.ref n9]) C ok_X2_init bw_663 dX5_readAdvances_28 (cm_X2_init (by rw [hT_S21]; simp) (by decide)) rfl ⟨Nat.le_of_ble_eq_true rfl, Nat.le_of_ble_eq_true rfl⟩ (Nat.le_of_ble_eq_true rfl) (c2 := 1) (s2 := 4) rfl rfl ⟨Nat.le_of_ble_eq_true rfl, Nat.le_of_ble_eq_true rfl⟩ rfl ?_
  refine ww_nm (fun S22 e_S22 => ?_)
  replace h := h S22 e_S22
  have hT_S22 : S22.2.2.1 = T0 ++ [(n9, 2, 65)] := by rw [e_S22]; show tlSet S21.2.2.1 _ = _; rw [hT_S21]; simpa using tlSet_push (k := 5) (o := 0) (k2 := 2) (r := 65) hf_n9
  refine ww_astore_n (lv2 := [(3, .ref n9), (2, .int x20), (0, .ref (gad g 156)), (1, .ref (gad g (148 + j)))]) C dX5_readAdvances_31 rfl (Nat.le_of_ble_eq_true rfl) rfl ?_
  refine ww_iconst (v := 0) C dX5_readAdvances_32 (by decide) ?_
  refine ww_istore (lv2 := [(4, .int 0), (3, .ref n9), (2, .int x20), (0, .ref (gad g 156)), (1, .ref (gad g (148 + j)))]) C dX5_readAdvances_33 (Nat.le_of_ble_eq_true rfl) rfl ?_
  exact ww_sub [4, 1, 0] rfl (h hT_S22))
abbrev rm_X5_readPacked : Room := { frames := 5, cells := 6, slots := 24, locals := 124 }
theorem ok_X5_readPacked : MOK yX5_readPacked RX5 cX5_readPacked 5 (some .int) 2 := ⟨bw_656, bw_657, bw_66, bw_658, by decide +kernel⟩
def wp_X5_readPacked_138 (T0 : List (Nat × Nat × Nat)) (r : Nat) (j : Nat) (S : St) (n4 : Nat) (n29 : Nat) (s0 : Int32) (P : Int32 → St → Prop) : Prop :=
  P s0 (stT S T0)
set_option maxHeartbeats 4000000 in
set_option maxRecDepth 100000 in
theorem run_X5_readPacked_138 {f : Fx} {g : Gx} {T0 : List (Nat × Nat × Nat)} {S : St} {r : Nat} {j : Nat} {P : Int32 → St → Prop} (C : Cx f g cX5_readPacked 5 RX5) (hrt : (fmeth f).sig.returnType = (some .int)) (hr : r < 68) (hj : j < 2) {n4 : Nat} {n29 : Nat} {s0 : Int32} (hT : S.2.2.1 = T0 ++ [(n4, 2, r), (n29, 0, r)])  (h : wp_X5_readPacked_138 T0 r j S n4 n29 s0 P) : WW f rm_X5_readPacked g 5 6 24 (Qi f g 6 24 T0 P) S 138 [] [.int s0] := by
  unfold wp_X5_readPacked_138 at h
  refine ww_drop (T0 := T0) (show S.2.2.1 = T0 ++ [(n4, 2, r), (n29, 0, r)] by rw [hT]) ?_
  exact ww_iret C hrt dX5_readPacked_138 rfl h
def wp_X5_readPacked_126 (T0 : List (Nat × Nat × Nat)) (r : Nat) (j : Nat) (S : St) (n4 : Nat) (n29 : Nat) (s0 : Int32) (P : Int32 → St → Prop) : Prop :=
  ((s0 = 0 → wp_X5_readPacked_138 T0 r j S n4 n29 4 P) ∧ (¬ s0 = 0 → wp_X5_readPacked_138 T0 r j S n4 n29 0 P))
set_option maxHeartbeats 4000000 in
set_option maxRecDepth 100000 in
theorem run_X5_readPacked_126 {f : Fx} {g : Gx} {T0 : List (Nat × Nat × Nat)} {S : St} {r : Nat} {j : Nat} {P : Int32 → St → Prop} (C : Cx f g cX5_readPacked 5 RX5) (hrt : (fmeth f).sig.returnType = (some .int)) (hr : r < 68) (hj : j < 2) {n4 : Nat} {n29 : Nat} {s0 : Int32} (hT : S.2.2.1 = T0 ++ [(n4, 2, r), (n29, 0, r)])  (h : wp_X5_readPacked_126 T0 r j S n4 n29 s0 P) : WW f rm_X5_readPacked g 5 6 24 (Qi f g 6 24 T0 P) S 126 [] [.int s0] := by
  unfold wp_X5_readPacked_126 at h
  refine ww_istore (lv2 := [(4, .int s0)]) C dX5_readPacked_126 (Nat.le_of_ble_eq_true rfl) rfl ?_
  refine ww_iload C dX5_readPacked_128 0 rfl ?_
  refine ww_if_eq (tgt := 137) C dX5_readPacked_130 (by decide) (fun q33 => ?_) (fun q33 => ?_)
  · replace h := h.1 q33
    refine ww_iconst (v := 4) C dX5_readPacked_137 (by decide) ?_
    exact ww_sub [] rfl (run_X5_readPacked_138 C hrt hr hj hT  h)
  · replace h := h.2 q33
    refine ww_iconst (v := 0) C dX5_readPacked_133 (by decide) ?_
    refine ww_goto (tgt := 138) C dX5_readPacked_134 (by decide) ?_
    exact ww_sub [] rfl (run_X5_readPacked_138 C hrt hr hj hT  h)
def wp_X5_readPacked_125 (T0 : List (Nat × Nat × Nat)) (r : Nat) (j : Nat) (S : St) (n4 : Nat) (n29 : Nat) (P : Int32 → St → Prop) : Prop :=
  wp_X5_readPacked_126 T0 r j S n4 n29 0 P
set_option maxHeartbeats 4000000 in
set_option maxRecDepth 100000 in
theorem run_X5_readPacked_125 {f : Fx} {g : Gx} {T0 : List (Nat × Nat × Nat)} {S : St} {r : Nat} {j : Nat} {P : Int32 → St → Prop} (C : Cx f g cX5_readPacked 5 RX5) (hrt : (fmeth f).sig.returnType = (some .int)) (hr : r < 68) (hj : j < 2) {n4 : Nat} {n29 : Nat} (hT : S.2.2.1 = T0 ++ [(n4, 2, r), (n29, 0, r)])  (h : wp_X5_readPacked_125 T0 r j S n4 n29 P) : WW f rm_X5_readPacked g 5 6 24 (Qi f g 6 24 T0 P) S 125 [] [] := by
  unfold wp_X5_readPacked_125 at h
  refine ww_iconst (v := 0) C dX5_readPacked_125 (by decide) ?_
  exact ww_sub [] rfl (run_X5_readPacked_126 C hrt hr hj hT  h)
def wp_X5_readPacked_74 (T0 : List (Nat × Nat × Nat)) (r : Nat) (j : Nat) (S : St) (n4 : Nat) (n29 : Nat) (P : Int32 → St → Prop) : Prop :=
  wp_X5_readBareTables S j (fun S34 => wp_X7_makeTables S34 j (fun S36 => ((¬ (rLen S36 (rwId S36 j 0)) = (rGet S36 66 0) → wp_X5_readPacked_125 T0 r j S36 n4 n29 P) ∧ ((rLen S36 (rwId S36 j 0)) = (rGet S36 66 0) → ((¬ (rLen S36 (rwId S36 j 1)) = (rGet S36 66 1) → wp_X5_readPacked_125 T0 r j S36 n4 n29 P) ∧ ((rLen S36 (rwId S36 j 1)) = (rGet S36 66 1) → wp_X5_readPacked_126 T0 r j S36 n4 n29 1 P))))))
set_option maxHeartbeats 4000000 in
set_option maxRecDepth 100000 in
theorem run_X5_readPacked_74 {f : Fx} {g : Gx} {T0 : List (Nat × Nat × Nat)} {S : St} {r : Nat} {j : Nat} {P : Int32 → St → Prop} (C : Cx f g cX5_readPacked 5 RX5) (hrt : (fmeth f).sig.returnType = (some .int)) (hr : r < 68) (hj : j < 2) {n4 : Nat} {n29 : Nat} (hT : S.2.2.1 = T0 ++ [(n4, 2, r), (n29, 0, r)])  (h : wp_X5_readPacked_74 T0 r j S n4 n29 P) : WW f rm_X5_readPacked g 5 6 24 (Qi f g 6 24 T0 P) S 74 [(0, .ref (gad g 156)), (2, .ref (gad g (148 + j)))] [] := by
  unfold wp_X5_readPacked_74 at h
  refine ww_aload_n C dX5_readPacked_74 0 rfl ?_
  refine ww_aload_n C dX5_readPacked_75 1 rfl ?_
  refine ww_cVv (As := [.ref (gad g (148 + j))]) (rest := []) C ok_X5_readBareTables bw_816 dX5_readPacked_76 (run_X5_readBareTables hj (fun _ => h)) rc_PackedReader rfl ⟨Nat.le_of_ble_eq_true rfl, Nat.le_of_ble_eq_true rfl⟩ (Nat.le_of_ble_eq_true rfl) (c2 := 6) (s2 := 24) rfl rfl ⟨Nat.le_of_ble_eq_true rfl, Nat.le_of_ble_eq_true rfl⟩ rfl (fun S34 hp hTg => ?_)
  replace h := hp
  have hT_S34 : S34.2.2.1 = T0 ++ [(n4, 2, r), (n29, 0, r)] := by rw [hTg]; exact hT
  refine ww_aload_n C dX5_readPacked_79 1 rfl ?_
  refine ww_cSv (As := [.ref (gad g (148 + j))]) (rest := []) C ok_X7_makeTables bw_821 dX5_readPacked_80 (run_X7_makeTables hj (fun _ => h)) rfl ⟨Nat.le_of_ble_eq_true rfl, Nat.le_of_ble_eq_true rfl⟩ (Nat.le_of_ble_eq_true rfl) (c2 := 6) (s2 := 24) rfl rfl ⟨Nat.le_of_ble_eq_true rfl, Nat.le_of_ble_eq_true rfl⟩ rfl (fun S36 hp hTg => ?_)
  replace h := hp
  have hT_S36 : S36.2.2.1 = T0 ++ [(n4, 2, r), (n29, 0, r)] := by rw [hTg]; exact hT_S34
  refine ww_aload_n C dX5_readPacked_83 1 rfl ?_
  refine ww_iconst (v := 0) C dX5_readPacked_84 (by decide) ?_
  refine ww_cVr (As := [.int 0]) (rest := []) C ok_X3_tableRow bw_820 dX5_readPacked_85 (cm_X3_tableRow hj) (rc_Font hj) rfl ⟨Nat.le_of_ble_eq_true rfl, Nat.le_of_ble_eq_true rfl⟩ (Nat.le_of_ble_eq_true rfl) (c2 := 6) (s2 := 24) rfl rfl ⟨Nat.le_of_ble_eq_true rfl, Nat.le_of_ble_eq_true rfl⟩ rfl ?_
  refine ww_cVf (As := []) (rest := []) C ok_X8_length bw_662 dX5_readPacked_88 (cm_X8_length (rwId_lt hj)) (rc_Row (rwId_lt hj)) rfl ⟨Nat.le_of_ble_eq_true rfl, Nat.le_of_ble_eq_true rfl⟩ (Nat.le_of_ble_eq_true rfl) (c2 := 6) (s2 := 24) rfl rfl ⟨Nat.le_of_ble_eq_true rfl, Nat.le_of_ble_eq_true rfl⟩ rfl ?_
  refine ww_aload_n C dX5_readPacked_91 0 rfl ?_
  refine gf_PackedReader_plainLengths C bw_141 dX5_readPacked_92 ?_
  refine ww_iconst (v := 0) C dX5_readPacked_95 (by decide) ?_
  refine ww_cVf (As := [.int 0]) (rest := [.int (rLen S36 (rwId S36 j 0))]) C ok_X8_get bw_708 dX5_readPacked_96 (cm_X8_get (by decide)) (rc_Row (by decide)) rfl ⟨Nat.le_of_ble_eq_true rfl, Nat.le_of_ble_eq_true rfl⟩ (Nat.le_of_ble_eq_true rfl) (c2 := 6) (s2 := 24) rfl rfl ⟨Nat.le_of_ble_eq_true rfl, Nat.le_of_ble_eq_true rfl⟩ rfl ?_
  refine ww_icmp_ne (tgt := 125) C dX5_readPacked_99 (by decide) (fun q38 => ?_) (fun q38 => ?_)
  · replace h := h.1 q38
    exact ww_sub [] rfl (run_X5_readPacked_125 C hrt hr hj hT_S36  h)
  · replace h := h.2 q38
    refine ww_aload_n C dX5_readPacked_102 1 rfl ?_
    refine ww_iconst (v := 1) C dX5_readPacked_103 (by decide) ?_
    refine ww_cVr (As := [.int 1]) (rest := []) C ok_X3_tableRow bw_820 dX5_readPacked_104 (cm_X3_tableRow hj) (rc_Font hj) rfl ⟨Nat.le_of_ble_eq_true rfl, Nat.le_of_ble_eq_true rfl⟩ (Nat.le_of_ble_eq_true rfl) (c2 := 6) (s2 := 24) rfl rfl ⟨Nat.le_of_ble_eq_true rfl, Nat.le_of_ble_eq_true rfl⟩ rfl ?_
    refine ww_cVf (As := []) (rest := []) C ok_X8_length bw_662 dX5_readPacked_107 (cm_X8_length (rwId_lt hj)) (rc_Row (rwId_lt hj)) rfl ⟨Nat.le_of_ble_eq_true rfl, Nat.le_of_ble_eq_true rfl⟩ (Nat.le_of_ble_eq_true rfl) (c2 := 6) (s2 := 24) rfl rfl ⟨Nat.le_of_ble_eq_true rfl, Nat.le_of_ble_eq_true rfl⟩ rfl ?_
    refine ww_aload_n C dX5_readPacked_110 0 rfl ?_
    refine gf_PackedReader_plainLengths C bw_141 dX5_readPacked_111 ?_
    refine ww_iconst (v := 1) C dX5_readPacked_114 (by decide) ?_
    refine ww_cVf (As := [.int 1]) (rest := [.int (rLen S36 (rwId S36 j 1))]) C ok_X8_get bw_708 dX5_readPacked_115 (cm_X8_get (by decide)) (rc_Row (by decide)) rfl ⟨Nat.le_of_ble_eq_true rfl, Nat.le_of_ble_eq_true rfl⟩ (Nat.le_of_ble_eq_true rfl) (c2 := 6) (s2 := 24) rfl rfl ⟨Nat.le_of_ble_eq_true rfl, Nat.le_of_ble_eq_true rfl⟩ rfl ?_
    refine ww_icmp_ne (tgt := 125) C dX5_readPacked_118 (by decide) (fun q39 => ?_) (fun q39 => ?_)
    · replace h := h.1 q39
      exact ww_sub [] rfl (run_X5_readPacked_125 C hrt hr hj hT_S36  h)
    · replace h := h.2 q39
      refine ww_iconst (v := 1) C dX5_readPacked_121 (by decide) ?_
      refine ww_goto (tgt := 126) C dX5_readPacked_122 (by decide) ?_
      exact ww_sub [] rfl (run_X5_readPacked_126 C hrt hr hj hT_S36  h)
def wp_X5_readPacked_72 (T0 : List (Nat × Nat × Nat)) (r : Nat) (j : Nat) (S : St) (n4 : Nat) (n29 : Nat) (P : Int32 → St → Prop) : Prop :=
  P 3 (stT S T0)
set_option maxHeartbeats 4000000 in
set_option maxRecDepth 100000 in
theorem run_X5_readPacked_72 {f : Fx} {g : Gx} {T0 : List (Nat × Nat × Nat)} {S : St} {r : Nat} {j : Nat} {P : Int32 → St → Prop} (C : Cx f g cX5_readPacked 5 RX5) (hrt : (fmeth f).sig.returnType = (some .int)) (hr : r < 68) (hj : j < 2) {n4 : Nat} {n29 : Nat} (hT : S.2.2.1 = T0 ++ [(n4, 2, r), (n29, 0, r)])  (h : wp_X5_readPacked_72 T0 r j S n4 n29 P) : WW f rm_X5_readPacked g 5 6 24 (Qi f g 6 24 T0 P) S 72 [] [] := by
  unfold wp_X5_readPacked_72 at h
  refine ww_iconst (v := 3) C dX5_readPacked_72 (by decide) ?_
  refine ww_drop (T0 := T0) (show S.2.2.1 = T0 ++ [(n4, 2, r), (n29, 0, r)] by rw [hT]) ?_
  exact ww_iret C hrt dX5_readPacked_73 rfl h
def wp_X5_readPacked (T0 : List (Nat × Nat × Nat)) (S : St) (r : Nat) (j : Nat) (P : Int32 → St → Prop) : Prop :=
  wp_X3_makeEmpty S j (fun S40 => ∀ n4 : Nat, (∀ t ∈ S40.2.2.1, t.1 ≠ n4) → ∀ S42 : St, S42 = stT S40 (S40.2.2.1 ++ [(n4, 5, 0)]) → ∀ S43 : St, S43 = cuIni S42 n4 r 0 (rLen S42 r) → wp_X5_readHead S43 n4 r (fun r45 S44 => ((¬ r45 = 0 → ∀ n29 : Nat, (∀ t ∈ S44.2.2.1, t.1 ≠ n29) → ∀ S47 : St, S47 = stT S44 (S44.2.2.1 ++ [(n29, 3, 0)]) → ∀ S48 : St, S48 = brIni S47 n29 r (fv_X2_place S47 n4 r) → wp_X5_expandStream S48 n29 r (fun r50 S49 => ((¬ r50 = 0 → (((S49.2.1 2 0) = 0 → wp_X5_readPacked_74 T0 r j S49 n4 n29 P) ∧ (¬ (S49.2.1 2 0) = 0 → wp_X5_readOutlines (S49).2.2.1 S49 j (fun r54 S53 => ((r54 = 0 → wp_X5_readPacked_72 T0 r j S53 n4 n29 P) ∧ (¬ r54 = 0 → wp_X5_readAdvances (S53).2.2.1 S53 j (fun r57 S56 => ((¬ r57 = 0 → wp_X5_readPacked_74 T0 r j S56 n4 n29 P) ∧ (r57 = 0 → wp_X5_readPacked_72 T0 r j S56 n4 n29 P))))))))) ∧ (r50 = 0 → P 2 (stT S49 T0))))) ∧ (r45 = 0 → P 1 (stT S44 T0)))))
set_option maxHeartbeats 4000000 in
set_option maxRecDepth 100000 in
theorem run_X5_readPacked {l : Launch} {g : Gx} {S : St} {r : Nat} {j : Nat} {P : Int32 → St → Prop} (hr : r < 68) (hj : j < 2) (h : rowsLe S → wp_X5_readPacked S.2.2.1 S r j P) : CMi g l yX5_readPacked cX5_readPacked 5 (some .int) rm_X5_readPacked [.ref (gad g 156), .ref (gad g r), .ref (gad g (148 + j))] S P := cm_entry (own := RX5) (plainFor_of_name (by decide)) rfl (Nat.le_of_ble_eq_true rfl) rfl (fun hle f hf C hrt => by
  subst hf
  replace h := h hle
  obtain ⟨T0, hT⟩ : ∃ T, S.2.2.1 = T := ⟨_, rfl⟩
  rw [hT]
  rw [hT] at h
  unfold wp_X5_readPacked at h
  refine ww_aload_n C dX5_readPacked_0 2 rfl ?_
  refine ww_cVv (As := []) (rest := []) C ok_X3_makeEmpty bw_659 dX5_readPacked_1 (run_X3_makeEmpty hj (fun _ => h)) (rc_Font hj) rfl ⟨Nat.le_of_ble_eq_true rfl, Nat.le_of_ble_eq_true rfl⟩ (Nat.le_of_ble_eq_true rfl) (c2 := 0) (s2 := 0) rfl rfl ⟨Nat.le_of_ble_eq_true rfl, Nat.le_of_ble_eq_true rfl⟩ rfl (fun S40 hp hTg => ?_)
  replace h := hp
  have hT_S40 : S40.2.2.1 = T0 := by rw [hTg]; exact hT
  refine ww_newCursor C bw_660 (Nat.le_of_ble_eq_true rfl) (Nat.le_of_ble_eq_true rfl) dX5_readPacked_4 (fun n4 hf_n4 => ?_)
  replace h := h n4 hf_n4
  rw [hT_S40] at hf_n4
  refine ww_nm (fun S42 e_S42 => ?_)
  replace h := h S42 e_S42
  have hT_S42 : S42.2.2.1 = T0 ++ [(n4, 5, 0)] := by rw [e_S42]; show S40.2.2.1 ++ _ = _; simp [hT_S40]
  refine ww_dup C dX5_readPacked_7 rfl ?_
  refine ww_aload_n C dX5_readPacked_8 1 rfl ?_
  refine ww_iconst (v := 0) C dX5_readPacked_9 (by decide) ?_
  refine ww_aload_n C dX5_readPacked_10 1 rfl ?_
  refine ww_cVf (As := []) (rest := [.int 0, .ref (gad g r), .ref n4, .ref n4]) C ok_X8_length bw_662 dX5_readPacked_11 (cm_X8_length hr) (rc_Row hr) rfl ⟨Nat.le_of_ble_eq_true rfl, Nat.le_of_ble_eq_true rfl⟩ (Nat.le_of_ble_eq_true rfl) (c2 := 1) (s2 := 4) rfl rfl ⟨Nat.le_of_ble_eq_true rfl, Nat.le_of_ble_eq_true rfl⟩ rfl ?_
  refine ww_cIn (As := [.ref (gad g r), .int 0, .int (rLen S42 r)]) (rest := [.ref n4]) C ok_X2_init bw_663 dX5_readPacked_14 (cm_X2_init (by rw [hT_S42]; simp) hr) rfl ⟨Nat.le_of_ble_eq_true rfl, Nat.le_of_ble_eq_true rfl⟩ (Nat.le_of_ble_eq_true rfl) (c2 := 1) (s2 := 4) rfl rfl ⟨Nat.le_of_ble_eq_true rfl, Nat.le_of_ble_eq_true rfl⟩ rfl ?_
  refine ww_nm (fun S43 e_S43 => ?_)
  replace h := h S43 e_S43
  have hT_S43 : S43.2.2.1 = T0 ++ [(n4, 2, r)] := by rw [e_S43]; show tlSet S42.2.2.1 _ = _; rw [hT_S42]; simpa using tlSet_push (k := 5) (o := 0) (k2 := 2) (r := r) hf_n4
  refine ww_astore_n (lv2 := [(3, .ref n4), (0, .ref (gad g 156)), (1, .ref (gad g r)), (2, .ref (gad g (148 + j)))]) C dX5_readPacked_17 rfl (Nat.le_of_ble_eq_true rfl) rfl ?_
  refine ww_aload_n C dX5_readPacked_18 1 rfl ?_
  refine ww_aload_n C dX5_readPacked_19 0 rfl ?_
  refine ww_cVi (As := [.ref n4]) (rest := []) C ok_X5_readHead bw_680 dX5_readPacked_20 (run_X5_readHead (c := n4) (r := r) (by rw [hT_S43]; exact (by simp)) hr (fun _ => h)) rc_PackedReader rfl ⟨Nat.le_of_ble_eq_true rfl, Nat.le_of_ble_eq_true rfl⟩ (Nat.le_of_ble_eq_true rfl) (c2 := 1) (s2 := 4) rfl rfl ⟨Nat.le_of_ble_eq_true rfl, Nat.le_of_ble_eq_true rfl⟩ rfl (fun r45 S44 hp hTg => ?_)
  replace h := hp
  have hT_S44 : S44.2.2.1 = T0 ++ [(n4, 2, r)] := by rw [hTg]; exact hT_S43
  refine ww_if_ne (tgt := 28) C dX5_readPacked_23 (by decide) (fun q46 => ?_) (fun q46 => ?_)
  · replace h := h.1 q46
    refine ww_aload_n C dX5_readPacked_28 1 rfl ?_
    refine ww_newReader C bw_709 (Nat.le_of_ble_eq_true rfl) (Nat.le_of_ble_eq_true rfl) dX5_readPacked_29 (fun n29 hf_n29 => ?_)
    replace h := h n29 hf_n29
    rw [hT_S44] at hf_n29
    refine ww_nm (fun S47 e_S47 => ?_)
    replace h := h S47 e_S47
    have hT_S47 : S47.2.2.1 = T0 ++ [(n4, 2, r), (n29, 3, 0)] := by rw [e_S47]; show S44.2.2.1 ++ _ = _; simp [hT_S44]
    refine ww_dup C dX5_readPacked_32 rfl ?_
    refine ww_aload_n C dX5_readPacked_33 2 rfl ?_
    refine ww_aload_n C dX5_readPacked_34 0 rfl ?_
    refine ww_cVf (As := []) (rest := [.ref (gad g r), .ref n29, .ref n29, .ref (gad g 156)]) C ok_X2_place bw_711 dX5_readPacked_35 (cm_X2_place (c := n4) (r := r) (by rw [hT_S47]; exact (by simp)) hr) (rc_Cursor (q := n4) (r := r) (by rw [hT_S47]; exact (by simp))) rfl ⟨Nat.le_of_ble_eq_true rfl, Nat.le_of_ble_eq_true rfl⟩ (Nat.le_of_ble_eq_true rfl) (c2 := 2) (s2 := 8) rfl rfl ⟨Nat.le_of_ble_eq_true rfl, Nat.le_of_ble_eq_true rfl⟩ rfl ?_
    refine ww_cIn (As := [.ref (gad g r), .int (fv_X2_place S47 n4 r)]) (rest := [.ref n29, .ref (gad g 156)]) C ok_X0_init bw_715 dX5_readPacked_38 (cm_X0_init (by rw [hT_S47]; simp) hr) rfl ⟨Nat.le_of_ble_eq_true rfl, Nat.le_of_ble_eq_true rfl⟩ (Nat.le_of_ble_eq_true rfl) (c2 := 2) (s2 := 8) rfl rfl ⟨Nat.le_of_ble_eq_true rfl, Nat.le_of_ble_eq_true rfl⟩ rfl ?_
    refine ww_nm (fun S48 e_S48 => ?_)
    replace h := h S48 e_S48
    have hT_S48 : S48.2.2.1 = T0 ++ [(n4, 2, r), (n29, 0, r)] := by rw [e_S48]; show tlSet S47.2.2.1 _ = _; rw [hT_S47]; simpa using tlSet_push (k := 3) (o := 0) (k2 := 0) (r := r) hf_n29
    refine ww_cVi (As := [.ref n29]) (rest := []) C ok_X5_expandStream bw_733 dX5_readPacked_41 (run_X5_expandStream (c := n29) (r := r) (by rw [hT_S48]; exact (by simp)) hr (fun _ => h)) rc_PackedReader rfl ⟨Nat.le_of_ble_eq_true rfl, Nat.le_of_ble_eq_true rfl⟩ (Nat.le_of_ble_eq_true rfl) (c2 := 2) (s2 := 8) rfl rfl ⟨Nat.le_of_ble_eq_true rfl, Nat.le_of_ble_eq_true rfl⟩ rfl (fun r50 S49 hp hTg => ?_)
    replace h := hp
    have hT_S49 : S49.2.2.1 = T0 ++ [(n4, 2, r), (n29, 0, r)] := by rw [hTg]; exact hT_S48
    refine ww_if_ne (tgt := 49) C dX5_readPacked_44 (by decide) (fun q51 => ?_) (fun q51 => ?_)
    · replace h := h.1 q51
      refine ww_aload_n C dX5_readPacked_49 1 rfl ?_
      refine gf_PackedReader_saysGlyphs C bw_143 dX5_readPacked_50 ?_
      refine ww_if_eq (tgt := 74) C dX5_readPacked_53 (by decide) (fun q52 => ?_) (fun q52 => ?_)
      · replace h := h.1 q52
        refine ww_widen (c2 := 6) (s2 := 24) (by omega) (by omega) ?_
        exact ww_sub [1, 3] rfl (run_X5_readPacked_74 C hrt hr hj hT_S49  h)
      · replace h := h.2 q52
        refine ww_aload_n C dX5_readPacked_56 1 rfl ?_
        refine ww_aload_n C dX5_readPacked_57 3 rfl ?_
        refine ww_cVi (As := [.ref (gad g (148 + j))]) (rest := []) C ok_X5_readOutlines bw_760 dX5_readPacked_58 (run_X5_readOutlines hj (fun _ => h)) rc_PackedReader rfl ⟨Nat.le_of_ble_eq_true rfl, Nat.le_of_ble_eq_true rfl⟩ (Nat.le_of_ble_eq_true rfl) (c2 := 5) (s2 := 20) rfl rfl ⟨Nat.le_of_ble_eq_true rfl, Nat.le_of_ble_eq_true rfl⟩ rfl (fun r54 S53 hp hTg => ?_)
        replace h := hp
        have hT_S53 : S53.2.2.1 = T0 ++ [(n4, 2, r), (n29, 0, r)] := by rw [hTg]; exact hT_S49
        refine ww_if_eq (tgt := 72) C dX5_readPacked_61 (by decide) (fun q55 => ?_) (fun q55 => ?_)
        · replace h := h.1 q55
          refine ww_widen (c2 := 6) (s2 := 24) (by omega) (by omega) ?_
          exact ww_sub [] rfl (run_X5_readPacked_72 C hrt hr hj hT_S53  h)
        · replace h := h.2 q55
          refine ww_aload_n C dX5_readPacked_64 1 rfl ?_
          refine ww_aload_n C dX5_readPacked_65 3 rfl ?_
          refine ww_cVi (As := [.ref (gad g (148 + j))]) (rest := []) C ok_X5_readAdvances bw_808 dX5_readPacked_66 (run_X5_readAdvances hj (fun _ => h)) rc_PackedReader rfl ⟨Nat.le_of_ble_eq_true rfl, Nat.le_of_ble_eq_true rfl⟩ (Nat.le_of_ble_eq_true rfl) (c2 := 6) (s2 := 24) rfl rfl ⟨Nat.le_of_ble_eq_true rfl, Nat.le_of_ble_eq_true rfl⟩ rfl (fun r57 S56 hp hTg => ?_)
          replace h := hp
          have hT_S56 : S56.2.2.1 = T0 ++ [(n4, 2, r), (n29, 0, r)] := by rw [hTg]; exact hT_S53
          refine ww_if_ne (tgt := 74) C dX5_readPacked_69 (by decide) (fun q58 => ?_) (fun q58 => ?_)
          · replace h := h.1 q58
            exact ww_sub [1, 3] rfl (run_X5_readPacked_74 C hrt hr hj hT_S56  h)
          · replace h := h.2 q58
            exact ww_sub [] rfl (run_X5_readPacked_72 C hrt hr hj hT_S56  h)
    · replace h := h.2 q51
      refine ww_iconst (v := 2) C dX5_readPacked_47 (by decide) ?_
      refine ww_drop (T0 := T0) (show S49.2.2.1 = T0 ++ [(n4, 2, r), (n29, 0, r)] by rw [hT_S49]) ?_
      refine ww_widen (c2 := 6) (s2 := 24) (by omega) (by omega) ?_
      exact ww_iret C hrt dX5_readPacked_48 rfl h
  · replace h := h.2 q46
    refine ww_iconst (v := 1) C dX5_readPacked_26 (by decide) ?_
    refine ww_drop (T0 := T0) (show S44.2.2.1 = T0 ++ [(n4, 2, r)] by rw [hT_S44]) ?_
    refine ww_widen (c2 := 6) (s2 := 24) (by omega) (by omega) ?_
    exact ww_iret C hrt dX5_readPacked_27 rfl h)
