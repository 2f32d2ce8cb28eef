abbrev rm_X11_pack : Room := { frames := 5, cells := 0, slots := 0, locals := 118 }
theorem ok_X11_pack : MOK yX11_pack RX11 cX11_pack 3 (some .int) 0 := ⟨bw_1078, bw_1079, bw_69, bw_1080, by decide +kernel⟩
def st_X11_pack_13  (P : Int32 → St → Prop) (X13 : St → Int32 → Prop) (X57 : St → Int32 → Prop) (X100 : St → Int32 → Int32 → Int32 → Prop) (X126 : St → Int32 → Prop) (S : St) (s0 : Int32) : Prop :=
  ∀ S38 : St, S38 = stM S 9 0 s0 → (((S38.2.1 9 0) ≤ 0 → ∀ S40 : St, S40 = stM S38 9 3 0 → ∀ S41 : St, S41 = stM S40 9 4 0 → wp_X11_add S41 119 (fun S42 => wp_X11_add S42 50 (fun S44 => wp_X11_tables S44 (fun r47 S46 => wp_X11_add S46 r47 (fun S48 => X57 S48 0))))) ∧ (¬ (S38.2.1 9 0) ≤ 0 → P 0 S38))
def st_X11_pack_57  (P : Int32 → St → Prop) (X13 : St → Int32 → Prop) (X57 : St → Int32 → Prop) (X100 : St → Int32 → Int32 → Int32 → Prop) (X126 : St → Int32 → Prop) (S : St) (v1 : Int32) : Prop :=
  ((7 ≤ v1 → wp_X11_addLong S (S.2.1 9 4) (fun S51 => wp_X11_compress S51 (fun S53 => P (S53.2.1 9 3) S53))) ∧ (¬ 7 ≤ v1 → wp_X11_has S v1 (fun r56 S55 => ((r56 = 0 → X126 S55 v1) ∧ (¬ r56 = 0 → ∀ x58 : Int32, x58 = S55.2.1 9 4 → wp_X11_flowTable S55 v1 (fun S59 => wp_X11_layTable S59 v1 (fun S61 => ((2 ≤ v1 → X100 S61 v1 x58 v1) ∧ (¬ 2 ≤ v1 → X100 S61 v1 x58 (64 + v1))))))))))
def st_X11_pack_100  (P : Int32 → St → Prop) (X13 : St → Int32 → Prop) (X57 : St → Int32 → Prop) (X100 : St → Int32 → Int32 → Int32 → Prop) (X126 : St → Int32 → Prop) (S : St) (v1 : Int32) (v2 : Int32) (s0 : Int32) : Prop :=
  wp_X11_add S s0 (fun S64 => wp_X11_addLong S64 (S64.2.1 9 5) (fun S66 => ((2 ≤ v1 → X126 S66 v1) ∧ (¬ 2 ≤ v1 → wp_X11_addLong S66 ((S66.2.1 9 4) - v2) (fun S69 => X126 S69 v1)))))
def st_X11_pack_126  (P : Int32 → St → Prop) (X13 : St → Int32 → Prop) (X57 : St → Int32 → Prop) (X100 : St → Int32 → Int32 → Int32 → Prop) (X126 : St → Int32 → Prop) (S : St) (v1 : Int32) : Prop :=
  ∀ x71 : Int32, x71 = v1 + 1 → X57 S x71
def at_X11_pack_13 (f : Fx) (g : Gx) (T0 : List (Nat × Nat × Nat))  (P : Int32 → St → Prop) (S : St) (s0 : Int32) : Prop := S.2.2.1 = T0 → WW f rm_X11_pack g 3 0 0 (Qi f g 0 0 T0 P) S 13 [(0, .ref (gad g 158))] [.int s0, .ref (gad g 158)]
def at_X11_pack_57 (f : Fx) (g : Gx) (T0 : List (Nat × Nat × Nat))  (P : Int32 → St → Prop) (S : St) (v1 : Int32) : Prop := S.2.2.1 = T0 → WW f rm_X11_pack g 3 0 0 (Qi f g 0 0 T0 P) S 57 [(0, .ref (gad g 158)), (1, .int v1)] []
def at_X11_pack_100 (f : Fx) (g : Gx) (T0 : List (Nat × Nat × Nat))  (P : Int32 → St → Prop) (S : St) (v1 : Int32) (v2 : Int32) (s0 : Int32) : Prop := S.2.2.1 = T0 → WW f rm_X11_pack g 3 0 0 (Qi f g 0 0 T0 P) S 100 [(0, .ref (gad g 158)), (1, .int v1), (2, .int v2)] [.int s0, .ref (gad g 158)]
def at_X11_pack_126 (f : Fx) (g : Gx) (T0 : List (Nat × Nat × Nat))  (P : Int32 → St → Prop) (S : St) (v1 : Int32) : Prop := S.2.2.1 = T0 → WW f rm_X11_pack g 3 0 0 (Qi f g 0 0 T0 P) S 126 [(0, .ref (gad g 158)), (1, .int v1)] []
set_option maxHeartbeats 4000000 in
set_option maxRecDepth 100000 in
theorem run_X11_pack_13 {f : Fx} {g : Gx} {T0 : List (Nat × Nat × Nat)} {S : St}  {P : Int32 → St → Prop} (C : Cx f g cX11_pack 3 RX11) (hrt : (fmeth f).sig.returnType = (some .int))  {s0 : Int32} (h : st_X11_pack_13  P (at_X11_pack_13 f g T0  P) (at_X11_pack_57 f g T0  P) (at_X11_pack_100 f g T0  P) (at_X11_pack_126 f g T0  P) S s0) : at_X11_pack_13 f g T0  P S s0 := by
  intro hT 
  unfold st_X11_pack_13 at h
  refine pf_Model_thrown C bw_923 dX11_pack_13 ?_
  refine ww_nm (fun S38 e_S38 => ?_)
  replace h := h S38 e_S38
  have hT_S38 : S38.2.2.1 = T0 := by rw [e_S38]; exact hT
  refine ww_aload_n C dX11_pack_16 0 rfl ?_
  refine gf_Model_thrown C bw_923 dX11_pack_17 ?_
  refine ww_if_le (tgt := 25) C dX11_pack_20 (by decide) (fun q39 => ?_) (fun q39 => ?_)
  · replace h := h.1 q39
    refine ww_aload_n C dX11_pack_25 0 rfl ?_
    refine ww_iconst (v := 0) C dX11_pack_26 (by decide) ?_
    refine pf_Model_buffered C bw_945 dX11_pack_27 ?_
    refine ww_nm (fun S40 e_S40 => ?_)
    replace h := h S40 e_S40
    have hT_S40 : S40.2.2.1 = T0 := by rw [e_S40]; exact hT_S38
    refine ww_aload_n C dX11_pack_30 0 rfl ?_
    refine ww_iconst (v := 0) C dX11_pack_31 (by decide) ?_
    refine pf_Model_streamed C bw_947 dX11_pack_32 ?_
    refine ww_nm (fun S41 e_S41 => ?_)
    replace h := h S41 e_S41
    have hT_S41 : S41.2.2.1 = T0 := by rw [e_S41]; exact hT_S40
    refine ww_aload_n C dX11_pack_35 0 rfl ?_
    refine ww_bipush (v := 119) C dX11_pack_36 (by decide) ?_
    refine ww_cVv (As := [.int 119]) (rest := []) C ok_X11_add bw_1081 dX11_pack_38 (run_X11_add  (fun _ => h)) rc_Model rfl ⟨Nat.le_of_ble_eq_true rfl, Nat.le_of_ble_eq_true rfl⟩ (Nat.le_of_ble_eq_true rfl) (c2 := 0) (s2 := 0) rfl rfl ⟨Nat.le_of_ble_eq_true rfl, Nat.le_of_ble_eq_true rfl⟩ rfl (fun S42 hp hTg => ?_)
    replace h := hp
    have hT_S42 : S42.2.2.1 = T0 := by rw [hTg]; exact hT_S41
    refine ww_aload_n C dX11_pack_41 0 rfl ?_
    refine ww_bipush (v := 50) C dX11_pack_42 (by decide) ?_
    refine ww_cVv (As := [.int 50]) (rest := []) C ok_X11_add bw_1081 dX11_pack_44 (run_X11_add  (fun _ => h)) rc_Model rfl ⟨Nat.le_of_ble_eq_true rfl, Nat.le_of_ble_eq_true rfl⟩ (Nat.le_of_ble_eq_true rfl) (c2 := 0) (s2 := 0) rfl rfl ⟨Nat.le_of_ble_eq_true rfl, Nat.le_of_ble_eq_true rfl⟩ rfl (fun S44 hp hTg => ?_)
    replace h := hp
    have hT_S44 : S44.2.2.1 = T0 := by rw [hTg]; exact hT_S42
    refine ww_aload_n C dX11_pack_47 0 rfl ?_
    refine ww_aload_n C dX11_pack_48 0 rfl ?_
    refine ww_cVi (As := []) (rest := [.ref (gad g 158)]) C ok_X11_tables bw_1085 dX11_pack_49 (run_X11_tables  (fun _ => h)) rc_Model rfl ⟨Nat.le_of_ble_eq_true rfl, Nat.le_of_ble_eq_true rfl⟩ (Nat.le_of_ble_eq_true rfl) (c2 := 0) (s2 := 0) rfl rfl ⟨Nat.le_of_ble_eq_true rfl, Nat.le_of_ble_eq_true rfl⟩ rfl (fun r47 S46 hp hTg => ?_)
    replace h := hp
    have hT_S46 : S46.2.2.1 = T0 := by rw [hTg]; exact hT_S44
    refine ww_cVv (As := [.int r47]) (rest := []) C ok_X11_add bw_1081 dX11_pack_52 (run_X11_add  (fun _ => h)) rc_Model rfl ⟨Nat.le_of_ble_eq_true rfl, Nat.le_of_ble_eq_true rfl⟩ (Nat.le_of_ble_eq_true rfl) (c2 := 0) (s2 := 0) rfl rfl ⟨Nat.le_of_ble_eq_true rfl, Nat.le_of_ble_eq_true rfl⟩ rfl (fun S48 hp hTg => ?_)
    replace h := hp
    have hT_S48 : S48.2.2.1 = T0 := by rw [hTg]; exact hT_S46
    refine ww_iconst (v := 0) C dX11_pack_55 (by decide) ?_
    refine ww_istore_n (lv2 := [(1, .int 0), (0, .ref (gad g 158))]) C dX11_pack_56 rfl (Nat.le_of_ble_eq_true rfl) rfl ?_
    exact ww_sub [1, 0] rfl (h hT_S48)
  · replace h := h.2 q39
    refine ww_iconst (v := 0) C dX11_pack_23 (by decide) ?_
    exact ww_iret C hrt dX11_pack_24 hT_S38 h
set_option maxHeartbeats 4000000 in
set_option maxRecDepth 100000 in
theorem run_X11_pack_57 {f : Fx} {g : Gx} {T0 : List (Nat × Nat × Nat)} {S : St}  {P : Int32 → St → Prop} (C : Cx f g cX11_pack 3 RX11) (hrt : (fmeth f).sig.returnType = (some .int))  {v1 : Int32} (h : st_X11_pack_57  P (at_X11_pack_13 f g T0  P) (at_X11_pack_57 f g T0  P) (at_X11_pack_100 f g T0  P) (at_X11_pack_126 f g T0  P) S v1) : at_X11_pack_57 f g T0  P S v1 := by
  intro hT 
  unfold st_X11_pack_57 at h
  refine ww_iload_n C dX11_pack_57 1 rfl ?_
  refine ww_bipush (v := 7) C dX11_pack_58 (by decide) ?_
  refine ww_icmp_ge (tgt := 132) C dX11_pack_60 (by decide) (fun q50 => ?_) (fun q50 => ?_)
  · replace h := h.1 q50
    refine ww_aload_n C dX11_pack_132 0 rfl ?_
    refine ww_aload_n C dX11_pack_133 0 rfl ?_
    refine gf_Model_streamed C bw_947 dX11_pack_134 ?_
    refine ww_cVv (As := [.int (S.2.1 9 4)]) (rest := []) C ok_X11_addLong bw_1148 dX11_pack_137 (run_X11_addLong  (fun _ => h)) rc_Model rfl ⟨Nat.le_of_ble_eq_true rfl, Nat.le_of_ble_eq_true rfl⟩ (Nat.le_of_ble_eq_true rfl) (c2 := 0) (s2 := 0) rfl rfl ⟨Nat.le_of_ble_eq_true rfl, Nat.le_of_ble_eq_true rfl⟩ rfl (fun S51 hp hTg => ?_)
    replace h := hp
    have hT_S51 : S51.2.2.1 = T0 := by rw [hTg]; exact hT
    refine ww_aload_n C dX11_pack_140 0 rfl ?_
    refine ww_cVv (As := []) (rest := []) C ok_X11_compress bw_1152 dX11_pack_141 (run_X11_compress  (fun _ => h)) rc_Model rfl ⟨Nat.le_of_ble_eq_true rfl, Nat.le_of_ble_eq_true rfl⟩ (Nat.le_of_ble_eq_true rfl) (c2 := 0) (s2 := 0) rfl rfl ⟨Nat.le_of_ble_eq_true rfl, Nat.le_of_ble_eq_true rfl⟩ rfl (fun S53 hp hTg => ?_)
    replace h := hp
    have hT_S53 : S53.2.2.1 = T0 := by rw [hTg]; exact hT_S51
    refine ww_aload_n C dX11_pack_144 0 rfl ?_
    refine gf_Model_buffered C bw_945 dX11_pack_145 ?_
    exact ww_iret C hrt dX11_pack_148 hT_S53 h
  · replace h := h.2 q50
    refine ww_aload_n C dX11_pack_63 0 rfl ?_
    refine ww_iload_n C dX11_pack_64 1 rfl ?_
    refine ww_cVi (As := [.int v1]) (rest := []) C ok_X11_has bw_1089 dX11_pack_65 (run_X11_has  (fun _ => h)) rc_Model rfl ⟨Nat.le_of_ble_eq_true rfl, Nat.le_of_ble_eq_true rfl⟩ (Nat.le_of_ble_eq_true rfl) (c2 := 0) (s2 := 0) rfl rfl ⟨Nat.le_of_ble_eq_true rfl, Nat.le_of_ble_eq_true rfl⟩ rfl (fun r56 S55 hp hTg => ?_)
    replace h := hp
    have hT_S55 : S55.2.2.1 = T0 := by rw [hTg]; exact hT
    refine ww_if_eq (tgt := 126) C dX11_pack_68 (by decide) (fun q57 => ?_) (fun q57 => ?_)
    · replace h := h.1 q57
      exact ww_sub [0, 1] rfl (h hT_S55)
    · replace h := h.2 q57
      refine ww_aload_n C dX11_pack_71 0 rfl ?_
      refine gf_Model_streamed C bw_947 dX11_pack_72 ?_
      refine ww_topi (fun x58 e_x58 => ?_)
      replace h := h x58 e_x58
      refine ww_istore_n (lv2 := [(2, .int x58), (0, .ref (gad g 158)), (1, .int v1)]) C dX11_pack_75 rfl (Nat.le_of_ble_eq_true rfl) rfl ?_
      refine ww_aload_n C dX11_pack_76 1 rfl ?_
      refine ww_iload_n C dX11_pack_77 2 rfl ?_
      refine ww_cVv (As := [.int v1]) (rest := []) C ok_X11_flowTable bw_1093 dX11_pack_78 (run_X11_flowTable  (fun _ => h)) rc_Model rfl ⟨Nat.le_of_ble_eq_true rfl, Nat.le_of_ble_eq_true rfl⟩ (Nat.le_of_ble_eq_true rfl) (c2 := 0) (s2 := 0) rfl rfl ⟨Nat.le_of_ble_eq_true rfl, Nat.le_of_ble_eq_true rfl⟩ rfl (fun S59 hp hTg => ?_)
      replace h := hp
      have hT_S59 : S59.2.2.1 = T0 := by rw [hTg]; exact hT_S55
      refine ww_aload_n C dX11_pack_81 1 rfl ?_
      refine ww_iload_n C dX11_pack_82 2 rfl ?_
      refine ww_cVv (As := [.int v1]) (rest := []) C ok_X11_layTable bw_1124 dX11_pack_83 (run_X11_layTable  (fun _ => h)) rc_Model rfl ⟨Nat.le_of_ble_eq_true rfl, Nat.le_of_ble_eq_true rfl⟩ (Nat.le_of_ble_eq_true rfl) (c2 := 0) (s2 := 0) rfl rfl ⟨Nat.le_of_ble_eq_true rfl, Nat.le_of_ble_eq_true rfl⟩ rfl (fun S61 hp hTg => ?_)
      replace h := hp
      have hT_S61 : S61.2.2.1 = T0 := by rw [hTg]; exact hT_S59
      refine ww_aload_n C dX11_pack_86 1 rfl ?_
      refine ww_iload_n C dX11_pack_87 2 rfl ?_
      refine ww_iconst (v := 2) C dX11_pack_88 (by decide) ?_
      refine ww_icmp_ge (tgt := 99) C dX11_pack_89 (by decide) (fun q63 => ?_) (fun q63 => ?_)
      · replace h := h.1 q63
        refine ww_iload_n C dX11_pack_99 2 rfl ?_
        exact ww_sub [1, 2, 0] rfl (h hT_S61)
      · replace h := h.2 q63
        refine ww_bipush (v := 64) C dX11_pack_92 (by decide) ?_
        refine ww_iload_n C dX11_pack_94 2 rfl ?_
        refine ww_iadd C dX11_pack_95 ?_
        refine ww_goto (tgt := 100) C dX11_pack_96 (by decide) ?_
        exact ww_sub [1, 2, 0] rfl (h hT_S61)
set_option maxHeartbeats 4000000 in
set_option maxRecDepth 100000 in
theorem run_X11_pack_100 {f : Fx} {g : Gx} {T0 : List (Nat × Nat × Nat)} {S : St}  {P : Int32 → St → Prop} (C : Cx f g cX11_pack 3 RX11) (hrt : (fmeth f).sig.returnType = (some .int))  {v1 : Int32} {v2 : Int32} {s0 : Int32} (h : st_X11_pack_100  P (at_X11_pack_13 f g T0  P) (at_X11_pack_57 f g T0  P) (at_X11_pack_100 f g T0  P) (at_X11_pack_126 f g T0  P) S v1 v2 s0) : at_X11_pack_100 f g T0  P S v1 v2 s0 := by
  intro hT 
  unfold st_X11_pack_100 at h
  refine ww_cVv (As := [.int s0]) (rest := []) C ok_X11_add bw_1081 dX11_pack_100 (run_X11_add  (fun _ => h)) rc_Model rfl ⟨Nat.le_of_ble_eq_true rfl, Nat.le_of_ble_eq_true rfl⟩ (Nat.le_of_ble_eq_true rfl) (c2 := 0) (s2 := 0) rfl rfl ⟨Nat.le_of_ble_eq_true rfl, Nat.le_of_ble_eq_true rfl⟩ rfl (fun S64 hp hTg => ?_)
  replace h := hp
  have hT_S64 : S64.2.2.1 = T0 := by rw [hTg]; exact hT
  refine ww_aload_n C dX11_pack_103 0 rfl ?_
  refine ww_aload_n C dX11_pack_104 0 rfl ?_
  refine gf_Model_parted C bw_949 dX11_pack_105 ?_
  refine ww_cVv (As := [.int (S64.2.1 9 5)]) (rest := []) C ok_X11_addLong bw_1148 dX11_pack_108 (run_X11_addLong  (fun _ => h)) rc_Model rfl ⟨Nat.le_of_ble_eq_true rfl, Nat.le_of_ble_eq_true rfl⟩ (Nat.le_of_ble_eq_true rfl) (c2 := 0) (s2 := 0) rfl rfl ⟨Nat.le_of_ble_eq_true rfl, Nat.le_of_ble_eq_true rfl⟩ rfl (fun S66 hp hTg => ?_)
  replace h := hp
  have hT_S66 : S66.2.2.1 = T0 := by rw [hTg]; exact hT_S64
  refine ww_iload_n C dX11_pack_111 1 rfl ?_
  refine ww_iconst (v := 2) C dX11_pack_112 (by decide) ?_
  refine ww_icmp_ge (tgt := 126) C dX11_pack_113 (by decide) (fun q68 => ?_) (fun q68 => ?_)
  · replace h := h.1 q68
    exact ww_sub [0, 1] rfl (h hT_S66)
  · replace h := h.2 q68
    refine ww_aload_n C dX11_pack_116 0 rfl ?_
    refine ww_aload_n C dX11_pack_117 0 rfl ?_
    refine gf_Model_streamed C bw_947 dX11_pack_118 ?_
    refine ww_iload_n C dX11_pack_121 2 rfl ?_
    refine ww_isub C dX11_pack_122 ?_
    refine ww_cVv (As := [.int ((S66.2.1 9 4) - v2)]) (rest := []) C ok_X11_addLong bw_1148 dX11_pack_123 (run_X11_addLong  (fun _ => h)) rc_Model rfl ⟨Nat.le_of_ble_eq_true rfl, Nat.le_of_ble_eq_true rfl⟩ (Nat.le_of_ble_eq_true rfl) (c2 := 0) (s2 := 0) rfl rfl ⟨Nat.le_of_ble_eq_true rfl, Nat.le_of_ble_eq_true rfl⟩ rfl (fun S69 hp hTg => ?_)
    replace h := hp
    have hT_S69 : S69.2.2.1 = T0 := by rw [hTg]; exact hT_S66
    exact ww_sub [0, 1] rfl (h hT_S69)
set_option maxHeartbeats 4000000 in
set_option maxRecDepth 100000 in
theorem run_X11_pack_126 {f : Fx} {g : Gx} {T0 : List (Nat × Nat × Nat)} {S : St}  {P : Int32 → St → Prop} (C : Cx f g cX11_pack 3 RX11) (hrt : (fmeth f).sig.returnType = (some .int))  {v1 : Int32} (h : st_X11_pack_126  P (at_X11_pack_13 f g T0  P) (at_X11_pack_57 f g T0  P) (at_X11_pack_100 f g T0  P) (at_X11_pack_126 f g T0  P) S v1) : at_X11_pack_126 f g T0  P S v1 := by
  intro hT 
  unfold st_X11_pack_126 at h
  obtain ⟨x71, e_x71⟩ : ∃ z : Int32, z = v1 + 1 := ⟨_, rfl⟩
  replace h := h x71 e_x71
  refine ww_iinc (v := x71) (lv2 := [(1, .int x71), (0, .ref (gad g 158))]) C dX11_pack_126 1 rfl (by rw [e_x71]; rfl) (Nat.le_of_ble_eq_true rfl) rfl ?_
  refine ww_goto (tgt := 57) C dX11_pack_129 (by decide) ?_
  exact ww_sub [1, 0] rfl (h hT)
def wp_X11_pack (S : St)  (P : Int32 → St → Prop) : Prop :=
  ∀ (X13 : St → Int32 → Prop) (X57 : St → Int32 → Prop) (X100 : St → Int32 → Int32 → Int32 → Prop) (X126 : St → Int32 → Prop), (∀ S s0, st_X11_pack_13  P X13 X57 X100 X126 S s0 → X13 S s0) → (∀ S v1, st_X11_pack_57  P X13 X57 X100 X126 S v1 → X57 S v1) → (∀ S v1 v2 s0, st_X11_pack_100  P X13 X57 X100 X126 S v1 v2 s0 → X100 S v1 v2 s0) → (∀ S v1, st_X11_pack_126  P X13 X57 X100 X126 S v1 → X126 S v1) → wp_X11_open S (fun r73 S72 => ((r73 = 0 → X13 S72 0) ∧ (¬ r73 = 0 → X13 S72 1)))
set_option maxHeartbeats 4000000 in
set_option maxRecDepth 100000 in
theorem run_X11_pack {l : Launch} {g : Gx} {S : St}  {P : Int32 → St → Prop}  (h : rowsLe S → wp_X11_pack S  P) : CMi g l yX11_pack cX11_pack 3 (some .int) rm_X11_pack [.ref (gad g 158)] S P := cm_entry (own := RX11) (plainFor_of_name (by decide)) rfl (Nat.le_of_ble_eq_true rfl) rfl (fun hle f hf C hrt => by
  subst hf
  replace h := h hle
  obtain ⟨T0, hT⟩ : ∃ T, S.2.2.1 = T := ⟨_, rfl⟩
  rw [hT]
  replace h := h (at_X11_pack_13 f g T0  P) (at_X11_pack_57 f g T0  P) (at_X11_pack_100 f g T0  P) (at_X11_pack_126 f g T0  P) (fun S s0 h => run_X11_pack_13 C hrt  h) (fun S v1 h => run_X11_pack_57 C hrt  h) (fun S v1 v2 s0 h => run_X11_pack_100 C hrt  h) (fun S v1 h => run_X11_pack_126 C hrt  h)
  refine ww_aload_n C dX11_pack_0 0 rfl ?_
  refine ww_aload_n C dX11_pack_1 0 rfl ?_
  refine ww_cVi (As := []) (rest := [.ref (gad g 158)]) C ok_X11_open bw_1053 dX11_pack_2 (run_X11_open  (fun _ => h)) rc_Model rfl ⟨Nat.le_of_ble_eq_true rfl, Nat.le_of_ble_eq_true rfl⟩ (Nat.le_of_ble_eq_true rfl) (c2 := 0) (s2 := 0) rfl rfl ⟨Nat.le_of_ble_eq_true rfl, Nat.le_of_ble_eq_true rfl⟩ rfl (fun r73 S72 hp hTg => ?_)
  replace h := hp
  have hT_S72 : S72.2.2.1 = T0 := by rw [hTg]; exact hT
  refine ww_if_eq (tgt := 12) C dX11_pack_5 (by decide) (fun q74 => ?_) (fun q74 => ?_)
  · replace h := h.1 q74
    refine ww_iconst (v := 0) C dX11_pack_12 (by decide) ?_
    exact ww_sub [0] rfl (h hT_S72)
  · replace h := h.2 q74
    refine ww_iconst (v := 1) C dX11_pack_8 (by decide) ?_
    refine ww_goto (tgt := 13) C dX11_pack_9 (by decide) ?_
    exact ww_sub [0] rfl (h hT_S72))
abbrev rm_X11_addFour : Room := { frames := 1, cells := 0, slots := 0, locals := 21 }
theorem ok_X11_addFour : MOK yX11_addFour RX11 cX11_addFour 4 none 1 := ⟨bw_1180, bw_40, bw_69, bw_1181, by decide +kernel⟩
def st_X11_addFour_2 (v : Int64) (P : St → Prop) (X2 : St → Int32 → Prop) (S : St) (v3 : Int32) : Prop :=
  ((v3 < 0 → P S) ∧ (¬ v3 < 0 → wp_X11_add S (((v >>> ((8 * v3).toInt64 &&& 63)) &&& 255).toInt32) (fun S6 => ∀ x8 : Int32, x8 = v3 + (-1) → X2 S6 x8)))
def at_X11_addFour_2 (f : Fx) (g : Gx) (T0 : List (Nat × Nat × Nat)) (v : Int64) (P : St → Prop) (S : St) (v3 : Int32) : Prop := S.2.2.1 = T0 → WW f rm_X11_addFour g 4 0 0 (Qv f g 0 0 T0 P) S 2 [(0, .ref (gad g 158)), (1, .long v), (3, .int v3)] []
set_option maxHeartbeats 4000000 in
set_option maxRecDepth 100000 in
theorem run_X11_addFour_2 {f : Fx} {g : Gx} {T0 : List (Nat × Nat × Nat)} {S : St} {v : Int64} {P : St → Prop} (C : Cx f g cX11_addFour 4 RX11) (hrt : (fmeth f).sig.returnType = none)  {v3 : Int32} (h : st_X11_addFour_2 v P (at_X11_addFour_2 f g T0 v P) S v3) : at_X11_addFour_2 f g T0 v P S v3 := by
  intro hT 
  unfold st_X11_addFour_2 at h
  refine ww_iload_n C dX11_addFour_2 2 rfl ?_
  refine ww_if_lt (tgt := 27) C dX11_addFour_3 (by decide) (fun q5 => ?_) (fun q5 => ?_)
  · replace h := h.1 q5
    exact ww_vret C hrt dX11_addFour_27 hT h
  · replace h := h.2 q5
    refine ww_aload_n C dX11_addFour_6 0 rfl ?_
    refine ww_lload_n C dX11_addFour_7 1 rfl ?_
    refine ww_bipush (v := 8) C dX11_addFour_8 (by decide) ?_
    refine ww_iload_n C dX11_addFour_10 2 rfl ?_
    refine ww_imul C dX11_addFour_11 ?_
    refine ww_lshr C dX11_addFour_12 ?_
    refine ww_ldc2 (v := 255) C dX11_addFour_13 bw_1072 ?_
    refine ww_land C dX11_addFour_16 ?_
    refine ww_l2i C dX11_addFour_17 ?_
    refine ww_cVv (As := [.int (((v >>> ((8 * v3).toInt64 &&& 63)) &&& 255).toInt32)]) (rest := []) C ok_X11_add bw_1081 dX11_addFour_18 (run_X11_add  (fun _ => h)) rc_Model rfl ⟨Nat.le_of_ble_eq_true rfl, Nat.le_of_ble_eq_true rfl⟩ (Nat.le_of_ble_eq_true rfl) (c2 := 0) (s2 := 0) rfl rfl ⟨Nat.le_of_ble_eq_true rfl, Nat.le_of_ble_eq_true rfl⟩ rfl (fun S6 hp hTg => ?_)
    replace h := hp
    have hT_S6 : S6.2.2.1 = T0 := by rw [hTg]; exact hT
    obtain ⟨x8, e_x8⟩ : ∃ z : Int32, z = v3 + (-1) := ⟨_, rfl⟩
    replace h := h x8 e_x8
    refine ww_iinc (v := x8) (lv2 := [(3, .int x8), (0, .ref (gad g 158)), (1, .long v)]) C dX11_addFour_21 2 rfl (by rw [e_x8]; rfl) (Nat.le_of_ble_eq_true rfl) rfl ?_
    refine ww_goto (tgt := 2) C dX11_addFour_24 (by decide) ?_
    exact ww_sub [1, 2, 0] rfl (h hT_S6)
def wp_X11_addFour (S : St) (v : Int64) (P : St → Prop) : Prop :=
  ∀ (X2 : St → Int32 → Prop), (∀ S v3, st_X11_addFour_2 v P X2 S v3 → X2 S v3) → X2 S 3
set_option maxHeartbeats 4000000 in
set_option maxRecDepth 100000 in
theorem run_X11_addFour {l : Launch} {g : Gx} {S : St} {v : Int64} {P : St → Prop}  (h : rowsLe S → wp_X11_addFour S v P) : CMv g l yX11_addFour cX11_addFour 4 none rm_X11_addFour [.ref (gad g 158), .long v] S P := cm_entry (own := RX11) (plainFor_of_name (by decide)) rfl (Nat.le_of_ble_eq_true rfl) rfl (fun hle f hf C hrt => by
  subst hf
  replace h := h hle
  obtain ⟨T0, hT⟩ : ∃ T, S.2.2.1 = T := ⟨_, rfl⟩
  rw [hT]
  replace h := h (at_X11_addFour_2 f g T0 v P) (fun S v3 h => run_X11_addFour_2 C hrt  h)
  refine ww_iconst (v := 3) C dX11_addFour_0 (by decide) ?_
  refine ww_istore_n (lv2 := [(3, .int 3), (0, .ref (gad g 158)), (1, .long v)]) C dX11_addFour_1 rfl (Nat.le_of_ble_eq_true rfl) rfl ?_
  exact ww_sub [1, 2, 0] rfl (h hT))
abbrev rm_X11_plain : Room := { frames := 5, cells := 0, slots := 0, locals := 118 }
theorem ok_X11_plain : MOK yX11_plain RX11 cX11_plain 7 (some .int) 0 := ⟨bw_1173, bw_1174, bw_69, bw_1175, by decide +kernel⟩
def st_X11_plain_13  (P : Int32 → St → Prop) (X13 : St → Int32 → Prop) (X50 : St → Int32 → Int32 → Prop) (X74 : St → Int32 → Int32 → Int32 → Prop) (X97 : St → Int32 → Int32 → Int32 → Int64 → Int32 → Prop) (X205 : St → Int32 → Int32 → Prop) (X213 : St → Int32 → Prop) (X232 : St → Int32 → Prop) (X251 : St → Int32 → Int32 → Prop) (X275 : St → Int32 → Prop) (S : St) (s0 : Int32) : Prop :=
  ∀ S49 : St, S49 = stM S 9 0 s0 → (((S49.2.1 9 0) ≤ 0 → ∀ S51 : St, S51 = stM S49 9 3 0 → wp_X11_tables S51 (fun r53 S52 => ∀ x54 : Int32, x54 = 1 + (9 * r53) → wp_X11_tables S52 (fun r56 S55 => wp_X11_add S55 r56 (fun S57 => X50 S57 x54 0)))) ∧ (¬ (S49.2.1 9 0) ≤ 0 → P 0 S49))
def st_X11_plain_50  (P : Int32 → St → Prop) (X13 : St → Int32 → Prop) (X50 : St → Int32 → Int32 → Prop) (X74 : St → Int32 → Int32 → Int32 → Prop) (X97 : St → Int32 → Int32 → Int32 → Int64 → Int32 → Prop) (X205 : St → Int32 → Int32 → Prop) (X213 : St → Int32 → Prop) (X232 : St → Int32 → Prop) (X251 : St → Int32 → Int32 → Prop) (X275 : St → Int32 → Prop) (S : St) (v1 : Int32) (v2 : Int32) : Prop :=
  ((7 ≤ v2 → X213 S 0) ∧ (¬ 7 ≤ v2 → wp_X11_has S v2 (fun r61 S60 => ((r61 = 0 → X205 S60 v1 v2) ∧ (¬ r61 = 0 → wp_X11_layTable S60 v2 (fun S63 => ∀ x65 : Int32, x65 = S63.2.1 9 5 → X74 S63 v1 v2 x65))))))
def st_X11_plain_74  (P : Int32 → St → Prop) (X13 : St → Int32 → Prop) (X50 : St → Int32 → Int32 → Prop) (X74 : St → Int32 → Int32 → Int32 → Prop) (X97 : St → Int32 → Int32 → Int32 → Int64 → Int32 → Prop) (X205 : St → Int32 → Int32 → Prop) (X213 : St → Int32 → Prop) (X232 : St → Int32 → Prop) (X251 : St → Int32 → Int32 → Prop) (X275 : St → Int32 → Prop) (S : St) (v1 : Int32) (v2 : Int32) (v3 : Int32) : Prop :=
  ((((S.2.1 9 5) - (S.2.1 9 5) / 4 * 4) = 0 → X97 S v1 v2 v3 0 0) ∧ (¬ ((S.2.1 9 5) - (S.2.1 9 5) / 4 * 4) = 0 → wp_X11_lay S 0 (fun S67 => X74 S67 v1 v2 v3)))
def st_X11_plain_97  (P : Int32 → St → Prop) (X13 : St → Int32 → Prop) (X50 : St → Int32 → Int32 → Prop) (X74 : St → Int32 → Int32 → Int32 → Prop) (X97 : St → Int32 → Int32 → Int32 → Int64 → Int32 → Prop) (X205 : St → Int32 → Int32 → Prop) (X213 : St → Int32 → Prop) (X232 : St → Int32 → Prop) (X251 : St → Int32 → Int32 → Prop) (X275 : St → Int32 → Prop) (S : St) (v1 : Int32) (v2 : Int32) (v3 : Int32) (v4 : Int64) (v6 : Int32) : Prop :=
  (((S.2.1 9 5) ≤ v6 → wp_X11_add S v2 (fun S70 => wp_X11_addFour S70 (v4 - v4 / 4294967296 * 4294967296) (fun S72 => wp_X11_addFour S72 ((v1.toInt64 * 65536) + v3.toInt64) (fun S74 => ∀ x76 : Int32, x76 = v1 + (S74.2.1 9 5) → X205 S74 x76 v2)))) ∧ (¬ (S.2.1 9 5) ≤ v6 → (vp_in v6 (gw_ml 21) ∧ (vp_in (v6 + 1) (gw_ml 21) ∧ (vp_in (v6 + 2) (gw_ml 21) ∧ (vp_in (v6 + 3) (gw_ml 21) ∧ ∀ x77 : Int64, x77 = v4 + ((((((((S.2.1 31 v6.toNatClampNeg).toInt64) * 256) + ((S.2.1 31 (v6 + 1).toNatClampNeg).toInt64)) * 256) + ((S.2.1 31 (v6 + 2).toNatClampNeg).toInt64)) * 256) + ((S.2.1 31 (v6 + 3).toNatClampNeg).toInt64)) → ∀ x78 : Int32, x78 = v6 + 4 → X97 S v1 v2 v3 x77 x78))))))
def st_X11_plain_205  (P : Int32 → St → Prop) (X13 : St → Int32 → Prop) (X50 : St → Int32 → Int32 → Prop) (X74 : St → Int32 → Int32 → Int32 → Prop) (X97 : St → Int32 → Int32 → Int32 → Int64 → Int32 → Prop) (X205 : St → Int32 → Int32 → Prop) (X213 : St → Int32 → Prop) (X232 : St → Int32 → Prop) (X251 : St → Int32 → Int32 → Prop) (X275 : St → Int32 → Prop) (S : St) (v1 : Int32) (v2 : Int32) : Prop :=
  ∀ x79 : Int32, x79 = v2 + 1 → X50 S v1 x79
def st_X11_plain_213  (P : Int32 → St → Prop) (X13 : St → Int32 → Prop) (X50 : St → Int32 → Int32 → Prop) (X74 : St → Int32 → Int32 → Int32 → Prop) (X97 : St → Int32 → Int32 → Int32 → Int64 → Int32 → Prop) (X205 : St → Int32 → Int32 → Prop) (X213 : St → Int32 → Prop) (X232 : St → Int32 → Prop) (X251 : St → Int32 → Int32 → Prop) (X275 : St → Int32 → Prop) (S : St) (v2 : Int32) : Prop :=
  ((7 ≤ v2 → P (S.2.1 9 3) S) ∧ (¬ 7 ≤ v2 → wp_X11_has S v2 (fun r82 S81 => ((r82 = 0 → X275 S81 v2) ∧ (¬ r82 = 0 → wp_X11_layTable S81 v2 (fun S84 => X232 S84 v2))))))
def st_X11_plain_232  (P : Int32 → St → Prop) (X13 : St → Int32 → Prop) (X50 : St → Int32 → Int32 → Prop) (X74 : St → Int32 → Int32 → Int32 → Prop) (X97 : St → Int32 → Int32 → Int32 → Int64 → Int32 → Prop) (X205 : St → Int32 → Int32 → Prop) (X213 : St → Int32 → Prop) (X232 : St → Int32 → Prop) (X251 : St → Int32 → Int32 → Prop) (X275 : St → Int32 → Prop) (S : St) (v2 : Int32) : Prop :=
  ((((S.2.1 9 5) - (S.2.1 9 5) / 4 * 4) = 0 → X251 S v2 0) ∧ (¬ ((S.2.1 9 5) - (S.2.1 9 5) / 4 * 4) = 0 → wp_X11_lay S 0 (fun S87 => X232 S87 v2)))
def st_X11_plain_251  (P : Int32 → St → Prop) (X13 : St → Int32 → Prop) (X50 : St → Int32 → Int32 → Prop) (X74 : St → Int32 → Int32 → Int32 → Prop) (X97 : St → Int32 → Int32 → Int32 → Int64 → Int32 → Prop) (X205 : St → Int32 → Int32 → Prop) (X213 : St → Int32 → Prop) (X232 : St → Int32 → Prop) (X251 : St → Int32 → Int32 → Prop) (X275 : St → Int32 → Prop) (S : St) (v2 : Int32) (v3 : Int32) : Prop :=
  (((S.2.1 9 5) ≤ v3 → X275 S v2) ∧ (¬ (S.2.1 9 5) ≤ v3 → (vp_in v3 (gw_ml 21) ∧ wp_X11_add S (S.2.1 31 v3.toNatClampNeg) (fun S90 => ∀ x92 : Int32, x92 = v3 + 1 → X251 S90 v2 x92))))
def st_X11_plain_275  (P : Int32 → St → Prop) (X13 : St → Int32 → Prop) (X50 : St → Int32 → Int32 → Prop) (X74 : St → Int32 → Int32 → Int32 → Prop) (X97 : St → Int32 → Int32 → Int32 → Int64 → Int32 → Prop) (X205 : St → Int32 → Int32 → Prop) (X213 : St → Int32 → Prop) (X232 : St → Int32 → Prop) (X251 : St → Int32 → Int32 → Prop) (X275 : St → Int32 → Prop) (S : St) (v2 : Int32) : Prop :=
  ∀ x93 : Int32, x93 = v2 + 1 → X213 S x93
def at_X11_plain_13 (f : Fx) (g : Gx) (T0 : List (Nat × Nat × Nat))  (P : Int32 → St → Prop) (S : St) (s0 : Int32) : Prop := S.2.2.1 = T0 → WW f rm_X11_plain g 7 0 0 (Qi f g 0 0 T0 P) S 13 [(0, .ref (gad g 158))] [.int s0, .ref (gad g 158)]
def at_X11_plain_50 (f : Fx) (g : Gx) (T0 : List (Nat × Nat × Nat))  (P : Int32 → St → Prop) (S : St) (v1 : Int32) (v2 : Int32) : Prop := S.2.2.1 = T0 → WW f rm_X11_plain g 7 0 0 (Qi f g 0 0 T0 P) S 50 [(0, .ref (gad g 158)), (1, .int v1), (2, .int v2)] []
def at_X11_plain_74 (f : Fx) (g : Gx) (T0 : List (Nat × Nat × Nat))  (P : Int32 → St → Prop) (S : St) (v1 : Int32) (v2 : Int32) (v3 : Int32) : Prop := S.2.2.1 = T0 → WW f rm_X11_plain g 7 0 0 (Qi f g 0 0 T0 P) S 74 [(0, .ref (gad g 158)), (1, .int v1), (2, .int v2), (3, .int v3)] []
def at_X11_plain_97 (f : Fx) (g : Gx) (T0 : List (Nat × Nat × Nat))  (P : Int32 → St → Prop) (S : St) (v1 : Int32) (v2 : Int32) (v3 : Int32) (v4 : Int64) (v6 : Int32) : Prop := S.2.2.1 = T0 → WW f rm_X11_plain g 7 0 0 (Qi f g 0 0 T0 P) S 97 [(0, .ref (gad g 158)), (1, .int v1), (2, .int v2), (3, .int v3), (4, .long v4), (6, .int v6)] []
def at_X11_plain_205 (f : Fx) (g : Gx) (T0 : List (Nat × Nat × Nat))  (P : Int32 → St → Prop) (S : St) (v1 : Int32) (v2 : Int32) : Prop := S.2.2.1 = T0 → WW f rm_X11_plain g 7 0 0 (Qi f g 0 0 T0 P) S 205 [(0, .ref (gad g 158)), (1, .int v1), (2, .int v2)] []
def at_X11_plain_213 (f : Fx) (g : Gx) (T0 : List (Nat × Nat × Nat))  (P : Int32 → St → Prop) (S : St) (v2 : Int32) : Prop := S.2.2.1 = T0 → WW f rm_X11_plain g 7 0 0 (Qi f g 0 0 T0 P) S 213 [(0, .ref (gad g 158)), (2, .int v2)] []
def at_X11_plain_232 (f : Fx) (g : Gx) (T0 : List (Nat × Nat × Nat))  (P : Int32 → St → Prop) (S : St) (v2 : Int32) : Prop := S.2.2.1 = T0 → WW f rm_X11_plain g 7 0 0 (Qi f g 0 0 T0 P) S 232 [(0, .ref (gad g 158)), (2, .int v2)] []
def at_X11_plain_251 (f : Fx) (g : Gx) (T0 : List (Nat × Nat × Nat))  (P : Int32 → St → Prop) (S : St) (v2 : Int32) (v3 : Int32) : Prop := S.2.2.1 = T0 → WW f rm_X11_plain g 7 0 0 (Qi f g 0 0 T0 P) S 251 [(0, .ref (gad g 158)), (2, .int v2), (3, .int v3)] []
def at_X11_plain_275 (f : Fx) (g : Gx) (T0 : List (Nat × Nat × Nat))  (P : Int32 → St → Prop) (S : St) (v2 : Int32) : Prop := S.2.2.1 = T0 → WW f rm_X11_plain g 7 0 0 (Qi f g 0 0 T0 P) S 275 [(0, .ref (gad g 158)), (2, .int v2)] []
set_option maxHeartbeats 4000000 in
set_option maxRecDepth 100000 in
theorem run_X11_plain_13 {f : Fx} {g : Gx} {T0 : List (Nat × Nat × Nat)} {S : St}  {P : Int32 → St → Prop} (C : Cx f g cX11_plain 7 RX11) (hrt : (fmeth f).sig.returnType = (some .int))  {s0 : Int32} (h : st_X11_plain_13  P (at_X11_plain_13 f g T0  P) (at_X11_plain_50 f g T0  P) (at_X11_plain_74 f g T0  P) (at_X11_plain_97 f g T0  P) (at_X11_plain_205 f g T0  P) (at_X11_plain_213 f g T0  P) (at_X11_plain_232 f g T0  P) (at_X11_plain_251 f g T0  P) (at_X11_plain_275 f g T0  P) S s0) : at_X11_plain_13 f g T0  P S s0 := by
  intro hT 
  unfold st_X11_plain_13 at h
  refine pf_Model_thrown C bw_923 dX11_plain_13 ?_
  refine ww_nm (fun S49 e_S49 => ?_)
  replace h := h S49 e_S49
  have hT_S49 : S49.2.2.1 = T0 := by rw [e_S49]; exact hT
  refine ww_aload_n C dX11_plain_16 0 rfl ?_
  refine gf_Model_thrown C bw_923 dX11_plain_17 ?_
  refine ww_if_le (tgt := 25) C dX11_plain_20 (by decide) (fun q50 => ?_) (fun q50 => ?_)
  · replace h := h.1 q50
    refine ww_aload_n C dX11_plain_25 0 rfl ?_
    refine ww_iconst (v := 0) C dX11_plain_26 (by decide) ?_
    refine pf_Model_buffered C bw_945 dX11_plain_27 ?_
    refine ww_nm (fun S51 e_S51 => ?_)
    replace h := h S51 e_S51
    have hT_S51 : S51.2.2.1 = T0 := by rw [e_S51]; exact hT_S49
    refine ww_iconst (v := 1) C dX11_plain_30 (by decide) ?_
    refine ww_bipush (v := 9) C dX11_plain_31 (by decide) ?_
    refine ww_aload_n C dX11_plain_33 0 rfl ?_
    refine ww_cVi (As := []) (rest := [.int 9, .int 1]) C ok_X11_tables bw_1085 dX11_plain_34 (run_X11_tables  (fun _ => h)) rc_Model rfl ⟨Nat.le_of_ble_eq_true rfl, Nat.le_of_ble_eq_true rfl⟩ (Nat.le_of_ble_eq_true rfl) (c2 := 0) (s2 := 0) rfl rfl ⟨Nat.le_of_ble_eq_true rfl, Nat.le_of_ble_eq_true rfl⟩ rfl (fun r53 S52 hp hTg => ?_)
    replace h := hp
    have hT_S52 : S52.2.2.1 = T0 := by rw [hTg]; exact hT_S51
    refine ww_imul C dX11_plain_37 ?_
    refine ww_iadd C dX11_plain_38 ?_
    refine ww_topi (fun x54 e_x54 => ?_)
    replace h := h x54 e_x54
    refine ww_istore_n (lv2 := [(1, .int x54), (0, .ref (gad g 158))]) C dX11_plain_39 rfl (Nat.le_of_ble_eq_true rfl) rfl ?_
    refine ww_aload_n C dX11_plain_40 1 rfl ?_
    refine ww_aload_n C dX11_plain_41 1 rfl ?_
    refine ww_cVi (As := []) (rest := [.ref (gad g 158)]) C ok_X11_tables bw_1085 dX11_plain_42 (run_X11_tables  (fun _ => h)) rc_Model rfl ⟨Nat.le_of_ble_eq_true rfl, Nat.le_of_ble_eq_true rfl⟩ (Nat.le_of_ble_eq_true rfl) (c2 := 0) (s2 := 0) rfl rfl ⟨Nat.le_of_ble_eq_true rfl, Nat.le_of_ble_eq_true rfl⟩ rfl (fun r56 S55 hp hTg => ?_)
    replace h := hp
    have hT_S55 : S55.2.2.1 = T0 := by rw [hTg]; exact hT_S52
    refine ww_cVv (As := [.int r56]) (rest := []) C ok_X11_add bw_1081 dX11_plain_45 (run_X11_add  (fun _ => h)) rc_Model rfl ⟨Nat.le_of_ble_eq_true rfl, Nat.le_of_ble_eq_true rfl⟩ (Nat.le_of_ble_eq_true rfl) (c2 := 0) (s2 := 0) rfl rfl ⟨Nat.le_of_ble_eq_true rfl, Nat.le_of_ble_eq_true rfl⟩ rfl (fun S57 hp hTg => ?_)
    replace h := hp
    have hT_S57 : S57.2.2.1 = T0 := by rw [hTg]; exact hT_S55
    refine ww_iconst (v := 0) C dX11_plain_48 (by decide) ?_
    refine ww_istore_n (lv2 := [(2, .int 0), (1, .int x54), (0, .ref (gad g 158))]) C dX11_plain_49 rfl (Nat.le_of_ble_eq_true rfl) rfl ?_
    exact ww_sub [2, 1, 0] rfl (h hT_S57)
  · replace h := h.2 q50
    refine ww_iconst (v := 0) C dX11_plain_23 (by decide) ?_
    exact ww_iret C hrt dX11_plain_24 hT_S49 h
set_option maxHeartbeats 4000000 in
set_option maxRecDepth 100000 in
theorem run_X11_plain_50 {f : Fx} {g : Gx} {T0 : List (Nat × Nat × Nat)} {S : St}  {P : Int32 → St → Prop} (C : Cx f g cX11_plain 7 RX11) (hrt : (fmeth f).sig.returnType = (some .int))  {v1 : Int32} {v2 : Int32} (h : st_X11_plain_50  P (at_X11_plain_13 f g T0  P) (at_X11_plain_50 f g T0  P) (at_X11_plain_74 f g T0  P) (at_X11_plain_97 f g T0  P) (at_X11_plain_205 f g T0  P) (at_X11_plain_213 f g T0  P) (at_X11_plain_232 f g T0  P) (at_X11_plain_251 f g T0  P) (at_X11_plain_275 f g T0  P) S v1 v2) : at_X11_plain_50 f g T0  P S v1 v2 := by
  intro hT 
  unfold st_X11_plain_50 at h
  refine ww_iload_n C dX11_plain_50 2 rfl ?_
  refine ww_bipush (v := 7) C dX11_plain_51 (by decide) ?_
  refine ww_icmp_ge (tgt := 211) C dX11_plain_53 (by decide) (fun q59 => ?_) (fun q59 => ?_)
  · replace h := h.1 q59
    refine ww_iconst (v := 0) C dX11_plain_211 (by decide) ?_
    refine ww_istore_n (lv2 := [(2, .int 0), (0, .ref (gad g 158)), (1, .int v1)]) C dX11_plain_212 rfl (Nat.le_of_ble_eq_true rfl) rfl ?_
    exact ww_sub [1, 0] rfl (h hT)
  · replace h := h.2 q59
    refine ww_aload_n C dX11_plain_56 0 rfl ?_
    refine ww_iload_n C dX11_plain_57 2 rfl ?_
    refine ww_cVi (As := [.int v2]) (rest := []) C ok_X11_has bw_1089 dX11_plain_58 (run_X11_has  (fun _ => h)) rc_Model rfl ⟨Nat.le_of_ble_eq_true rfl, Nat.le_of_ble_eq_true rfl⟩ (Nat.le_of_ble_eq_true rfl) (c2 := 0) (s2 := 0) rfl rfl ⟨Nat.le_of_ble_eq_true rfl, Nat.le_of_ble_eq_true rfl⟩ rfl (fun r61 S60 hp hTg => ?_)
    replace h := hp
    have hT_S60 : S60.2.2.1 = T0 := by rw [hTg]; exact hT
    refine ww_if_eq (tgt := 205) C dX11_plain_61 (by decide) (fun q62 => ?_) (fun q62 => ?_)
    · replace h := h.1 q62
      exact ww_sub [0, 1, 2] rfl (h hT_S60)
    · replace h := h.2 q62
      refine ww_aload_n C dX11_plain_64 0 rfl ?_
      refine ww_iload_n C dX11_plain_65 2 rfl ?_
      refine ww_cVv (As := [.int v2]) (rest := []) C ok_X11_layTable bw_1124 dX11_plain_66 (run_X11_layTable  (fun _ => h)) rc_Model rfl ⟨Nat.le_of_ble_eq_true rfl, Nat.le_of_ble_eq_true rfl⟩ (Nat.le_of_ble_eq_true rfl) (c2 := 0) (s2 := 0) rfl rfl ⟨Nat.le_of_ble_eq_true rfl, Nat.le_of_ble_eq_true rfl⟩ rfl (fun S63 hp hTg => ?_)
      replace h := hp
      have hT_S63 : S63.2.2.1 = T0 := by rw [hTg]; exact hT_S60
      refine ww_aload_n C dX11_plain_69 0 rfl ?_
      refine gf_Model_parted C bw_949 dX11_plain_70 ?_
      refine ww_topi (fun x65 e_x65 => ?_)
      replace h := h x65 e_x65
      refine ww_istore_n (lv2 := [(3, .int x65), (0, .ref (gad g 158)), (1, .int v1), (2, .int v2)]) C dX11_plain_73 rfl (Nat.le_of_ble_eq_true rfl) rfl ?_
      exact ww_sub [1, 2, 3, 0] rfl (h hT_S63)
set_option maxHeartbeats 4000000 in
set_option maxRecDepth 100000 in
theorem run_X11_plain_74 {f : Fx} {g : Gx} {T0 : List (Nat × Nat × Nat)} {S : St}  {P : Int32 → St → Prop} (C : Cx f g cX11_plain 7 RX11) (hrt : (fmeth f).sig.returnType = (some .int))  {v1 : Int32} {v2 : Int32} {v3 : Int32} (h : st_X11_plain_74  P (at_X11_plain_13 f g T0  P) (at_X11_plain_50 f g T0  P) (at_X11_plain_74 f g T0  P) (at_X11_plain_97 f g T0  P) (at_X11_plain_205 f g T0  P) (at_X11_plain_213 f g T0  P) (at_X11_plain_232 f g T0  P) (at_X11_plain_251 f g T0  P) (at_X11_plain_275 f g T0  P) S v1 v2 v3) : at_X11_plain_74 f g T0  P S v1 v2 v3 := by
  intro hT 
  unfold st_X11_plain_74 at h
  refine ww_aload_n C dX11_plain_74 0 rfl ?_
  refine gf_Model_parted C bw_949 dX11_plain_75 ?_
  refine ww_iconst (v := 4) C dX11_plain_78 (by decide) ?_
  refine ww_irem C dX11_plain_79 (by decide) ?_
  refine ww_if_eq (tgt := 91) C dX11_plain_80 (by decide) (fun q66 => ?_) (fun q66 => ?_)
  · replace h := h.1 q66
    refine ww_lconst (v := 0) C dX11_plain_91 (by decide) ?_
    refine ww_lstore (lv2 := [(4, .long 0), (0, .ref (gad g 158)), (1, .int v1), (2, .int v2), (3, .int v3)]) C dX11_plain_92 (Nat.le_of_ble_eq_true rfl) rfl ?_
    refine ww_iconst (v := 0) C dX11_plain_94 (by decide) ?_
    refine ww_istore (lv2 := [(6, .int 0), (4, .long 0), (0, .ref (gad g 158)), (1, .int v1), (2, .int v2), (3, .int v3)]) C dX11_plain_95 (Nat.le_of_ble_eq_true rfl) rfl ?_
    exact ww_sub [2, 3, 4, 5, 1, 0] rfl (h hT)
  · replace h := h.2 q66
    refine ww_aload_n C dX11_plain_83 0 rfl ?_
    refine ww_iconst (v := 0) C dX11_plain_84 (by decide) ?_
    refine ww_cVv (As := [.int 0]) (rest := []) C ok_X11_lay bw_1128 dX11_plain_85 (run_X11_lay  (fun _ => h)) rc_Model rfl ⟨Nat.le_of_ble_eq_true rfl, Nat.le_of_ble_eq_true rfl⟩ (Nat.le_of_ble_eq_true rfl) (c2 := 0) (s2 := 0) rfl rfl ⟨Nat.le_of_ble_eq_true rfl, Nat.le_of_ble_eq_true rfl⟩ rfl (fun S67 hp hTg => ?_)
    replace h := hp
    have hT_S67 : S67.2.2.1 = T0 := by rw [hTg]; exact hT
    refine ww_goto (tgt := 74) C dX11_plain_88 (by decide) ?_
    exact ww_sub [0, 1, 2, 3] rfl (h hT_S67)
set_option maxHeartbeats 4000000 in
set_option maxRecDepth 100000 in
theorem run_X11_plain_97 {f : Fx} {g : Gx} {T0 : List (Nat × Nat × Nat)} {S : St}  {P : Int32 → St → Prop} (C : Cx f g cX11_plain 7 RX11) (hrt : (fmeth f).sig.returnType = (some .int))  {v1 : Int32} {v2 : Int32} {v3 : Int32} {v4 : Int64} {v6 : Int32} (h : st_X11_plain_97  P (at_X11_plain_13 f g T0  P) (at_X11_plain_50 f g T0  P) (at_X11_plain_74 f g T0  P) (at_X11_plain_97 f g T0  P) (at_X11_plain_205 f g T0  P) (at_X11_plain_213 f g T0  P) (at_X11_plain_232 f g T0  P) (at_X11_plain_251 f g T0  P) (at_X11_plain_275 f g T0  P) S v1 v2 v3 v4 v6) : at_X11_plain_97 f g T0  P S v1 v2 v3 v4 v6 := by
  intro hT 
  unfold st_X11_plain_97 at h
  refine ww_iload C dX11_plain_97 5 rfl ?_
  refine ww_aload_n C dX11_plain_99 0 rfl ?_
  refine gf_Model_parted C bw_949 dX11_plain_100 ?_
  refine ww_icmp_ge (tgt := 170) C dX11_plain_103 (by decide) (fun q69 => ?_) (fun q69 => ?_)
  · replace h := h.1 q69
    refine ww_aload_n C dX11_plain_170 0 rfl ?_
    refine ww_iload_n C dX11_plain_171 2 rfl ?_
    refine ww_cVv (As := [.int v2]) (rest := []) C ok_X11_add bw_1081 dX11_plain_172 (run_X11_add  (fun _ => h)) rc_Model rfl ⟨Nat.le_of_ble_eq_true rfl, Nat.le_of_ble_eq_true rfl⟩ (Nat.le_of_ble_eq_true rfl) (c2 := 0) (s2 := 0) rfl rfl ⟨Nat.le_of_ble_eq_true rfl, Nat.le_of_ble_eq_true rfl⟩ rfl (fun S70 hp hTg => ?_)
    replace h := hp
    have hT_S70 : S70.2.2.1 = T0 := by rw [hTg]; exact hT
    refine ww_aload_n C dX11_plain_175 0 rfl ?_
    refine ww_lload C dX11_plain_176 4 rfl ?_
    refine ww_ldc2 (v := 4294967296) C dX11_plain_178 bw_1177 ?_
    refine ww_lrem C dX11_plain_181 (by decide) ?_
    refine ww_cVv (As := [.long (v4 - v4 / 4294967296 * 4294967296)]) (rest := []) C ok_X11_addFour bw_1178 dX11_plain_182 (run_X11_addFour  (fun _ => h)) rc_Model rfl ⟨Nat.le_of_ble_eq_true rfl, Nat.le_of_ble_eq_true rfl⟩ (Nat.le_of_ble_eq_true rfl) (c2 := 0) (s2 := 0) rfl rfl ⟨Nat.le_of_ble_eq_true rfl, Nat.le_of_ble_eq_true rfl⟩ rfl (fun S72 hp hTg => ?_)
    replace h := hp
    have hT_S72 : S72.2.2.1 = T0 := by rw [hTg]; exact hT_S70
    refine ww_aload_n C dX11_plain_185 0 rfl ?_
    refine ww_iload_n C dX11_plain_186 1 rfl ?_
    refine ww_i2l C dX11_plain_187 ?_
    refine ww_ldc2 (v := 65536) C dX11_plain_188 bw_1182 ?_
    refine ww_lmul C dX11_plain_191 ?_
    refine ww_iload_n C dX11_plain_192 3 rfl ?_
    refine ww_i2l C dX11_plain_193 ?_
    refine ww_ladd C dX11_plain_194 ?_
    refine ww_cVv (As := [.long ((v1.toInt64 * 65536) + v3.toInt64)]) (rest := []) C ok_X11_addFour bw_1178 dX11_plain_195 (run_X11_addFour  (fun _ => h)) rc_Model rfl ⟨Nat.le_of_ble_eq_true rfl, Nat.le_of_ble_eq_true rfl⟩ (Nat.le_of_ble_eq_true rfl) (c2 := 0) (s2 := 0) rfl rfl ⟨Nat.le_of_ble_eq_true rfl, Nat.le_of_ble_eq_true rfl⟩ rfl (fun S74 hp hTg => ?_)
    replace h := hp
    have hT_S74 : S74.2.2.1 = T0 := by rw [hTg]; exact hT_S72
    refine ww_iload_n C dX11_plain_198 1 rfl ?_
    refine ww_aload_n C dX11_plain_199 0 rfl ?_
    refine gf_Model_parted C bw_949 dX11_plain_200 ?_
    refine ww_iadd C dX11_plain_203 ?_
    refine ww_topi (fun x76 e_x76 => ?_)
    replace h := h x76 e_x76
    refine ww_istore_n (lv2 := [(1, .int x76), (0, .ref (gad g 158)), (2, .int v2), (3, .int v3), (4, .long v4), (6, .int v6)]) C dX11_plain_204 rfl (Nat.le_of_ble_eq_true rfl) rfl ?_
    exact ww_sub [1, 0, 2] rfl (h hT_S74)
  · replace h := h.2 q69
    refine ww_lload C dX11_plain_106 4 rfl ?_
    refine ww_aload_n C dX11_plain_108 0 rfl ?_
    refine gf_Model_part C bw_950 dX11_plain_109 ?_
    refine ww_iload C dX11_plain_112 5 rfl ?_
    refine ia_m (a := 21) C (by decide) (by decide) h.1 dX11_plain_114 ?_
    replace h := h.2
    refine ww_i2l C dX11_plain_115 ?_
    refine ww_ldc2 (v := 256) C dX11_plain_116 bw_1176 ?_
    refine ww_lmul C dX11_plain_119 ?_
    refine ww_aload_n C dX11_plain_120 0 rfl ?_
    refine gf_Model_part C bw_950 dX11_plain_121 ?_
    refine ww_iload C dX11_plain_124 5 rfl ?_
    refine ww_iconst (v := 1) C dX11_plain_126 (by decide) ?_
    refine ww_iadd C dX11_plain_127 ?_
    refine ia_m (a := 21) C (by decide) (by decide) h.1 dX11_plain_128 ?_
    replace h := h.2
    refine ww_i2l C dX11_plain_129 ?_
    refine ww_ladd C dX11_plain_130 ?_
    refine ww_ldc2 (v := 256) C dX11_plain_131 bw_1176 ?_
    refine ww_lmul C dX11_plain_134 ?_
    refine ww_aload_n C dX11_plain_135 0 rfl ?_
    refine gf_Model_part C bw_950 dX11_plain_136 ?_
    refine ww_iload C dX11_plain_139 5 rfl ?_
    refine ww_iconst (v := 2) C dX11_plain_141 (by decide) ?_
    refine ww_iadd C dX11_plain_142 ?_
    refine ia_m (a := 21) C (by decide) (by decide) h.1 dX11_plain_143 ?_
    replace h := h.2
    refine ww_i2l C dX11_plain_144 ?_
    refine ww_ladd C dX11_plain_145 ?_
    refine ww_ldc2 (v := 256) C dX11_plain_146 bw_1176 ?_
    refine ww_lmul C dX11_plain_149 ?_
    refine ww_aload_n C dX11_plain_150 0 rfl ?_
    refine gf_Model_part C bw_950 dX11_plain_151 ?_
    refine ww_iload C dX11_plain_154 5 rfl ?_
    refine ww_iconst (v := 3) C dX11_plain_156 (by decide) ?_
    refine ww_iadd C dX11_plain_157 ?_
    refine ia_m (a := 21) C (by decide) (by decide) h.1 dX11_plain_158 ?_
    replace h := h.2
    refine ww_i2l C dX11_plain_159 ?_
    refine ww_ladd C dX11_plain_160 ?_
    refine ww_ladd C dX11_plain_161 ?_
    refine ww_topl (fun x77 e_x77 => ?_)
    replace h := h x77 e_x77
    refine ww_lstore (lv2 := [(4, .long x77), (0, .ref (gad g 158)), (1, .int v1), (2, .int v2), (3, .int v3), (6, .int v6)]) C dX11_plain_162 (Nat.le_of_ble_eq_true rfl) rfl ?_
    obtain ⟨x78, e_x78⟩ : ∃ z : Int32, z = v6 + 4 := ⟨_, rfl⟩
    replace h := h x78 e_x78
    refine ww_iinc (v := x78) (lv2 := [(6, .int x78), (4, .long x77), (0, .ref (gad g 158)), (1, .int v1), (2, .int v2), (3, .int v3)]) C dX11_plain_164 5 rfl (by rw [e_x78]; rfl) (Nat.le_of_ble_eq_true rfl) rfl ?_
    refine ww_goto (tgt := 97) C dX11_plain_167 (by decide) ?_
    exact ww_sub [2, 3, 4, 5, 1, 0] rfl (h hT)
set_option maxHeartbeats 4000000 in
set_option maxRecDepth 100000 in
theorem run_X11_plain_205 {f : Fx} {g : Gx} {T0 : List (Nat × Nat × Nat)} {S : St}  {P : Int32 → St → Prop} (C : Cx f g cX11_plain 7 RX11) (hrt : (fmeth f).sig.returnType = (some .int))  {v1 : Int32} {v2 : Int32} (h : st_X11_plain_205  P (at_X11_plain_13 f g T0  P) (at_X11_plain_50 f g T0  P) (at_X11_plain_74 f g T0  P) (at_X11_plain_97 f g T0  P) (at_X11_plain_205 f g T0  P) (at_X11_plain_213 f g T0  P) (at_X11_plain_232 f g T0  P) (at_X11_plain_251 f g T0  P) (at_X11_plain_275 f g T0  P) S v1 v2) : at_X11_plain_205 f g T0  P S v1 v2 := by
  intro hT 
  unfold st_X11_plain_205 at h
  obtain ⟨x79, e_x79⟩ : ∃ z : Int32, z = v2 + 1 := ⟨_, rfl⟩
  replace h := h x79 e_x79
  refine ww_iinc (v := x79) (lv2 := [(2, .int x79), (0, .ref (gad g 158)), (1, .int v1)]) C dX11_plain_205 2 rfl (by rw [e_x79]; rfl) (Nat.le_of_ble_eq_true rfl) rfl ?_
  refine ww_goto (tgt := 50) C dX11_plain_208 (by decide) ?_
  exact ww_sub [1, 2, 0] rfl (h hT)
set_option maxHeartbeats 4000000 in
set_option maxRecDepth 100000 in
theorem run_X11_plain_213 {f : Fx} {g : Gx} {T0 : List (Nat × Nat × Nat)} {S : St}  {P : Int32 → St → Prop} (C : Cx f g cX11_plain 7 RX11) (hrt : (fmeth f).sig.returnType = (some .int))  {v2 : Int32} (h : st_X11_plain_213  P (at_X11_plain_13 f g T0  P) (at_X11_plain_50 f g T0  P) (at_X11_plain_74 f g T0  P) (at_X11_plain_97 f g T0  P) (at_X11_plain_205 f g T0  P) (at_X11_plain_213 f g T0  P) (at_X11_plain_232 f g T0  P) (at_X11_plain_251 f g T0  P) (at_X11_plain_275 f g T0  P) S v2) : at_X11_plain_213 f g T0  P S v2 := by
  intro hT 
  unfold st_X11_plain_213 at h
  refine ww_iload_n C dX11_plain_213 1 rfl ?_
  refine ww_bipush (v := 7) C dX11_plain_214 (by decide) ?_
  refine ww_icmp_ge (tgt := 281) C dX11_plain_216 (by decide) (fun q80 => ?_) (fun q80 => ?_)
  · replace h := h.1 q80
    refine ww_aload_n C dX11_plain_281 0 rfl ?_
    refine gf_Model_buffered C bw_945 dX11_plain_282 ?_
    exact ww_iret C hrt dX11_plain_285 hT h
  · replace h := h.2 q80
    refine ww_aload_n C dX11_plain_219 0 rfl ?_
    refine ww_iload_n C dX11_plain_220 1 rfl ?_
    refine ww_cVi (As := [.int v2]) (rest := []) C ok_X11_has bw_1089 dX11_plain_221 (run_X11_has  (fun _ => h)) rc_Model rfl ⟨Nat.le_of_ble_eq_true rfl, Nat.le_of_ble_eq_true rfl⟩ (Nat.le_of_ble_eq_true rfl) (c2 := 0) (s2 := 0) rfl rfl ⟨Nat.le_of_ble_eq_true rfl, Nat.le_of_ble_eq_true rfl⟩ rfl (fun r82 S81 hp hTg => ?_)
    replace h := hp
    have hT_S81 : S81.2.2.1 = T0 := by rw [hTg]; exact hT
    refine ww_if_eq (tgt := 275) C dX11_plain_224 (by decide) (fun q83 => ?_) (fun q83 => ?_)
    · replace h := h.1 q83
      exact ww_sub [0, 1] rfl (h hT_S81)
    · replace h := h.2 q83
      refine ww_aload_n C dX11_plain_227 0 rfl ?_
      refine ww_iload_n C dX11_plain_228 1 rfl ?_
      refine ww_cVv (As := [.int v2]) (rest := []) C ok_X11_layTable bw_1124 dX11_plain_229 (run_X11_layTable  (fun _ => h)) rc_Model rfl ⟨Nat.le_of_ble_eq_true rfl, Nat.le_of_ble_eq_true rfl⟩ (Nat.le_of_ble_eq_true rfl) (c2 := 0) (s2 := 0) rfl rfl ⟨Nat.le_of_ble_eq_true rfl, Nat.le_of_ble_eq_true rfl⟩ rfl (fun S84 hp hTg => ?_)
      replace h := hp
      have hT_S84 : S84.2.2.1 = T0 := by rw [hTg]; exact hT_S81
      exact ww_sub [0, 1] rfl (h hT_S84)
set_option maxHeartbeats 4000000 in
set_option maxRecDepth 100000 in
theorem run_X11_plain_232 {f : Fx} {g : Gx} {T0 : List (Nat × Nat × Nat)} {S : St}  {P : Int32 → St → Prop} (C : Cx f g cX11_plain 7 RX11) (hrt : (fmeth f).sig.returnType = (some .int))  {v2 : Int32} (h : st_X11_plain_232  P (at_X11_plain_13 f g T0  P) (at_X11_plain_50 f g T0  P) (at_X11_plain_74 f g T0  P) (at_X11_plain_97 f g T0  P) (at_X11_plain_205 f g T0  P) (at_X11_plain_213 f g T0  P) (at_X11_plain_232 f g T0  P) (at_X11_plain_251 f g T0  P) (at_X11_plain_275 f g T0  P) S v2) : at_X11_plain_232 f g T0  P S v2 := by
  intro hT 
  unfold st_X11_plain_232 at h
  refine ww_aload_n C dX11_plain_232 0 rfl ?_
  refine gf_Model_parted C bw_949 dX11_plain_233 ?_
  refine ww_iconst (v := 4) C dX11_plain_236 (by decide) ?_
  refine ww_irem C dX11_plain_237 (by decide) ?_
  refine ww_if_eq (tgt := 249) C dX11_plain_238 (by decide) (fun q86 => ?_) (fun q86 => ?_)
  · replace h := h.1 q86
    refine ww_iconst (v := 0) C dX11_plain_249 (by decide) ?_
    refine ww_istore_n (lv2 := [(3, .int 0), (0, .ref (gad g 158)), (2, .int v2)]) C dX11_plain_250 rfl (Nat.le_of_ble_eq_true rfl) rfl ?_
    exact ww_sub [1, 2, 0] rfl (h hT)
  · replace h := h.2 q86
    refine ww_aload_n C dX11_plain_241 0 rfl ?_
    refine ww_iconst (v := 0) C dX11_plain_242 (by decide) ?_
    refine ww_cVv (As := [.int 0]) (rest := []) C ok_X11_lay bw_1128 dX11_plain_243 (run_X11_lay  (fun _ => h)) rc_Model rfl ⟨Nat.le_of_ble_eq_true rfl, Nat.le_of_ble_eq_true rfl⟩ (Nat.le_of_ble_eq_true rfl) (c2 := 0) (s2 := 0) rfl rfl ⟨Nat.le_of_ble_eq_true rfl, Nat.le_of_ble_eq_true rfl⟩ rfl (fun S87 hp hTg => ?_)
    replace h := hp
    have hT_S87 : S87.2.2.1 = T0 := by rw [hTg]; exact hT
    refine ww_goto (tgt := 232) C dX11_plain_246 (by decide) ?_
    exact ww_sub [0, 1] rfl (h hT_S87)
set_option maxHeartbeats 4000000 in
set_option maxRecDepth 100000 in
theorem run_X11_plain_251 {f : Fx} {g : Gx} {T0 : List (Nat × Nat × Nat)} {S : St}  {P : Int32 → St → Prop} (C : Cx f g cX11_plain 7 RX11) (hrt : (fmeth f).sig.returnType = (some .int))  {v2 : Int32} {v3 : Int32} (h : st_X11_plain_251  P (at_X11_plain_13 f g T0  P) (at_X11_plain_50 f g T0  P) (at_X11_plain_74 f g T0  P) (at_X11_plain_97 f g T0  P) (at_X11_plain_205 f g T0  P) (at_X11_plain_213 f g T0  P) (at_X11_plain_232 f g T0  P) (at_X11_plain_251 f g T0  P) (at_X11_plain_275 f g T0  P) S v2 v3) : at_X11_plain_251 f g T0  P S v2 v3 := by
  intro hT 
  unfold st_X11_plain_251 at h
  refine ww_iload_n C dX11_plain_251 2 rfl ?_
  refine ww_aload_n C dX11_plain_252 0 rfl ?_
  refine gf_Model_parted C bw_949 dX11_plain_253 ?_
  refine ww_icmp_ge (tgt := 275) C dX11_plain_256 (by decide) (fun q89 => ?_) (fun q89 => ?_)
  · replace h := h.1 q89
    exact ww_sub [0, 1] rfl (h hT)
  · replace h := h.2 q89
    refine ww_aload_n C dX11_plain_259 0 rfl ?_
    refine ww_aload_n C dX11_plain_260 0 rfl ?_
    refine gf_Model_part C bw_950 dX11_plain_261 ?_
    refine ww_iload_n C dX11_plain_264 2 rfl ?_
    refine ia_m (a := 21) C (by decide) (by decide) h.1 dX11_plain_265 ?_
    replace h := h.2
    refine ww_cVv (As := [.int (S.2.1 31 v3.toNatClampNeg)]) (rest := []) C ok_X11_add bw_1081 dX11_plain_266 (run_X11_add  (fun _ => h)) rc_Model rfl ⟨Nat.le_of_ble_eq_true rfl, Nat.le_of_ble_eq_true rfl⟩ (Nat.le_of_ble_eq_true rfl) (c2 := 0) (s2 := 0) rfl rfl ⟨Nat.le_of_ble_eq_true rfl, Nat.le_of_ble_eq_true rfl⟩ rfl (fun S90 hp hTg => ?_)
    replace h := hp
    have hT_S90 : S90.2.2.1 = T0 := by rw [hTg]; exact hT
    obtain ⟨x92, e_x92⟩ : ∃ z : Int32, z = v3 + 1 := ⟨_, rfl⟩
    replace h := h x92 e_x92
    refine ww_iinc (v := x92) (lv2 := [(3, .int x92), (0, .ref (gad g 158)), (2, .int v2)]) C dX11_plain_269 2 rfl (by rw [e_x92]; rfl) (Nat.le_of_ble_eq_true rfl) rfl ?_
    refine ww_goto (tgt := 251) C dX11_plain_272 (by decide) ?_
    exact ww_sub [1, 2, 0] rfl (h hT_S90)
set_option maxHeartbeats 4000000 in
set_option maxRecDepth 100000 in
theorem run_X11_plain_275 {f : Fx} {g : Gx} {T0 : List (Nat × Nat × Nat)} {S : St}  {P : Int32 → St → Prop} (C : Cx f g cX11_plain 7 RX11) (hrt : (fmeth f).sig.returnType = (some .int))  {v2 : Int32} (h : st_X11_plain_275  P (at_X11_plain_13 f g T0  P) (at_X11_plain_50 f g T0  P) (at_X11_plain_74 f g T0  P) (at_X11_plain_97 f g T0  P) (at_X11_plain_205 f g T0  P) (at_X11_plain_213 f g T0  P) (at_X11_plain_232 f g T0  P) (at_X11_plain_251 f g T0  P) (at_X11_plain_275 f g T0  P) S v2) : at_X11_plain_275 f g T0  P S v2 := by
  intro hT 
  unfold st_X11_plain_275 at h
  obtain ⟨x93, e_x93⟩ : ∃ z : Int32, z = v2 + 1 := ⟨_, rfl⟩
  replace h := h x93 e_x93
  refine ww_iinc (v := x93) (lv2 := [(2, .int x93), (0, .ref (gad g 158))]) C dX11_plain_275 1 rfl (by rw [e_x93]; rfl) (Nat.le_of_ble_eq_true rfl) rfl ?_
  refine ww_goto (tgt := 213) C dX11_plain_278 (by decide) ?_
  exact ww_sub [1, 0] rfl (h hT)
def wp_X11_plain (S : St)  (P : Int32 → St → Prop) : Prop :=
  ∀ (X13 : St → Int32 → Prop) (X50 : St → Int32 → Int32 → Prop) (X74 : St → Int32 → Int32 → Int32 → Prop) (X97 : St → Int32 → Int32 → Int32 → Int64 → Int32 → Prop) (X205 : St → Int32 → Int32 → Prop) (X213 : St → Int32 → Prop) (X232 : St → Int32 → Prop) (X251 : St → Int32 → Int32 → Prop) (X275 : St → Int32 → Prop), (∀ S s0, st_X11_plain_13  P X13 X50 X74 X97 X205 X213 X232 X251 X275 S s0 → X13 S s0) → (∀ S v1 v2, st_X11_plain_50  P X13 X50 X74 X97 X205 X213 X232 X251 X275 S v1 v2 → X50 S v1 v2) → (∀ S v1 v2 v3, st_X11_plain_74  P X13 X50 X74 X97 X205 X213 X232 X251 X275 S v1 v2 v3 → X74 S v1 v2 v3) → (∀ S v1 v2 v3 v4 v6, st_X11_plain_97  P X13 X50 X74 X97 X205 X213 X232 X251 X275 S v1 v2 v3 v4 v6 → X97 S v1 v2 v3 v4 v6) → (∀ S v1 v2, st_X11_plain_205  P X13 X50 X74 X97 X205 X213 X232 X251 X275 S v1 v2 → X205 S v1 v2) → (∀ S v2, st_X11_plain_213  P X13 X50 X74 X97 X205 X213 X232 X251 X275 S v2 → X213 S v2) → (∀ S v2, st_X11_plain_232  P X13 X50 X74 X97 X205 X213 X232 X251 X275 S v2 → X232 S v2) → (∀ S v2 v3, st_X11_plain_251  P X13 X50 X74 X97 X205 X213 X232 X251 X275 S v2 v3 → X251 S v2 v3) → (∀ S v2, st_X11_plain_275  P X13 X50 X74 X97 X205 X213 X232 X251 X275 S v2 → X275 S v2) → wp_X11_open S (fun r95 S94 => ((r95 = 0 → X13 S94 0) ∧ (¬ r95 = 0 → X13 S94 1)))
set_option maxHeartbeats 4000000 in
set_option maxRecDepth 100000 in
theorem run_X11_plain {l : Launch} {g : Gx} {S : St}  {P : Int32 → St → Prop}  (h : rowsLe S → wp_X11_plain S  P) : CMi g l yX11_plain cX11_plain 7 (some .int) rm_X11_plain [.ref (gad g 158)] S P := cm_entry (own := RX11) (plainFor_of_name (by decide)) rfl (Nat.le_of_ble_eq_true rfl) rfl (fun hle f hf C hrt => by
  subst hf
  replace h := h hle
  obtain ⟨T0, hT⟩ : ∃ T, S.2.2.1 = T := ⟨_, rfl⟩
  rw [hT]
  replace h := h (at_X11_plain_13 f g T0  P) (at_X11_plain_50 f g T0  P) (at_X11_plain_74 f g T0  P) (at_X11_plain_97 f g T0  P) (at_X11_plain_205 f g T0  P) (at_X11_plain_213 f g T0  P) (at_X11_plain_232 f g T0  P) (at_X11_plain_251 f g T0  P) (at_X11_plain_275 f g T0  P) (fun S s0 h => run_X11_plain_13 C hrt  h) (fun S v1 v2 h => run_X11_plain_50 C hrt  h) (fun S v1 v2 v3 h => run_X11_plain_74 C hrt  h) (fun S v1 v2 v3 v4 v6 h => run_X11_plain_97 C hrt  h) (fun S v1 v2 h => run_X11_plain_205 C hrt  h) (fun S v2 h => run_X11_plain_213 C hrt  h) (fun S v2 h => run_X11_plain_232 C hrt  h) (fun S v2 v3 h => run_X11_plain_251 C hrt  h) (fun S v2 h => run_X11_plain_275 C hrt  h)
  refine ww_aload_n C dX11_plain_0 0 rfl ?_
  refine ww_aload_n C dX11_plain_1 0 rfl ?_
  refine ww_cVi (As := []) (rest := [.ref (gad g 158)]) C ok_X11_open bw_1053 dX11_plain_2 (run_X11_open  (fun _ => h)) rc_Model rfl ⟨Nat.le_of_ble_eq_true rfl, Nat.le_of_ble_eq_true rfl⟩ (Nat.le_of_ble_eq_true rfl) (c2 := 0) (s2 := 0) rfl rfl ⟨Nat.le_of_ble_eq_true rfl, Nat.le_of_ble_eq_true rfl⟩ rfl (fun r95 S94 hp hTg => ?_)
  replace h := hp
  have hT_S94 : S94.2.2.1 = T0 := by rw [hTg]; exact hT
  refine ww_if_eq (tgt := 12) C dX11_plain_5 (by decide) (fun q96 => ?_) (fun q96 => ?_)
  · replace h := h.1 q96
    refine ww_iconst (v := 0) C dX11_plain_12 (by decide) ?_
    exact ww_sub [0] rfl (h hT_S94)
  · replace h := h.2 q96
    refine ww_iconst (v := 1) C dX11_plain_8 (by decide) ?_
    refine ww_goto (tgt := 13) C dX11_plain_9 (by decide) ?_
    exact ww_sub [0] rfl (h hT_S94))
