abbrev rm_X6_bestDistance : Room := { frames := 1, cells := 0, slots := 0, locals := 23 }
theorem ok_X6_bestDistance : MOK yX6_bestDistance RX6 cX6_bestDistance 6 (some .int) 1 := ⟨bw_603, bw_4, bw_64, bw_604, by decide +kernel⟩
def st_X6_bestDistance_7 (p : Int32) (P : Int32 → St → Prop) (X7 : St → Int32 → Int32 → Int32 → Prop) (X50 : St → Int32 → Int32 → Int32 → Prop) (X56 : St → Int32 → Prop) (S : St) (v2 : Int32) (v3 : Int32) (v4 : Int32) : Prop :=
  ((p < v4 → X56 S v3) ∧ (¬ p < v4 → ((((rLen S 64) - p) ≤ v2 → X56 S v3) ∧ (¬ ((rLen S 64) - p) ≤ v2 → wp_X8_sameFrom S 64 p v4 (fun r10 S9 => ((r10 ≤ v2 → X50 S9 v2 v3 v4) ∧ (¬ r10 ≤ v2 → X50 S9 r10 v4 v4)))))))
def st_X6_bestDistance_50 (p : Int32) (P : Int32 → St → Prop) (X7 : St → Int32 → Int32 → Int32 → Prop) (X50 : St → Int32 → Int32 → Int32 → Prop) (X56 : St → Int32 → Prop) (S : St) (v2 : Int32) (v3 : Int32) (v4 : Int32) : Prop :=
  ∀ x12 : Int32, x12 = v4 + 1 → X7 S v2 v3 x12
def st_X6_bestDistance_56 (p : Int32) (P : Int32 → St → Prop) (X7 : St → Int32 → Int32 → Int32 → Prop) (X50 : St → Int32 → Int32 → Int32 → Prop) (X56 : St → Int32 → Prop) (S : St) (v3 : Int32) : Prop :=
  P v3 S
def at_X6_bestDistance_7 (f : Fx) (g : Gx) (T0 : List (Nat × Nat × Nat)) (p : Int32) (P : Int32 → St → Prop) (S : St) (v2 : Int32) (v3 : Int32) (v4 : Int32) : Prop := S.2.2.1 = T0 → WW f rm_X6_bestDistance g 6 0 0 (Qi f g 0 0 T0 P) S 7 [(0, .ref (gad g 155)), (1, .int p), (2, .int v2), (3, .int v3), (4, .int v4)] []
def at_X6_bestDistance_50 (f : Fx) (g : Gx) (T0 : List (Nat × Nat × Nat)) (p : Int32) (P : Int32 → St → Prop) (S : St) (v2 : Int32) (v3 : Int32) (v4 : Int32) : Prop := S.2.2.1 = T0 → WW f rm_X6_bestDistance g 6 0 0 (Qi f g 0 0 T0 P) S 50 [(0, .ref (gad g 155)), (1, .int p), (2, .int v2), (3, .int v3), (4, .int v4)] []
def at_X6_bestDistance_56 (f : Fx) (g : Gx) (T0 : List (Nat × Nat × Nat)) (p : Int32) (P : Int32 → St → Prop) (S : St) (v3 : Int32) : Prop := S.2.2.1 = T0 → WW f rm_X6_bestDistance g 6 0 0 (Qi f g 0 0 T0 P) S 56 [(3, .int v3)] []
set_option maxHeartbeats 4000000 in
set_option maxRecDepth 100000 in
theorem run_X6_bestDistance_7 {f : Fx} {g : Gx} {T0 : List (Nat × Nat × Nat)} {S : St} {p : Int32} {P : Int32 → St → Prop} (C : Cx f g cX6_bestDistance 6 RX6) (hrt : (fmeth f).sig.returnType = (some .int))  {v2 : Int32} {v3 : Int32} {v4 : Int32} (h : st_X6_bestDistance_7 p P (at_X6_bestDistance_7 f g T0 p P) (at_X6_bestDistance_50 f g T0 p P) (at_X6_bestDistance_56 f g T0 p P) S v2 v3 v4) : at_X6_bestDistance_7 f g T0 p P S v2 v3 v4 := by
  intro hT 
  unfold st_X6_bestDistance_7 at h
  refine ww_iload C dX6_bestDistance_7 4 rfl ?_
  refine ww_iload_n C dX6_bestDistance_9 1 rfl ?_
  refine ww_icmp_gt (tgt := 56) C dX6_bestDistance_10 (by decide) (fun q7 => ?_) (fun q7 => ?_)
  · replace h := h.1 q7
    exact ww_sub [3] rfl (h hT)
  · replace h := h.2 q7
    refine ww_iload_n C dX6_bestDistance_13 2 rfl ?_
    refine ww_aload_n C dX6_bestDistance_14 0 rfl ?_
    refine gf_PackedWriter_stream C bw_126 dX6_bestDistance_15 ?_
    refine ww_cVf (As := []) (rest := [.int v2]) C ok_X8_length bw_528 dX6_bestDistance_18 (cm_X8_length (by decide)) (rc_Row (by decide)) rfl ⟨Nat.le_of_ble_eq_true rfl, Nat.le_of_ble_eq_true rfl⟩ (Nat.le_of_ble_eq_true rfl) (c2 := 0) (s2 := 0) rfl rfl ⟨Nat.le_of_ble_eq_true rfl, Nat.le_of_ble_eq_true rfl⟩ rfl ?_
    refine ww_iload_n C dX6_bestDistance_21 1 rfl ?_
    refine ww_isub C dX6_bestDistance_22 ?_
    refine ww_icmp_ge (tgt := 56) C dX6_bestDistance_23 (by decide) (fun q8 => ?_) (fun q8 => ?_)
    · replace h := h.1 q8
      exact ww_sub [3] rfl (h hT)
    · replace h := h.2 q8
      refine ww_aload_n C dX6_bestDistance_26 0 rfl ?_
      refine gf_PackedWriter_stream C bw_126 dX6_bestDistance_27 ?_
      refine ww_iload_n C dX6_bestDistance_30 1 rfl ?_
      refine ww_iload C dX6_bestDistance_31 4 rfl ?_
      refine ww_cVi (As := [.int p, .int v4]) (rest := []) C ok_X8_sameFrom bw_605 dX6_bestDistance_33 (run_X8_sameFrom (by decide) (fun _ => h)) (rc_Row (by decide)) rfl ⟨Nat.le_of_ble_eq_true rfl, Nat.le_of_ble_eq_true rfl⟩ (Nat.le_of_ble_eq_true rfl) (c2 := 0) (s2 := 0) rfl rfl ⟨Nat.le_of_ble_eq_true rfl, Nat.le_of_ble_eq_true rfl⟩ rfl (fun r10 S9 hp hTg => ?_)
      replace h := hp
      have hT_S9 : S9.2.2.1 = T0 := by rw [hTg]; exact hT
      refine ww_istore (lv2 := [(5, .int r10), (0, .ref (gad g 155)), (1, .int p), (2, .int v2), (3, .int v3), (4, .int v4)]) C dX6_bestDistance_36 (Nat.le_of_ble_eq_true rfl) rfl ?_
      refine ww_iload C dX6_bestDistance_38 0 rfl ?_
      refine ww_iload_n C dX6_bestDistance_40 3 rfl ?_
      refine ww_icmp_le (tgt := 50) C dX6_bestDistance_41 (by decide) (fun q11 => ?_) (fun q11 => ?_)
      · replace h := h.1 q11
        exact ww_sub [1, 2, 3, 4, 5] rfl (h hT_S9)
      · replace h := h.2 q11
        refine ww_iload C dX6_bestDistance_44 0 rfl ?_
        refine ww_istore_n (lv2 := [(2, .int r10), (5, .int r10), (0, .ref (gad g 155)), (1, .int p), (3, .int v3), (4, .int v4)]) C dX6_bestDistance_46 rfl (Nat.le_of_ble_eq_true rfl) rfl ?_
        refine ww_iload C dX6_bestDistance_47 5 rfl ?_
        refine ww_istore_n (lv2 := [(3, .int v4), (2, .int r10), (5, .int r10), (0, .ref (gad g 155)), (1, .int p), (4, .int v4)]) C dX6_bestDistance_49 rfl (Nat.le_of_ble_eq_true rfl) rfl ?_
        exact ww_sub [3, 4, 1, 0, 5] rfl (h hT_S9)
set_option maxHeartbeats 4000000 in
set_option maxRecDepth 100000 in
theorem run_X6_bestDistance_50 {f : Fx} {g : Gx} {T0 : List (Nat × Nat × Nat)} {S : St} {p : Int32} {P : Int32 → St → Prop} (C : Cx f g cX6_bestDistance 6 RX6) (hrt : (fmeth f).sig.returnType = (some .int))  {v2 : Int32} {v3 : Int32} {v4 : Int32} (h : st_X6_bestDistance_50 p P (at_X6_bestDistance_7 f g T0 p P) (at_X6_bestDistance_50 f g T0 p P) (at_X6_bestDistance_56 f g T0 p P) S v2 v3 v4) : at_X6_bestDistance_50 f g T0 p P S v2 v3 v4 := by
  intro hT 
  unfold st_X6_bestDistance_50 at h
  obtain ⟨x12, e_x12⟩ : ∃ z : Int32, z = v4 + 1 := ⟨_, rfl⟩
  replace h := h x12 e_x12
  refine ww_iinc (v := x12) (lv2 := [(4, .int x12), (0, .ref (gad g 155)), (1, .int p), (2, .int v2), (3, .int v3)]) C dX6_bestDistance_50 4 rfl (by rw [e_x12]; rfl) (Nat.le_of_ble_eq_true rfl) rfl ?_
  refine ww_goto (tgt := 7) C dX6_bestDistance_53 (by decide) ?_
  exact ww_sub [1, 2, 3, 4, 0] rfl (h hT)
set_option maxHeartbeats 4000000 in
set_option maxRecDepth 100000 in
theorem run_X6_bestDistance_56 {f : Fx} {g : Gx} {T0 : List (Nat × Nat × Nat)} {S : St} {p : Int32} {P : Int32 → St → Prop} (C : Cx f g cX6_bestDistance 6 RX6) (hrt : (fmeth f).sig.returnType = (some .int))  {v3 : Int32} (h : st_X6_bestDistance_56 p P (at_X6_bestDistance_7 f g T0 p P) (at_X6_bestDistance_50 f g T0 p P) (at_X6_bestDistance_56 f g T0 p P) S v3) : at_X6_bestDistance_56 f g T0 p P S v3 := by
  intro hT 
  unfold st_X6_bestDistance_56 at h
  refine ww_iload_n C dX6_bestDistance_56 0 rfl ?_
  exact ww_iret C hrt dX6_bestDistance_57 hT h
def wp_X6_bestDistance (S : St) (p : Int32) (P : Int32 → St → Prop) : Prop :=
  ∀ (X7 : St → Int32 → Int32 → Int32 → Prop) (X50 : St → Int32 → Int32 → Int32 → Prop) (X56 : St → Int32 → Prop), (∀ S v2 v3 v4, st_X6_bestDistance_7 p P X7 X50 X56 S v2 v3 v4 → X7 S v2 v3 v4) → (∀ S v2 v3 v4, st_X6_bestDistance_50 p P X7 X50 X56 S v2 v3 v4 → X50 S v2 v3 v4) → (∀ S v3, st_X6_bestDistance_56 p P X7 X50 X56 S v3 → X56 S v3) → X7 S 0 0 1
set_option maxHeartbeats 4000000 in
set_option maxRecDepth 100000 in
theorem run_X6_bestDistance {l : Launch} {g : Gx} {S : St} {p : Int32} {P : Int32 → St → Prop}  (h : rowsLe S → wp_X6_bestDistance S p P) : CMi g l yX6_bestDistance cX6_bestDistance 6 (some .int) rm_X6_bestDistance [.ref (gad g 155), .int p] S P := cm_entry (own := RX6) (plainFor_of_name (by decide)) rfl (Nat.le_of_ble_eq_true rfl) rfl (fun hle f hf C hrt => by
  subst hf
  replace h := h hle
  obtain ⟨T0, hT⟩ : ∃ T, S.2.2.1 = T := ⟨_, rfl⟩
  rw [hT]
  replace h := h (at_X6_bestDistance_7 f g T0 p P) (at_X6_bestDistance_50 f g T0 p P) (at_X6_bestDistance_56 f g T0 p P) (fun S v2 v3 v4 h => run_X6_bestDistance_7 C hrt  h) (fun S v2 v3 v4 h => run_X6_bestDistance_50 C hrt  h) (fun S v3 h => run_X6_bestDistance_56 C hrt  h)
  refine ww_iconst (v := 0) C dX6_bestDistance_0 (by decide) ?_
  refine ww_istore_n (lv2 := [(2, .int 0), (0, .ref (gad g 155)), (1, .int p)]) C dX6_bestDistance_1 rfl (Nat.le_of_ble_eq_true rfl) rfl ?_
  refine ww_iconst (v := 0) C dX6_bestDistance_2 (by decide) ?_
  refine ww_istore_n (lv2 := [(3, .int 0), (2, .int 0), (0, .ref (gad g 155)), (1, .int p)]) C dX6_bestDistance_3 rfl (Nat.le_of_ble_eq_true rfl) rfl ?_
  refine ww_iconst (v := 1) C dX6_bestDistance_4 (by decide) ?_
  refine ww_istore (lv2 := [(4, .int 1), (3, .int 0), (2, .int 0), (0, .ref (gad g 155)), (1, .int p)]) C dX6_bestDistance_5 (Nat.le_of_ble_eq_true rfl) rfl ?_
  exact ww_sub [3, 4, 2, 1, 0] rfl (h hT))
abbrev rm_X6_compressStream : Room := { frames := 3, cells := 0, slots := 0, locals := 67 }
theorem ok_X6_compressStream : MOK yX6_compressStream RX6 cX6_compressStream 5 none 1 := ⟨bw_599, bw_3, bw_64, bw_600, by decide +kernel⟩
def st_X6_compressStream_2 (c : Nat) (r : Nat) (P : St → Prop) (X2 : St → Int32 → Prop) (X86 : St → Int32 → Prop) (S : St) (v2 : Int32) : Prop :=
  (((rLen S 64) ≤ v2 → wp_X1_fillByte S c r (fun S22 => P S22)) ∧ (¬ (rLen S 64) ≤ v2 → wp_X6_bestDistance S v2 (fun r25 S24 => wp_X8_sameFrom S24 64 v2 r25 (fun r27 S26 => ((r27 < 3 → wp_X1_addBits S26 c r 0 1 (fun S29 => wp_X1_addBits S29 c r (rGet S29 64 v2) 8 (fun S31 => ∀ x33 : Int32, x33 = v2 + 1 → X86 S31 x33))) ∧ (¬ r27 < 3 → wp_X1_addBits S26 c r 1 1 (fun S34 => wp_X1_addGamma S34 c r (r27 - 2) (fun S36 => wp_X1_addGamma S36 c r r25 (fun S38 => ∀ x40 : Int32, x40 = v2 + r27 → X86 S38 x40)))))))))
def st_X6_compressStream_86 (c : Nat) (r : Nat) (P : St → Prop) (X2 : St → Int32 → Prop) (X86 : St → Int32 → Prop) (S : St) (v2 : Int32) : Prop :=
  X2 S v2
def at_X6_compressStream_2 (f : Fx) (g : Gx) (T0 : List (Nat × Nat × Nat)) (c : Nat) (r : Nat) (P : St → Prop) (S : St) (v2 : Int32) : Prop := S.2.2.1 = T0 → WW f rm_X6_compressStream g 5 0 0 (Qv f g 0 0 T0 P) S 2 [(0, .ref (gad g 155)), (1, .ref c), (2, .int v2)] []
def at_X6_compressStream_86 (f : Fx) (g : Gx) (T0 : List (Nat × Nat × Nat)) (c : Nat) (r : Nat) (P : St → Prop) (S : St) (v2 : Int32) : Prop := S.2.2.1 = T0 → WW f rm_X6_compressStream g 5 0 0 (Qv f g 0 0 T0 P) S 86 [(0, .ref (gad g 155)), (1, .ref c), (2, .int v2)] []
set_option maxHeartbeats 4000000 in
set_option maxRecDepth 100000 in
theorem run_X6_compressStream_2 {f : Fx} {g : Gx} {T0 : List (Nat × Nat × Nat)} {S : St} {c : Nat} {r : Nat} {P : St → Prop} (C : Cx f g cX6_compressStream 5 RX6) (hrt : (fmeth f).sig.returnType = none) (hm : (c, 1, r) ∈ T0) (hr : r < 68) {v2 : Int32} (h : st_X6_compressStream_2 c r P (at_X6_compressStream_2 f g T0 c r P) (at_X6_compressStream_86 f g T0 c r P) S v2) : at_X6_compressStream_2 f g T0 c r P S v2 := by
  intro hT 
  unfold st_X6_compressStream_2 at h
  refine ww_iload_n C dX6_compressStream_2 2 rfl ?_
  refine ww_aload_n C dX6_compressStream_3 0 rfl ?_
  refine gf_PackedWriter_stream C bw_126 dX6_compressStream_4 ?_
  refine ww_cVf (As := []) (rest := [.int v2]) C ok_X8_length bw_528 dX6_compressStream_7 (cm_X8_length (by decide)) (rc_Row (by decide)) rfl ⟨Nat.le_of_ble_eq_true rfl, Nat.le_of_ble_eq_true rfl⟩ (Nat.le_of_ble_eq_true rfl) (c2 := 0) (s2 := 0) rfl rfl ⟨Nat.le_of_ble_eq_true rfl, Nat.le_of_ble_eq_true rfl⟩ rfl ?_
  refine ww_icmp_ge (tgt := 89) C dX6_compressStream_10 (by decide) (fun q21 => ?_) (fun q21 => ?_)
  · replace h := h.1 q21
    refine ww_aload_n C dX6_compressStream_89 1 rfl ?_
    refine ww_cVv (As := []) (rest := []) C ok_X1_fillByte bw_620 dX6_compressStream_90 (run_X1_fillByte (c := c) (r := r) (by rw [hT]; exact hm) hr (fun _ => h)) (rc_BitWriter (q := c) (r := r) (by rw [hT]; exact hm)) rfl ⟨Nat.le_of_ble_eq_true rfl, Nat.le_of_ble_eq_true rfl⟩ (Nat.le_of_ble_eq_true rfl) (c2 := 0) (s2 := 0) rfl rfl ⟨Nat.le_of_ble_eq_true rfl, Nat.le_of_ble_eq_true rfl⟩ rfl (fun S22 hp hTg => ?_)
    replace h := hp
    have hT_S22 : S22.2.2.1 = T0 := by rw [hTg]; exact hT
    exact ww_vret C hrt dX6_compressStream_93 hT_S22 h
  · replace h := h.2 q21
    refine ww_aload_n C dX6_compressStream_13 0 rfl ?_
    refine ww_iload_n C dX6_compressStream_14 2 rfl ?_
    refine ww_cVi (As := [.int v2]) (rest := []) C ok_X6_bestDistance bw_601 dX6_compressStream_15 (run_X6_bestDistance  (fun _ => h)) rc_PackedWriter rfl ⟨Nat.le_of_ble_eq_true rfl, Nat.le_of_ble_eq_true rfl⟩ (Nat.le_of_ble_eq_true rfl) (c2 := 0) (s2 := 0) rfl rfl ⟨Nat.le_of_ble_eq_true rfl, Nat.le_of_ble_eq_true rfl⟩ rfl (fun r25 S24 hp hTg => ?_)
    replace h := hp
    have hT_S24 : S24.2.2.1 = T0 := by rw [hTg]; exact hT
    refine ww_istore_n (lv2 := [(3, .int r25), (0, .ref (gad g 155)), (1, .ref c), (2, .int v2)]) C dX6_compressStream_18 rfl (Nat.le_of_ble_eq_true rfl) rfl ?_
    refine ww_aload_n C dX6_compressStream_19 1 rfl ?_
    refine gf_PackedWriter_stream C bw_126 dX6_compressStream_20 ?_
    refine ww_iload_n C dX6_compressStream_23 3 rfl ?_
    refine ww_iload_n C dX6_compressStream_24 0 rfl ?_
    refine ww_cVi (As := [.int v2, .int r25]) (rest := []) C ok_X8_sameFrom bw_605 dX6_compressStream_25 (run_X8_sameFrom (by decide) (fun _ => h)) (rc_Row (by decide)) rfl ⟨Nat.le_of_ble_eq_true rfl, Nat.le_of_ble_eq_true rfl⟩ (Nat.le_of_ble_eq_true rfl) (c2 := 0) (s2 := 0) rfl rfl ⟨Nat.le_of_ble_eq_true rfl, Nat.le_of_ble_eq_true rfl⟩ rfl (fun r27 S26 hp hTg => ?_)
    replace h := hp
    have hT_S26 : S26.2.2.1 = T0 := by rw [hTg]; exact hT_S24
    refine ww_istore (lv2 := [(4, .int r27), (3, .int r25), (0, .ref (gad g 155)), (1, .ref c), (2, .int v2)]) C dX6_compressStream_28 (Nat.le_of_ble_eq_true rfl) rfl ?_
    refine ww_iload C dX6_compressStream_30 0 rfl ?_
    refine ww_iconst (v := 3) C dX6_compressStream_32 (by decide) ?_
    refine ww_icmp_lt (tgt := 63) C dX6_compressStream_33 (by decide) (fun q28 => ?_) (fun q28 => ?_)
    · replace h := h.1 q28
      refine ww_aload_n C dX6_compressStream_63 3 rfl ?_
      refine ww_iconst (v := 0) C dX6_compressStream_64 (by decide) ?_
      refine ww_iconst (v := 1) C dX6_compressStream_65 (by decide) ?_
      refine ww_cVv (As := [.int 0, .int 1]) (rest := []) C ok_X1_addBits bw_609 dX6_compressStream_66 (run_X1_addBits (c := c) (r := r) (by rw [hT_S26]; exact hm) hr (fun _ => h)) (rc_BitWriter (q := c) (r := r) (by rw [hT_S26]; exact hm)) rfl ⟨Nat.le_of_ble_eq_true rfl, Nat.le_of_ble_eq_true rfl⟩ (Nat.le_of_ble_eq_true rfl) (c2 := 0) (s2 := 0) rfl rfl ⟨Nat.le_of_ble_eq_true rfl, Nat.le_of_ble_eq_true rfl⟩ rfl (fun S29 hp hTg => ?_)
      replace h := hp
      have hT_S29 : S29.2.2.1 = T0 := by rw [hTg]; exact hT_S26
      refine ww_aload_n C dX6_compressStream_69 3 rfl ?_
      refine ww_aload_n C dX6_compressStream_70 2 rfl ?_
      refine gf_PackedWriter_stream C bw_126 dX6_compressStream_71 ?_
      refine ww_iload_n C dX6_compressStream_74 4 rfl ?_
      refine ww_cVf (As := [.int v2]) (rest := [.ref c]) C ok_X8_get bw_619 dX6_compressStream_75 (cm_X8_get (by decide)) (rc_Row (by decide)) rfl ⟨Nat.le_of_ble_eq_true rfl, Nat.le_of_ble_eq_true rfl⟩ (Nat.le_of_ble_eq_true rfl) (c2 := 0) (s2 := 0) rfl rfl ⟨Nat.le_of_ble_eq_true rfl, Nat.le_of_ble_eq_true rfl⟩ rfl ?_
      refine ww_bipush (v := 8) C dX6_compressStream_78 (by decide) ?_
      refine ww_cVv (As := [.int (rGet S29 64 v2), .int 8]) (rest := []) C ok_X1_addBits bw_609 dX6_compressStream_80 (run_X1_addBits (c := c) (r := r) (by rw [hT_S29]; exact hm) hr (fun _ => h)) (rc_BitWriter (q := c) (r := r) (by rw [hT_S29]; exact hm)) rfl ⟨Nat.le_of_ble_eq_true rfl, Nat.le_of_ble_eq_true rfl⟩ (Nat.le_of_ble_eq_true rfl) (c2 := 0) (s2 := 0) rfl rfl ⟨Nat.le_of_ble_eq_true rfl, Nat.le_of_ble_eq_true rfl⟩ rfl (fun S31 hp hTg => ?_)
      replace h := hp
      have hT_S31 : S31.2.2.1 = T0 := by rw [hTg]; exact hT_S29
      obtain ⟨x33, e_x33⟩ : ∃ z : Int32, z = v2 + 1 := ⟨_, rfl⟩
      replace h := h x33 e_x33
      refine ww_iinc (v := x33) (lv2 := [(2, .int x33), (4, .int r27), (3, .int r25), (0, .ref (gad g 155)), (1, .ref c)]) C dX6_compressStream_83 4 rfl (by rw [e_x33]; rfl) (Nat.le_of_ble_eq_true rfl) rfl ?_
      exact ww_sub [3, 4, 0] rfl (h hT_S31)
    · replace h := h.2 q28
      refine ww_aload_n C dX6_compressStream_36 3 rfl ?_
      refine ww_iconst (v := 1) C dX6_compressStream_37 (by decide) ?_
      refine ww_iconst (v := 1) C dX6_compressStream_38 (by decide) ?_
      refine ww_cVv (As := [.int 1, .int 1]) (rest := []) C ok_X1_addBits bw_609 dX6_compressStream_39 (run_X1_addBits (c := c) (r := r) (by rw [hT_S26]; exact hm) hr (fun _ => h)) (rc_BitWriter (q := c) (r := r) (by rw [hT_S26]; exact hm)) rfl ⟨Nat.le_of_ble_eq_true rfl, Nat.le_of_ble_eq_true rfl⟩ (Nat.le_of_ble_eq_true rfl) (c2 := 0) (s2 := 0) rfl rfl ⟨Nat.le_of_ble_eq_true rfl, Nat.le_of_ble_eq_true rfl⟩ rfl (fun S34 hp hTg => ?_)
      replace h := hp
      have hT_S34 : S34.2.2.1 = T0 := by rw [hTg]; exact hT_S26
      refine ww_aload_n C dX6_compressStream_42 3 rfl ?_
      refine ww_iload C dX6_compressStream_43 0 rfl ?_
      refine ww_iconst (v := 2) C dX6_compressStream_45 (by decide) ?_
      refine ww_isub C dX6_compressStream_46 ?_
      refine ww_cVv (As := [.int (r27 - 2)]) (rest := []) C ok_X1_addGamma bw_614 dX6_compressStream_47 (run_X1_addGamma (c := c) (r := r) (by rw [hT_S34]; exact hm) hr (fun _ => h)) (rc_BitWriter (q := c) (r := r) (by rw [hT_S34]; exact hm)) rfl ⟨Nat.le_of_ble_eq_true rfl, Nat.le_of_ble_eq_true rfl⟩ (Nat.le_of_ble_eq_true rfl) (c2 := 0) (s2 := 0) rfl rfl ⟨Nat.le_of_ble_eq_true rfl, Nat.le_of_ble_eq_true rfl⟩ rfl (fun S36 hp hTg => ?_)
      replace h := hp
      have hT_S36 : S36.2.2.1 = T0 := by rw [hTg]; exact hT_S34
      refine ww_aload_n C dX6_compressStream_50 3 rfl ?_
      refine ww_iload_n C dX6_compressStream_51 1 rfl ?_
      refine ww_cVv (As := [.int r25]) (rest := []) C ok_X1_addGamma bw_614 dX6_compressStream_52 (run_X1_addGamma (c := c) (r := r) (by rw [hT_S36]; exact hm) hr (fun _ => h)) (rc_BitWriter (q := c) (r := r) (by rw [hT_S36]; exact hm)) rfl ⟨Nat.le_of_ble_eq_true rfl, Nat.le_of_ble_eq_true rfl⟩ (Nat.le_of_ble_eq_true rfl) (c2 := 0) (s2 := 0) rfl rfl ⟨Nat.le_of_ble_eq_true rfl, Nat.le_of_ble_eq_true rfl⟩ rfl (fun S38 hp hTg => ?_)
      replace h := hp
      have hT_S38 : S38.2.2.1 = T0 := by rw [hTg]; exact hT_S36
      refine ww_iload_n C dX6_compressStream_55 4 rfl ?_
      refine ww_iload C dX6_compressStream_56 0 rfl ?_
      refine ww_iadd C dX6_compressStream_58 ?_
      refine ww_topi (fun x40 e_x40 => ?_)
      replace h := h x40 e_x40
      refine ww_istore_n (lv2 := [(2, .int x40), (4, .int r27), (3, .int r25), (0, .ref (gad g 155)), (1, .ref c)]) C dX6_compressStream_59 rfl (Nat.le_of_ble_eq_true rfl) rfl ?_
      refine ww_goto (tgt := 86) C dX6_compressStream_60 (by decide) ?_
      exact ww_sub [3, 4, 0] rfl (h hT_S38)
set_option maxHeartbeats 4000000 in
set_option maxRecDepth 100000 in
theorem run_X6_compressStream_86 {f : Fx} {g : Gx} {T0 : List (Nat × Nat × Nat)} {S : St} {c : Nat} {r : Nat} {P : St → Prop} (C : Cx f g cX6_compressStream 5 RX6) (hrt : (fmeth f).sig.returnType = none) (hm : (c, 1, r) ∈ T0) (hr : r < 68) {v2 : Int32} (h : st_X6_compressStream_86 c r P (at_X6_compressStream_2 f g T0 c r P) (at_X6_compressStream_86 f g T0 c r P) S v2) : at_X6_compressStream_86 f g T0 c r P S v2 := by
  intro hT 
  unfold st_X6_compressStream_86 at h
  refine ww_goto (tgt := 2) C dX6_compressStream_86 (by decide) ?_
  exact ww_sub [0, 1, 2] rfl (h hT)
def wp_X6_compressStream (S : St) (c : Nat) (r : Nat) (P : St → Prop) : Prop :=
  ∀ (X2 : St → Int32 → Prop) (X86 : St → Int32 → Prop), (∀ S v2, st_X6_compressStream_2 c r P X2 X86 S v2 → X2 S v2) → (∀ S v2, st_X6_compressStream_86 c r P X2 X86 S v2 → X86 S v2) → X2 S 0
set_option maxHeartbeats 4000000 in
set_option maxRecDepth 100000 in
theorem run_X6_compressStream {l : Launch} {g : Gx} {S : St} {c : Nat} {r : Nat} {P : St → Prop} (hm : (c, 1, r) ∈ S.2.2.1) (hr : r < 68) (h : rowsLe S → wp_X6_compressStream S c r P) : CMv g l yX6_compressStream cX6_compressStream 5 none rm_X6_compressStream [.ref (gad g 155), .ref c] S P := cm_entry (own := RX6) (plainFor_of_name (by decide)) rfl (Nat.le_of_ble_eq_true rfl) rfl (fun hle f hf C hrt => by
  subst hf
  replace h := h hle
  obtain ⟨T0, hT⟩ : ∃ T, S.2.2.1 = T := ⟨_, rfl⟩
  rw [hT] at hm
  rw [hT]
  replace h := h (at_X6_compressStream_2 f g T0 c r P) (at_X6_compressStream_86 f g T0 c r P) (fun S v2 h => run_X6_compressStream_2 C hrt hm hr h) (fun S v2 h => run_X6_compressStream_86 C hrt hm hr h)
  refine ww_iconst (v := 0) C dX6_compressStream_0 (by decide) ?_
  refine ww_istore_n (lv2 := [(2, .int 0), (0, .ref (gad g 155)), (1, .ref c)]) C dX6_compressStream_1 rfl (Nat.le_of_ble_eq_true rfl) rfl ?_
  exact ww_sub [1, 2, 0] rfl (h hT))
