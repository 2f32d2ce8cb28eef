abbrev rm_J9_abs_0f7a4 : Room := { frames := 0, cells := 0, slots := 0, locals := 0 }
theorem ok_J9_abs_0f7a4 : SOK yJ9_abs_0f7a4 cJ9_abs_0f7a4 1 (some .int) 1 := ⟨bw_521, bw_63, bw_522, by decide +kernel⟩
def wp_J9_abs_0f7a4_10 (x : Int32) (S : St) (s0 : Int32) (P : Int32 → St → Prop) : Prop :=
  P s0 S
set_option maxHeartbeats 4000000 in
set_option maxRecDepth 100000 in
theorem run_J9_abs_0f7a4_10 {f : Fx} {g : Gx} {T0 : List (Nat × Nat × Nat)} {S : St} {x : Int32} {P : Int32 → St → Prop} (C : Cx f g cJ9_abs_0f7a4 1 RJ9) (hrt : (fmeth f).sig.returnType = (some .int))  {s0 : Int32} (hT : S.2.2.1 = T0)  (h : wp_J9_abs_0f7a4_10 x S s0 P) : WW f rm_J9_abs_0f7a4 g 1 0 0 (Qi f g 0 0 T0 P) S 10 [] [.int s0] := by
  unfold wp_J9_abs_0f7a4_10 at h
  exact ww_iret C hrt dJ9_abs_0f7a4_10 hT h
def wp_J9_abs_0f7a4 (S : St) (x : Int32) (P : Int32 → St → Prop) : Prop :=
  ((0 ≤ x → wp_J9_abs_0f7a4_10 x S x P) ∧ (¬ 0 ≤ x → wp_J9_abs_0f7a4_10 x S (-x) P))
set_option maxHeartbeats 4000000 in
set_option maxRecDepth 100000 in
theorem run_J9_abs_0f7a4 {l : Launch} {g : Gx} {S : St} {x : Int32} {P : Int32 → St → Prop}  (h : rowsLe S → wp_J9_abs_0f7a4 S x P) : CMi g l yJ9_abs_0f7a4 cJ9_abs_0f7a4 1 (some .int) rm_J9_abs_0f7a4 [.int x] S P := cm_entry (own := RJ9) (by decide +kernel) rfl (Nat.le_of_ble_eq_true rfl) rfl (fun hle f hf C hrt => by
  subst hf
  replace h := h hle
  obtain ⟨T0, hT⟩ : ∃ T, S.2.2.1 = T := ⟨_, rfl⟩
  rw [hT]
  unfold wp_J9_abs_0f7a4 at h
  refine ww_iload_n C dJ9_abs_0f7a4_0 0 rfl ?_
  refine ww_if_ge (tgt := 9) C dJ9_abs_0f7a4_1 (by decide) (fun q2 => ?_) (fun q2 => ?_)
  · replace h := h.1 q2
    refine ww_iload_n C dJ9_abs_0f7a4_9 0 rfl ?_
    exact ww_sub [] rfl (run_J9_abs_0f7a4_10 C hrt  hT  h)
  · replace h := h.2 q2
    refine ww_iload_n C dJ9_abs_0f7a4_4 0 rfl ?_
    refine ww_ineg C dJ9_abs_0f7a4_5 ?_
    refine ww_goto (tgt := 10) C dJ9_abs_0f7a4_6 (by decide) ?_
    exact ww_sub [] rfl (run_J9_abs_0f7a4_10 C hrt  hT  h))
def fv_J9_abs_0f7a4_10 (S : St) (x : Int32) (s0 : Int32) : Int32 := s0
set_option maxHeartbeats 4000000 in
set_option maxRecDepth 100000 in
theorem sp_J9_abs_0f7a4_10 {S : St} {x : Int32} {s0 : Int32} {P : Int32 → St → Prop} (h : P (fv_J9_abs_0f7a4_10 S x s0) S) : wp_J9_abs_0f7a4_10 x S s0 P := by
  unfold wp_J9_abs_0f7a4_10
  unfold fv_J9_abs_0f7a4_10 at h
  exact h
def fv_J9_abs_0f7a4 (S : St) (x : Int32)  : Int32 := (if 0 ≤ x then (fv_J9_abs_0f7a4_10 S x x) else (fv_J9_abs_0f7a4_10 S x ((-x))))
set_option maxHeartbeats 4000000 in
set_option maxRecDepth 100000 in
theorem sp_J9_abs_0f7a4 {S : St} {x : Int32}  {P : Int32 → St → Prop} (h : P (fv_J9_abs_0f7a4 S x ) S) : wp_J9_abs_0f7a4 S x P := by
  unfold wp_J9_abs_0f7a4
  unfold fv_J9_abs_0f7a4 at h
  refine ⟨fun q2 => ?_, fun q2 => ?_⟩
  · simp only [if_pos q2] at h
    exact sp_J9_abs_0f7a4_10 h
  · simp only [if_neg q2] at h
    exact sp_J9_abs_0f7a4_10 h
theorem cm_J9_abs_0f7a4 {l : Launch} {g : Gx} {S : St} {x : Int32}  : CMi g l yJ9_abs_0f7a4 cJ9_abs_0f7a4 1 (some .int) rm_J9_abs_0f7a4 [.int x] S (fun v S2 => v = fv_J9_abs_0f7a4 S x ∧ S2 = S) := run_J9_abs_0f7a4  (fun _ => sp_J9_abs_0f7a4 ⟨rfl, rfl⟩)
