theorem ww_eqi {f : Fx} {R : Room} {g : Gx} {nL cells slots pc : Nat} {Q : State → Prop} {S : St} {lv : List (Nat × Value)} {st : List Value} {x y : Int32} (e : x = y) (k : WW f R g nL cells slots Q S pc lv (.int y :: st)) : WW f R g nL cells slots Q S pc lv (.int x :: st) := e ▸ k
/-- a place of a row of n things, 0 where there is none such -/
def ixc (n : Nat) (i : Int32) : Nat := if i < 0 then 0 else if nI n ≤ i then 0 else i.toNatClampNeg
theorem ixc_lt {n : Nat} {i : Int32} (h0 : 0 < n) (hn : n < 2 ^ 31) : ixc n i < n := by
  unfold ixc
  split
  · exact h0
  split
  · exact h0
  · rename_i q1 q2
    exact vp_in_lt (vp_of hn q1 q2)
def glId (S : St) (j : Nat) (i : Int32) : Nat := 6 * j + ixc 6 i
def rwId (S : St) (j : Nat) (i : Int32) : Nat := 48 + 7 * j + ixc 7 i
def lgId (S : St) (j : Nat) : Nat := glId S j (S.2.1 1 j - 1)
theorem glId_lt {S : St} {j : Nat} {i : Int32} (hj : j < 2) : glId S j i < 12 := by have := ixc_lt (n := 6) (i := i) (by omega) (by omega); unfold glId; omega
theorem rwId_lt {S : St} {j : Nat} {i : Int32} (hj : j < 2) : rwId S j i < 68 := by have := ixc_lt (n := 7) (i := i) (by omega) (by omega); unfold rwId; omega
theorem lgId_lt {S : St} {j : Nat} (hj : j < 2) : lgId S j < 12 := glId_lt hj

abbrev rm_X3_glyphAt : Room := { frames := 0, cells := 0, slots := 0, locals := 0 }
theorem ok_X3_glyphAt : MOK yX3_glyphAt RX3 cX3_glyphAt 2 (some (.object "FontPacker$Glyph")) 1 := ⟨bw_354, bw_355, bw_67, bw_356, by decide +kernel⟩
set_option maxHeartbeats 4000000 in
set_option maxRecDepth 100000 in
theorem cm_X3_glyphAt {l : Launch} {g : Gx} {S : St} {j : Nat} {i : Int32} (hj : j < 2) : CMr g l yX3_glyphAt cX3_glyphAt 2 (some (.object "FontPacker$Glyph")) rm_X3_glyphAt [.ref (gad g (148 + j)), .int i] S (136 + glId S j i) := cm_entry (own := RX3) (plainFor_of_name (by decide)) rfl (Nat.le_of_ble_eq_true rfl) rfl (fun hle f hf C hrt => by
  subst hf
  have tail : ∀ k, k < 6 → ixc 6 i = k → ∀ lv, WW f rm_X3_glyphAt g 2 0 0 (Qr f g 0 0 S (136 + glId S j i)) S 22 lv [.int (nI k), .ref (gad g (150 + j))] := fun k hk e lv => by
    refine gaa (k := k) C hj hk dX3_glyphAt_22 ?_
    have e2 : 136 + (6 * j + k) = 136 + glId S j i := by unfold glId; omega
    rw [e2]
    exact ww_aret C hrt dX3_glyphAt_23
  refine ww_aload_n C dX3_glyphAt_0 0 rfl ?_
  refine gf_Font_glyphs C (j := j) hj bw_199 dX3_glyphAt_1 ?_
  refine ww_iload_n C dX3_glyphAt_4 1 rfl ?_
  refine ww_if_lt (tgt := 21) C dX3_glyphAt_5 (by decide) (fun q => ?_) (fun q => ?_)
  · refine ww_iconst (v := 0) C dX3_glyphAt_21 (by decide) ?_
    exact ww_eqi nI_0.symm (tail 0 (by omega) (by simp [ixc, q]) _)
  · refine ww_iload_n C dX3_glyphAt_8 1 rfl ?_
    refine ww_aload_n C dX3_glyphAt_9 0 rfl ?_
    refine gf_Font_glyphs C (j := j) hj bw_199 dX3_glyphAt_10 ?_
    refine gal C hj dX3_glyphAt_13 ?_
    refine ww_icmp_ge (tgt := 21) C dX3_glyphAt_14 (by decide) (fun q1 => ?_) (fun q1 => ?_)
    · refine ww_iconst (v := 0) C dX3_glyphAt_21 (by decide) ?_
      have q2 : nI 6 ≤ i := q1
      exact ww_eqi nI_0.symm (tail 0 (by omega) (by simp [ixc, q, q2]) _)
    · refine ww_iload_n C dX3_glyphAt_17 1 rfl ?_
      refine ww_goto (tgt := 22) C dX3_glyphAt_18 (by decide) ?_
      have q2 : ¬ nI 6 ≤ i := q1
      exact ww_eqi (nonneg_nI q).1 (tail _ (vp_in_lt (vp_of (by omega) q q2)) (by simp [ixc, q, q2]) _))
abbrev rm_X3_tableRow : Room := { frames := 0, cells := 0, slots := 0, locals := 0 }
theorem ok_X3_tableRow : MOK yX3_tableRow RX3 cX3_tableRow 2 (some (.object "FontPacker$Row")) 1 := ⟨bw_444, bw_445, bw_67, bw_446, by decide +kernel⟩
set_option maxHeartbeats 4000000 in
set_option maxRecDepth 100000 in
theorem cm_X3_tableRow {l : Launch} {g : Gx} {S : St} {j : Nat} {i : Int32} (hj : j < 2) : CMr g l yX3_tableRow cX3_tableRow 2 (some (.object "FontPacker$Row")) rm_X3_tableRow [.ref (gad g (148 + j)), .int i] S (rwId S j i) := cm_entry (own := RX3) (plainFor_of_name (by decide)) rfl (Nat.le_of_ble_eq_true rfl) rfl (fun hle f hf C hrt => by
  subst hf
  have tail : ∀ k, k < 7 → ixc 7 i = k → ∀ lv, WW f rm_X3_tableRow g 2 0 0 (Qr f g 0 0 S (rwId S j i)) S 22 lv [.int (nI k), .ref (gad g (152 + j))] := fun k hk e lv => by
    refine raa (k := k) C hj hk dX3_tableRow_22 ?_
    have e2 : 48 + 7 * j + k = rwId S j i := by unfold rwId; omega
    rw [e2]
    exact ww_aret C hrt dX3_tableRow_23
  refine ww_aload_n C dX3_tableRow_0 0 rfl ?_
  refine gf_Font_rows C (j := j) hj bw_200 dX3_tableRow_1 ?_
  refine ww_iload_n C dX3_tableRow_4 1 rfl ?_
  refine ww_if_lt (tgt := 21) C dX3_tableRow_5 (by decide) (fun q => ?_) (fun q => ?_)
  · refine ww_iconst (v := 0) C dX3_tableRow_21 (by decide) ?_
    exact ww_eqi nI_0.symm (tail 0 (by omega) (by simp [ixc, q]) _)
  · refine ww_iload_n C dX3_tableRow_8 1 rfl ?_
    refine ww_aload_n C dX3_tableRow_9 0 rfl ?_
    refine gf_Font_rows C (j := j) hj bw_200 dX3_tableRow_10 ?_
    refine ral C hj dX3_tableRow_13 ?_
    refine ww_icmp_ge (tgt := 21) C dX3_tableRow_14 (by decide) (fun q1 => ?_) (fun q1 => ?_)
    · refine ww_iconst (v := 0) C dX3_tableRow_21 (by decide) ?_
      have q2 : nI 7 ≤ i := q1
      exact ww_eqi nI_0.symm (tail 0 (by omega) (by simp [ixc, q, q2]) _)
    · refine ww_iload_n C dX3_tableRow_17 1 rfl ?_
      refine ww_goto (tgt := 22) C dX3_tableRow_18 (by decide) ?_
      have q2 : ¬ nI 7 ≤ i := q1
      exact ww_eqi (nonneg_nI q).1 (tail _ (vp_in_lt (vp_of (by omega) q q2)) (by simp [ixc, q, q2]) _))
