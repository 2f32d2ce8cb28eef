abbrev rm_X11_takeStep : Room := { frames := 1, cells := 0, slots := 0, locals := 21 }
theorem ok_X11_takeStep : MOK yX11_takeStep RX11 cX11_takeStep 10 none 2 := ⟨bw_1241, bw_54, bw_69, bw_1242, by decide +kernel⟩
def wp_X11_takeStep_415 (q : Int32) (p : Int32) (S : St) (s0 : Int32) (P : St → Prop) : Prop :=
  wp_X11_check S s0 (fun S51 => P S51)
set_option maxHeartbeats 4000000 in
set_option maxRecDepth 100000 in
theorem run_X11_takeStep_415 {f : Fx} {g : Gx} {T0 : List (Nat × Nat × Nat)} {S : St} {q : Int32} {p : Int32} {P : St → Prop} (C : Cx f g cX11_takeStep 10 RX11) (hrt : (fmeth f).sig.returnType = none)  {s0 : Int32} (hT : S.2.2.1 = T0)  (h : wp_X11_takeStep_415 q p S s0 P) : WW f rm_X11_takeStep g 10 0 0 (Qv f g 0 0 T0 P) S 415 [] [.int s0, .ref (gad g 158)] := by
  unfold wp_X11_takeStep_415 at h
  refine ww_cVv (As := [.int s0]) (rest := []) C ok_X11_check bw_1199 dX11_takeStep_415 (run_X11_check  (fun _ => h)) rc_Model rfl ⟨Nat.le_of_ble_eq_true rfl, Nat.le_of_ble_eq_true rfl⟩ (Nat.le_of_ble_eq_true rfl) (c2 := 0) (s2 := 0) rfl rfl ⟨Nat.le_of_ble_eq_true rfl, Nat.le_of_ble_eq_true rfl⟩ rfl (fun S51 hp hTg => ?_)
  replace h := hp
  have hT_S51 : S51.2.2.1 = T0 := by rw [hTg]; exact hT
  exact ww_vret C hrt dX11_takeStep_418 hT_S51 h
def wp_X11_takeStep_414 (q : Int32) (p : Int32) (S : St)  (P : St → Prop) : Prop :=
  wp_X11_takeStep_415 q p S 0 P
set_option maxHeartbeats 4000000 in
set_option maxRecDepth 100000 in
theorem run_X11_takeStep_414 {f : Fx} {g : Gx} {T0 : List (Nat × Nat × Nat)} {S : St} {q : Int32} {p : Int32} {P : St → Prop} (C : Cx f g cX11_takeStep 10 RX11) (hrt : (fmeth f).sig.returnType = none)   (hT : S.2.2.1 = T0)  (h : wp_X11_takeStep_414 q p S  P) : WW f rm_X11_takeStep g 10 0 0 (Qv f g 0 0 T0 P) S 414 [] [.ref (gad g 158)] := by
  unfold wp_X11_takeStep_414 at h
  refine ww_iconst (v := 0) C dX11_takeStep_414 (by decide) ?_
  exact ww_sub [] rfl (run_X11_takeStep_415 C hrt  hT  h)
def wp_X11_takeStep_381 (q : Int32) (p : Int32) (S : St) (v9 : Int32) (s0 : Int32) (s1 : Int32) (s2 : Int32) (P : St → Prop) : Prop :=
  (vp_in s2 (gw_ml 13) ∧ ∀ S53 : St, S53 = stM S 23 s2.toNatClampNeg (s1 + s0) → (vp_in v9 (gw_ml 12) ∧ wp_X11_far S53 (S53.2.1 22 v9.toNatClampNeg) (fun r55 S54 => ((¬ r55 = 0 → wp_X11_takeStep_414 q p S54  P) ∧ (r55 = 0 → (vp_in v9 (gw_ml 13) ∧ wp_X11_far S54 (S54.2.1 23 v9.toNatClampNeg) (fun r58 S57 => ((¬ r58 = 0 → wp_X11_takeStep_414 q p S57  P) ∧ (r58 = 0 → wp_X11_takeStep_415 q p S57 1 P)))))))))
set_option maxHeartbeats 4000000 in
set_option maxRecDepth 100000 in
theorem run_X11_takeStep_381 {f : Fx} {g : Gx} {T0 : List (Nat × Nat × Nat)} {S : St} {q : Int32} {p : Int32} {P : St → Prop} (C : Cx f g cX11_takeStep 10 RX11) (hrt : (fmeth f).sig.returnType = none)  {v9 : Int32} {s0 : Int32} {s1 : Int32} {s2 : Int32} (hT : S.2.2.1 = T0)  (h : wp_X11_takeStep_381 q p S v9 s0 s1 s2 P) : WW f rm_X11_takeStep g 10 0 0 (Qv f g 0 0 T0 P) S 381 [(0, .ref (gad g 158)), (9, .int v9)] [.int s0, .int s1, .int s2, .ref (gad g 172)] := by
  unfold wp_X11_takeStep_381 at h
  refine ww_iadd C dX11_takeStep_381 ?_
  refine is_m (a := 13) C (by decide) (by decide) h.1 dX11_takeStep_382 ?_
  replace h := h.2
  refine ww_nm (fun S53 e_S53 => ?_)
  replace h := h S53 e_S53
  have hT_S53 : S53.2.2.1 = T0 := by rw [e_S53]; exact hT
  refine ww_aload_n C dX11_takeStep_383 0 rfl ?_
  refine ww_aload_n C dX11_takeStep_384 0 rfl ?_
  refine gf_Model_newX C bw_938 dX11_takeStep_385 ?_
  refine ww_iload C dX11_takeStep_388 1 rfl ?_
  refine ia_m (a := 12) C (by decide) (by decide) h.1 dX11_takeStep_390 ?_
  replace h := h.2
  refine ww_cSi (As := [.int (S53.2.1 22 v9.toNatClampNeg)]) (rest := [.ref (gad g 158)]) C ok_X11_far bw_1065 dX11_takeStep_391 (run_X11_far  (fun _ => h)) rfl ⟨Nat.le_of_ble_eq_true rfl, Nat.le_of_ble_eq_true rfl⟩ (Nat.le_of_ble_eq_true rfl) (c2 := 0) (s2 := 0) rfl rfl ⟨Nat.le_of_ble_eq_true rfl, Nat.le_of_ble_eq_true rfl⟩ rfl (fun r55 S54 hp hTg => ?_)
  replace h := hp
  have hT_S54 : S54.2.2.1 = T0 := by rw [hTg]; exact hT_S53
  refine ww_if_ne (tgt := 414) C dX11_takeStep_394 (by decide) (fun q56 => ?_) (fun q56 => ?_)
  · replace h := h.1 q56
    exact ww_sub [] rfl (run_X11_takeStep_414 C hrt  hT_S54  h)
  · replace h := h.2 q56
    refine ww_aload_n C dX11_takeStep_397 0 rfl ?_
    refine gf_Model_newY C bw_939 dX11_takeStep_398 ?_
    refine ww_iload C dX11_takeStep_401 1 rfl ?_
    refine ia_m (a := 13) C (by decide) (by decide) h.1 dX11_takeStep_403 ?_
    replace h := h.2
    refine ww_cSi (As := [.int (S54.2.1 23 v9.toNatClampNeg)]) (rest := [.ref (gad g 158)]) C ok_X11_far bw_1065 dX11_takeStep_404 (run_X11_far  (fun _ => h)) rfl ⟨Nat.le_of_ble_eq_true rfl, Nat.le_of_ble_eq_true rfl⟩ (Nat.le_of_ble_eq_true rfl) (c2 := 0) (s2 := 0) rfl rfl ⟨Nat.le_of_ble_eq_true rfl, Nat.le_of_ble_eq_true rfl⟩ rfl (fun r58 S57 hp hTg => ?_)
    replace h := hp
    have hT_S57 : S57.2.2.1 = T0 := by rw [hTg]; exact hT_S54
    refine ww_if_ne (tgt := 414) C dX11_takeStep_407 (by decide) (fun q59 => ?_) (fun q59 => ?_)
    · replace h := h.1 q59
      exact ww_sub [] rfl (run_X11_takeStep_414 C hrt  hT_S57  h)
    · replace h := h.2 q59
      refine ww_iconst (v := 1) C dX11_takeStep_410 (by decide) ?_
      refine ww_goto (tgt := 415) C dX11_takeStep_411 (by decide) ?_
      exact ww_sub [] rfl (run_X11_takeStep_415 C hrt  hT_S57  h)
def wp_X11_takeStep_368 (q : Int32) (p : Int32) (S : St) (v6 : Int32) (v8 : Int32) (v9 : Int32) (s0 : Int32) (s1 : Int32) (P : St → Prop) : Prop :=
  ((v8 = 0 → wp_X11_takeStep_381 q p S v9 (-v6) s0 s1 P) ∧ (¬ v8 = 0 → wp_X11_takeStep_381 q p S v9 v6 s0 s1 P))
set_option maxHeartbeats 4000000 in
set_option maxRecDepth 100000 in
theorem run_X11_takeStep_368 {f : Fx} {g : Gx} {T0 : List (Nat × Nat × Nat)} {S : St} {q : Int32} {p : Int32} {P : St → Prop} (C : Cx f g cX11_takeStep 10 RX11) (hrt : (fmeth f).sig.returnType = none)  {v6 : Int32} {v8 : Int32} {v9 : Int32} {s0 : Int32} {s1 : Int32} (hT : S.2.2.1 = T0)  (h : wp_X11_takeStep_368 q p S v6 v8 v9 s0 s1 P) : WW f rm_X11_takeStep g 10 0 0 (Qv f g 0 0 T0 P) S 368 [(0, .ref (gad g 158)), (6, .int v6), (8, .int v8), (9, .int v9)] [.int s0, .int s1, .ref (gad g 172)] := by
  unfold wp_X11_takeStep_368 at h
  refine ww_iload C dX11_takeStep_368 2 rfl ?_
  refine ww_if_eq (tgt := 378) C dX11_takeStep_370 (by decide) (fun q60 => ?_) (fun q60 => ?_)
  · replace h := h.1 q60
    refine ww_iload C dX11_takeStep_378 1 rfl ?_
    refine ww_ineg C dX11_takeStep_380 ?_
    exact ww_sub [0, 3] rfl (run_X11_takeStep_381 C hrt  hT  h)
  · replace h := h.2 q60
    refine ww_iload C dX11_takeStep_373 1 rfl ?_
    refine ww_goto (tgt := 381) C dX11_takeStep_375 (by decide) ?_
    exact ww_sub [0, 3] rfl (run_X11_takeStep_381 C hrt  hT  h)
def wp_X11_takeStep_343 (q : Int32) (p : Int32) (S : St) (v6 : Int32) (v8 : Int32) (v9 : Int32) (s0 : Int32) (s1 : Int32) (s2 : Int32) (P : St → Prop) : Prop :=
  (vp_in s2 (gw_ml 12) ∧ ∀ S61 : St, S61 = stM S 22 s2.toNatClampNeg (s1 + s0) → ((p ≤ 0 → wp_X11_takeStep_368 q p S61 v6 v8 v9 0 v9 P) ∧ (¬ p ≤ 0 → (vp_in (v9 - 1) (gw_ml 13) ∧ wp_X11_takeStep_368 q p S61 v6 v8 v9 (S61.2.1 23 (v9 - 1).toNatClampNeg) v9 P))))
set_option maxHeartbeats 4000000 in
set_option maxRecDepth 100000 in
theorem run_X11_takeStep_343 {f : Fx} {g : Gx} {T0 : List (Nat × Nat × Nat)} {S : St} {q : Int32} {p : Int32} {P : St → Prop} (C : Cx f g cX11_takeStep 10 RX11) (hrt : (fmeth f).sig.returnType = none)  {v6 : Int32} {v8 : Int32} {v9 : Int32} {s0 : Int32} {s1 : Int32} {s2 : Int32} (hT : S.2.2.1 = T0)  (h : wp_X11_takeStep_343 q p S v6 v8 v9 s0 s1 s2 P) : WW f rm_X11_takeStep g 10 0 0 (Qv f g 0 0 T0 P) S 343 [(0, .ref (gad g 158)), (2, .int p), (6, .int v6), (8, .int v8), (9, .int v9)] [.int s0, .int s1, .int s2, .ref (gad g 171)] := by
  unfold wp_X11_takeStep_343 at h
  refine ww_iadd C dX11_takeStep_343 ?_
  refine is_m (a := 12) C (by decide) (by decide) h.1 dX11_takeStep_344 ?_
  replace h := h.2
  refine ww_nm (fun S61 e_S61 => ?_)
  replace h := h S61 e_S61
  have hT_S61 : S61.2.2.1 = T0 := by rw [e_S61]; exact hT
  refine ww_aload_n C dX11_takeStep_345 0 rfl ?_
  refine gf_Model_newY C bw_939 dX11_takeStep_346 ?_
  refine ww_iload C dX11_takeStep_349 4 rfl ?_
  refine ww_iload_n C dX11_takeStep_351 1 rfl ?_
  refine ww_if_le (tgt := 367) C dX11_takeStep_352 (by decide) (fun q62 => ?_) (fun q62 => ?_)
  · replace h := h.1 q62
    refine ww_iconst (v := 0) C dX11_takeStep_367 (by decide) ?_
    exact ww_sub [0, 2, 3, 4] rfl (run_X11_takeStep_368 C hrt  hT_S61  h)
  · replace h := h.2 q62
    refine ww_aload_n C dX11_takeStep_355 0 rfl ?_
    refine gf_Model_newY C bw_939 dX11_takeStep_356 ?_
    refine ww_iload C dX11_takeStep_359 4 rfl ?_
    refine ww_iconst (v := 1) C dX11_takeStep_361 (by decide) ?_
    refine ww_isub C dX11_takeStep_362 ?_
    refine ia_m (a := 13) C (by decide) (by decide) h.1 dX11_takeStep_363 ?_
    replace h := h.2
    refine ww_goto (tgt := 368) C dX11_takeStep_364 (by decide) ?_
    exact ww_sub [0, 2, 3, 4] rfl (run_X11_takeStep_368 C hrt  hT_S61  h)
def wp_X11_takeStep_330 (q : Int32) (p : Int32) (S : St) (v5 : Int32) (v6 : Int32) (v7 : Int32) (v8 : Int32) (v9 : Int32) (s0 : Int32) (s1 : Int32) (P : St → Prop) : Prop :=
  ((v7 = 0 → wp_X11_takeStep_343 q p S v6 v8 v9 (-v5) s0 s1 P) ∧ (¬ v7 = 0 → wp_X11_takeStep_343 q p S v6 v8 v9 v5 s0 s1 P))
set_option maxHeartbeats 4000000 in
set_option maxRecDepth 100000 in
theorem run_X11_takeStep_330 {f : Fx} {g : Gx} {T0 : List (Nat × Nat × Nat)} {S : St} {q : Int32} {p : Int32} {P : St → Prop} (C : Cx f g cX11_takeStep 10 RX11) (hrt : (fmeth f).sig.returnType = none)  {v5 : Int32} {v6 : Int32} {v7 : Int32} {v8 : Int32} {v9 : Int32} {s0 : Int32} {s1 : Int32} (hT : S.2.2.1 = T0)  (h : wp_X11_takeStep_330 q p S v5 v6 v7 v8 v9 s0 s1 P) : WW f rm_X11_takeStep g 10 0 0 (Qv f g 0 0 T0 P) S 330 [(0, .ref (gad g 158)), (2, .int p), (5, .int v5), (6, .int v6), (7, .int v7), (8, .int v8), (9, .int v9)] [.int s0, .int s1, .ref (gad g 171)] := by
  unfold wp_X11_takeStep_330 at h
  refine ww_iload C dX11_takeStep_330 4 rfl ?_
  refine ww_if_eq (tgt := 340) C dX11_takeStep_332 (by decide) (fun q63 => ?_) (fun q63 => ?_)
  · replace h := h.1 q63
    refine ww_iload C dX11_takeStep_340 2 rfl ?_
    refine ww_ineg C dX11_takeStep_342 ?_
    exact ww_sub [0, 1, 3, 5, 6] rfl (run_X11_takeStep_343 C hrt  hT  h)
  · replace h := h.2 q63
    refine ww_iload C dX11_takeStep_335 2 rfl ?_
    refine ww_goto (tgt := 343) C dX11_takeStep_337 (by decide) ?_
    exact ww_sub [0, 1, 3, 5, 6] rfl (run_X11_takeStep_343 C hrt  hT  h)
def wp_X11_takeStep_299 (q : Int32) (p : Int32) (S : St) (v5 : Int32) (v6 : Int32) (v7 : Int32) (v8 : Int32) (P : St → Prop) : Prop :=
  ∀ x64 : Int32, x64 = (16 * q) + p → ((p ≤ 0 → wp_X11_takeStep_330 q p S v5 v6 v7 v8 x64 0 x64 P) ∧ (¬ p ≤ 0 → (vp_in (x64 - 1) (gw_ml 12) ∧ wp_X11_takeStep_330 q p S v5 v6 v7 v8 x64 (S.2.1 22 (x64 - 1).toNatClampNeg) x64 P)))
set_option maxHeartbeats 4000000 in
set_option maxRecDepth 100000 in
theorem run_X11_takeStep_299 {f : Fx} {g : Gx} {T0 : List (Nat × Nat × Nat)} {S : St} {q : Int32} {p : Int32} {P : St → Prop} (C : Cx f g cX11_takeStep 10 RX11) (hrt : (fmeth f).sig.returnType = none)  {v5 : Int32} {v6 : Int32} {v7 : Int32} {v8 : Int32} (hT : S.2.2.1 = T0)  (h : wp_X11_takeStep_299 q p S v5 v6 v7 v8 P) : WW f rm_X11_takeStep g 10 0 0 (Qv f g 0 0 T0 P) S 299 [(0, .ref (gad g 158)), (1, .int q), (2, .int p), (5, .int v5), (6, .int v6), (7, .int v7), (8, .int v8)] [] := by
  unfold wp_X11_takeStep_299 at h
  refine ww_bipush (v := 16) C dX11_takeStep_299 (by decide) ?_
  refine ww_iload_n C dX11_takeStep_301 1 rfl ?_
  refine ww_imul C dX11_takeStep_302 ?_
  refine ww_iload_n C dX11_takeStep_303 2 rfl ?_
  refine ww_iadd C dX11_takeStep_304 ?_
  refine ww_topi (fun x64 e_x64 => ?_)
  replace h := h x64 e_x64
  refine ww_istore (lv2 := [(9, .int x64), (0, .ref (gad g 158)), (1, .int q), (2, .int p), (5, .int v5), (6, .int v6), (7, .int v7), (8, .int v8)]) C dX11_takeStep_305 (Nat.le_of_ble_eq_true rfl) rfl ?_
  refine ww_aload_n C dX11_takeStep_307 1 rfl ?_
  refine gf_Model_newX C bw_938 dX11_takeStep_308 ?_
  refine ww_iload C dX11_takeStep_311 0 rfl ?_
  refine ww_iload_n C dX11_takeStep_313 3 rfl ?_
  refine ww_if_le (tgt := 329) C dX11_takeStep_314 (by decide) (fun q65 => ?_) (fun q65 => ?_)
  · replace h := h.1 q65
    refine ww_iconst (v := 0) C dX11_takeStep_329 (by decide) ?_
    exact ww_sub [1, 3, 4, 5, 6, 7, 0] rfl (run_X11_takeStep_330 C hrt  hT  h)
  · replace h := h.2 q65
    refine ww_aload_n C dX11_takeStep_317 1 rfl ?_
    refine gf_Model_newX C bw_938 dX11_takeStep_318 ?_
    refine ww_iload C dX11_takeStep_321 0 rfl ?_
    refine ww_iconst (v := 1) C dX11_takeStep_323 (by decide) ?_
    refine ww_isub C dX11_takeStep_324 ?_
    refine ia_m (a := 12) C (by decide) (by decide) h.1 dX11_takeStep_325 ?_
    replace h := h.2
    refine ww_goto (tgt := 330) C dX11_takeStep_326 (by decide) ?_
    exact ww_sub [1, 3, 4, 5, 6, 7, 0] rfl (run_X11_takeStep_330 C hrt  hT  h)
def wp_X11_takeStep_77 (q : Int32) (p : Int32) (S : St) (v3 : Int32) (v4 : Int32) (v5 : Int32) (v6 : Int32) (v7 : Int32) (s0 : Int32) (P : St → Prop) : Prop :=
  ((10 ≤ v3 → ((20 ≤ v3 → ((84 ≤ v3 → ((120 ≤ v3 → ((124 ≤ v3 → wp_X11_next S (fun r72 S71 => ∀ x73 : Int32, x73 = (256 * v4) + r72 → wp_X11_next S71 (fun r75 S74 => ∀ x76 : Int32, x76 = 256 * r75 → wp_X11_next S74 (fun r78 S77 => ∀ x79 : Int32, x79 = x76 + r78 → wp_X11_takeStep_299 q p S77 x73 x79 v7 s0 P)))) ∧ (¬ 124 ≤ v3 → wp_X11_next S (fun r81 S80 => ∀ x82 : Int32, x82 = (16 * v4) + (r81 / 16) → wp_X11_next S80 (fun r84 S83 => ∀ x85 : Int32, x85 = ((r81 - r81 / 16 * 16) * 256) + r84 → wp_X11_takeStep_299 q p S83 x82 x85 v7 s0 P))))) ∧ (¬ 120 ≤ v3 → ∀ x86 : Int32, x86 = ((((v3 - 84) / 12) * 256) + v4) + 1 → wp_X11_next S (fun r88 S87 => ∀ x89 : Int32, x89 = (((((v3 - 84) - (v3 - 84) / 12 * 12) / 4) * 256) + r88) + 1 → wp_X11_takeStep_299 q p S87 x86 x89 v7 s0 P)))) ∧ (¬ 84 ≤ v3 → ∀ x90 : Int32, x90 = ((((v3 - 20) / 16) * 16) + (v4 / 16)) + 1 → ∀ x91 : Int32, x91 = (((((v3 - 20) / 4) - ((v3 - 20) / 4) / 4 * 4) * 16) + (v4 - v4 / 16 * 16)) + 1 → wp_X11_takeStep_299 q p S x90 x91 v7 s0 P))) ∧ (¬ 20 ≤ v3 → ∀ x92 : Int32, x92 = (((v3 - 10) / 2) * 256) + v4 → wp_X11_takeStep_299 q p S x92 v6 v7 s0 P))) ∧ (¬ 10 ≤ v3 → ∀ x93 : Int32, x93 = ((v3 / 2) * 256) + v4 → wp_X11_takeStep_299 q p S v5 x93 v7 s0 P))
set_option maxHeartbeats 4000000 in
set_option maxRecDepth 100000 in
theorem run_X11_takeStep_77 {f : Fx} {g : Gx} {T0 : List (Nat × Nat × Nat)} {S : St} {q : Int32} {p : Int32} {P : St → Prop} (C : Cx f g cX11_takeStep 10 RX11) (hrt : (fmeth f).sig.returnType = none)  {v3 : Int32} {v4 : Int32} {v5 : Int32} {v6 : Int32} {v7 : Int32} {s0 : Int32} (hT : S.2.2.1 = T0)  (h : wp_X11_takeStep_77 q p S v3 v4 v5 v6 v7 s0 P) : WW f rm_X11_takeStep g 10 0 0 (Qv f g 0 0 T0 P) S 77 [(0, .ref (gad g 158)), (1, .int q), (2, .int p), (3, .int v3), (4, .int v4), (5, .int v5), (6, .int v6), (7, .int v7)] [.int s0] := by
  unfold wp_X11_takeStep_77 at h
  refine ww_istore (lv2 := [(8, .int s0), (0, .ref (gad g 158)), (1, .int q), (2, .int p), (3, .int v3), (4, .int v4), (5, .int v5), (6, .int v6), (7, .int v7)]) C dX11_takeStep_77 (Nat.le_of_ble_eq_true rfl) rfl ?_
  refine ww_iload_n C dX11_takeStep_79 4 rfl ?_
  refine ww_bipush (v := 10) C dX11_takeStep_80 (by decide) ?_
  refine ww_icmp_ge (tgt := 100) C dX11_takeStep_82 (by decide) (fun q66 => ?_) (fun q66 => ?_)
  · replace h := h.1 q66
    refine ww_iload_n C dX11_takeStep_100 4 rfl ?_
    refine ww_bipush (v := 20) C dX11_takeStep_101 (by decide) ?_
    refine ww_icmp_ge (tgt := 124) C dX11_takeStep_103 (by decide) (fun q67 => ?_) (fun q67 => ?_)
    · replace h := h.1 q67
      refine ww_iload_n C dX11_takeStep_124 4 rfl ?_
      refine ww_bipush (v := 84) C dX11_takeStep_125 (by decide) ?_
      refine ww_icmp_ge (tgt := 174) C dX11_takeStep_127 (by decide) (fun q68 => ?_) (fun q68 => ?_)
      · replace h := h.1 q68
        refine ww_iload_n C dX11_takeStep_174 4 rfl ?_
        refine ww_bipush (v := 120) C dX11_takeStep_175 (by decide) ?_
        refine ww_icmp_ge (tgt := 223) C dX11_takeStep_177 (by decide) (fun q69 => ?_) (fun q69 => ?_)
        · replace h := h.1 q69
          refine ww_iload_n C dX11_takeStep_223 4 rfl ?_
          refine ww_bipush (v := 124) C dX11_takeStep_224 (by decide) ?_
          refine ww_icmp_ge (tgt := 267) C dX11_takeStep_226 (by decide) (fun q70 => ?_) (fun q70 => ?_)
          · replace h := h.1 q70
            refine ww_sipush (v := 256) C dX11_takeStep_267 (by decide) ?_
            refine ww_iload C dX11_takeStep_270 5 rfl ?_
            refine ww_imul C dX11_takeStep_272 ?_
            refine ww_aload_n C dX11_takeStep_273 1 rfl ?_
            refine ww_cVi (As := []) (rest := [.int (256 * v4)]) C ok_X11_next bw_1195 dX11_takeStep_274 (run_X11_next  (fun _ => h)) rc_Model rfl ⟨Nat.le_of_ble_eq_true rfl, Nat.le_of_ble_eq_true rfl⟩ (Nat.le_of_ble_eq_true rfl) (c2 := 0) (s2 := 0) rfl rfl ⟨Nat.le_of_ble_eq_true rfl, Nat.le_of_ble_eq_true rfl⟩ rfl (fun r72 S71 hp hTg => ?_)
            replace h := hp
            have hT_S71 : S71.2.2.1 = T0 := by rw [hTg]; exact hT
            refine ww_iadd C dX11_takeStep_277 ?_
            refine ww_topi (fun x73 e_x73 => ?_)
            replace h := h x73 e_x73
            refine ww_istore (lv2 := [(5, .int x73), (8, .int s0), (0, .ref (gad g 158)), (1, .int q), (2, .int p), (3, .int v3), (4, .int v4), (6, .int v6), (7, .int v7)]) C dX11_takeStep_278 (Nat.le_of_ble_eq_true rfl) rfl ?_
            refine ww_sipush (v := 256) C dX11_takeStep_280 (by decide) ?_
            refine ww_aload_n C dX11_takeStep_283 2 rfl ?_
            refine ww_cVi (As := []) (rest := [.int 256]) C ok_X11_next bw_1195 dX11_takeStep_284 (run_X11_next  (fun _ => h)) rc_Model rfl ⟨Nat.le_of_ble_eq_true rfl, Nat.le_of_ble_eq_true rfl⟩ (Nat.le_of_ble_eq_true rfl) (c2 := 0) (s2 := 0) rfl rfl ⟨Nat.le_of_ble_eq_true rfl, Nat.le_of_ble_eq_true rfl⟩ rfl (fun r75 S74 hp hTg => ?_)
            replace h := hp
            have hT_S74 : S74.2.2.1 = T0 := by rw [hTg]; exact hT_S71
            refine ww_imul C dX11_takeStep_287 ?_
            refine ww_topi (fun x76 e_x76 => ?_)
            replace h := h x76 e_x76
            refine ww_istore (lv2 := [(6, .int x76), (5, .int x73), (8, .int s0), (0, .ref (gad g 158)), (1, .int q), (2, .int p), (3, .int v3), (4, .int v4), (7, .int v7)]) C dX11_takeStep_288 (Nat.le_of_ble_eq_true rfl) rfl ?_
            refine ww_iload C dX11_takeStep_290 0 rfl ?_
            refine ww_aload_n C dX11_takeStep_292 3 rfl ?_
            refine ww_cVi (As := []) (rest := [.int x76]) C ok_X11_next bw_1195 dX11_takeStep_293 (run_X11_next  (fun _ => h)) rc_Model rfl ⟨Nat.le_of_ble_eq_true rfl, Nat.le_of_ble_eq_true rfl⟩ (Nat.le_of_ble_eq_true rfl) (c2 := 0) (s2 := 0) rfl rfl ⟨Nat.le_of_ble_eq_true rfl, Nat.le_of_ble_eq_true rfl⟩ rfl (fun r78 S77 hp hTg => ?_)
            replace h := hp
            have hT_S77 : S77.2.2.1 = T0 := by rw [hTg]; exact hT_S74
            refine ww_iadd C dX11_takeStep_296 ?_
            refine ww_topi (fun x79 e_x79 => ?_)
            replace h := h x79 e_x79
            refine ww_istore (lv2 := [(6, .int x79), (5, .int x73), (8, .int s0), (0, .ref (gad g 158)), (1, .int q), (2, .int p), (3, .int v3), (4, .int v4), (7, .int v7)]) C dX11_takeStep_297 (Nat.le_of_ble_eq_true rfl) rfl ?_
            exact ww_sub [3, 4, 5, 1, 0, 8, 2] rfl (run_X11_takeStep_299 C hrt  hT_S77  h)
          · replace h := h.2 q70
            refine ww_aload_n C dX11_takeStep_229 1 rfl ?_
            refine ww_cVi (As := []) (rest := []) C ok_X11_next bw_1195 dX11_takeStep_230 (run_X11_next  (fun _ => h)) rc_Model rfl ⟨Nat.le_of_ble_eq_true rfl, Nat.le_of_ble_eq_true rfl⟩ (Nat.le_of_ble_eq_true rfl) (c2 := 0) (s2 := 0) rfl rfl ⟨Nat.le_of_ble_eq_true rfl, Nat.le_of_ble_eq_true rfl⟩ rfl (fun r81 S80 hp hTg => ?_)
            replace h := hp
            have hT_S80 : S80.2.2.1 = T0 := by rw [hTg]; exact hT
            refine ww_istore (lv2 := [(9, .int r81), (8, .int s0), (0, .ref (gad g 158)), (1, .int q), (2, .int p), (3, .int v3), (4, .int v4), (5, .int v5), (6, .int v6), (7, .int v7)]) C dX11_takeStep_233 (Nat.le_of_ble_eq_true rfl) rfl ?_
            refine ww_bipush (v := 16) C dX11_takeStep_235 (by decide) ?_
            refine ww_iload C dX11_takeStep_237 6 rfl ?_
            refine ww_imul C dX11_takeStep_239 ?_
            refine ww_iload C dX11_takeStep_240 0 rfl ?_
            refine ww_bipush (v := 16) C dX11_takeStep_242 (by decide) ?_
            refine ww_idiv C dX11_takeStep_244 (by decide) ?_
            refine ww_iadd C dX11_takeStep_245 ?_
            refine ww_topi (fun x82 e_x82 => ?_)
            replace h := h x82 e_x82
            refine ww_istore (lv2 := [(5, .int x82), (9, .int r81), (8, .int s0), (0, .ref (gad g 158)), (1, .int q), (2, .int p), (3, .int v3), (4, .int v4), (6, .int v6), (7, .int v7)]) C dX11_takeStep_246 (Nat.le_of_ble_eq_true rfl) rfl ?_
            refine ww_iload C dX11_takeStep_248 1 rfl ?_
            refine ww_bipush (v := 16) C dX11_takeStep_250 (by decide) ?_
            refine ww_irem C dX11_takeStep_252 (by decide) ?_
            refine ww_sipush (v := 256) C dX11_takeStep_253 (by decide) ?_
            refine ww_imul C dX11_takeStep_256 ?_
            refine ww_aload_n C dX11_takeStep_257 3 rfl ?_
            refine ww_cVi (As := []) (rest := [.int ((r81 - r81 / 16 * 16) * 256)]) C ok_X11_next bw_1195 dX11_takeStep_258 (run_X11_next  (fun _ => h)) rc_Model rfl ⟨Nat.le_of_ble_eq_true rfl, Nat.le_of_ble_eq_true rfl⟩ (Nat.le_of_ble_eq_true rfl) (c2 := 0) (s2 := 0) rfl rfl ⟨Nat.le_of_ble_eq_true rfl, Nat.le_of_ble_eq_true rfl⟩ rfl (fun r84 S83 hp hTg => ?_)
            replace h := hp
            have hT_S83 : S83.2.2.1 = T0 := by rw [hTg]; exact hT_S80
            refine ww_iadd C dX11_takeStep_261 ?_
            refine ww_topi (fun x85 e_x85 => ?_)
            replace h := h x85 e_x85
            refine ww_istore (lv2 := [(6, .int x85), (5, .int x82), (9, .int r81), (8, .int s0), (0, .ref (gad g 158)), (1, .int q), (2, .int p), (3, .int v3), (4, .int v4), (7, .int v7)]) C dX11_takeStep_262 (Nat.le_of_ble_eq_true rfl) rfl ?_
            refine ww_goto (tgt := 299) C dX11_takeStep_264 (by decide) ?_
            exact ww_sub [4, 5, 6, 1, 0, 9, 3] rfl (run_X11_takeStep_299 C hrt  hT_S83  h)
        · replace h := h.2 q69
          refine ww_iload_n C dX11_takeStep_180 4 rfl ?_
          refine ww_bipush (v := 84) C dX11_takeStep_181 (by decide) ?_
          refine ww_isub C dX11_takeStep_183 ?_
          refine ww_bipush (v := 12) C dX11_takeStep_184 (by decide) ?_
          refine ww_idiv C dX11_takeStep_186 (by decide) ?_
          refine ww_sipush (v := 256) C dX11_takeStep_187 (by decide) ?_
          refine ww_imul C dX11_takeStep_190 ?_
          refine ww_iload C dX11_takeStep_191 5 rfl ?_
          refine ww_iadd C dX11_takeStep_193 ?_
          refine ww_iconst (v := 1) C dX11_takeStep_194 (by decide) ?_
          refine ww_iadd C dX11_takeStep_195 ?_
          refine ww_topi (fun x86 e_x86 => ?_)
          replace h := h x86 e_x86
          refine ww_istore (lv2 := [(5, .int x86), (8, .int s0), (0, .ref (gad g 158)), (1, .int q), (2, .int p), (3, .int v3), (4, .int v4), (6, .int v6), (7, .int v7)]) C dX11_takeStep_196 (Nat.le_of_ble_eq_true rfl) rfl ?_
          refine ww_iload_n C dX11_takeStep_198 5 rfl ?_
          refine ww_bipush (v := 84) C dX11_takeStep_199 (by decide) ?_
          refine ww_isub C dX11_takeStep_201 ?_
          refine ww_bipush (v := 12) C dX11_takeStep_202 (by decide) ?_
          refine ww_irem C dX11_takeStep_204 (by decide) ?_
          refine ww_iconst (v := 4) C dX11_takeStep_205 (by decide) ?_
          refine ww_idiv C dX11_takeStep_206 (by decide) ?_
          refine ww_sipush (v := 256) C dX11_takeStep_207 (by decide) ?_
          refine ww_imul C dX11_takeStep_210 ?_
          refine ww_aload_n C dX11_takeStep_211 2 rfl ?_
          refine ww_cVi (As := []) (rest := [.int ((((v3 - 84) - (v3 - 84) / 12 * 12) / 4) * 256)]) C ok_X11_next bw_1195 dX11_takeStep_212 (run_X11_next  (fun _ => h)) rc_Model rfl ⟨Nat.le_of_ble_eq_true rfl, Nat.le_of_ble_eq_true rfl⟩ (Nat.le_of_ble_eq_true rfl) (c2 := 0) (s2 := 0) rfl rfl ⟨Nat.le_of_ble_eq_true rfl, Nat.le_of_ble_eq_true rfl⟩ rfl (fun r88 S87 hp hTg => ?_)
          replace h := hp
          have hT_S87 : S87.2.2.1 = T0 := by rw [hTg]; exact hT
          refine ww_iadd C dX11_takeStep_215 ?_
          refine ww_iconst (v := 1) C dX11_takeStep_216 (by decide) ?_
          refine ww_iadd C dX11_takeStep_217 ?_
          refine ww_topi (fun x89 e_x89 => ?_)
          replace h := h x89 e_x89
          refine ww_istore (lv2 := [(6, .int x89), (5, .int x86), (8, .int s0), (0, .ref (gad g 158)), (1, .int q), (2, .int p), (3, .int v3), (4, .int v4), (7, .int v7)]) C dX11_takeStep_218 (Nat.le_of_ble_eq_true rfl) rfl ?_
          refine ww_goto (tgt := 299) C dX11_takeStep_220 (by decide) ?_
          exact ww_sub [3, 4, 5, 1, 0, 8, 2] rfl (run_X11_takeStep_299 C hrt  hT_S87  h)
      · replace h := h.2 q68
        refine ww_iload_n C dX11_takeStep_130 4 rfl ?_
        refine ww_bipush (v := 20) C dX11_takeStep_131 (by decide) ?_
        refine ww_isub C dX11_takeStep_133 ?_
        refine ww_bipush (v := 16) C dX11_takeStep_134 (by decide) ?_
        refine ww_idiv C dX11_takeStep_136 (by decide) ?_
        refine ww_bipush (v := 16) C dX11_takeStep_137 (by decide) ?_
        refine ww_imul C dX11_takeStep_139 ?_
        refine ww_iload C dX11_takeStep_140 5 rfl ?_
        refine ww_bipush (v := 16) C dX11_takeStep_142 (by decide) ?_
        refine ww_idiv C dX11_takeStep_144 (by decide) ?_
        refine ww_iadd C dX11_takeStep_145 ?_
        refine ww_iconst (v := 1) C dX11_takeStep_146 (by decide) ?_
        refine ww_iadd C dX11_takeStep_147 ?_
        refine ww_topi (fun x90 e_x90 => ?_)
        replace h := h x90 e_x90
        refine ww_istore (lv2 := [(5, .int x90), (8, .int s0), (0, .ref (gad g 158)), (1, .int q), (2, .int p), (3, .int v3), (4, .int v4), (6, .int v6), (7, .int v7)]) C dX11_takeStep_148 (Nat.le_of_ble_eq_true rfl) rfl ?_
        refine ww_iload_n C dX11_takeStep_150 5 rfl ?_
        refine ww_bipush (v := 20) C dX11_takeStep_151 (by decide) ?_
        refine ww_isub C dX11_takeStep_153 ?_
        refine ww_iconst (v := 4) C dX11_takeStep_154 (by decide) ?_
        refine ww_idiv C dX11_takeStep_155 (by decide) ?_
        refine ww_iconst (v := 4) C dX11_takeStep_156 (by decide) ?_
        refine ww_irem C dX11_takeStep_157 (by decide) ?_
        refine ww_bipush (v := 16) C dX11_takeStep_158 (by decide) ?_
        refine ww_imul C dX11_takeStep_160 ?_
        refine ww_iload C dX11_takeStep_161 6 rfl ?_
        refine ww_bipush (v := 16) C dX11_takeStep_163 (by decide) ?_
        refine ww_irem C dX11_takeStep_165 (by decide) ?_
        refine ww_iadd C dX11_takeStep_166 ?_
        refine ww_iconst (v := 1) C dX11_takeStep_167 (by decide) ?_
        refine ww_iadd C dX11_takeStep_168 ?_
        refine ww_topi (fun x91 e_x91 => ?_)
        replace h := h x91 e_x91
        refine ww_istore (lv2 := [(6, .int x91), (5, .int x90), (8, .int s0), (0, .ref (gad g 158)), (1, .int q), (2, .int p), (3, .int v3), (4, .int v4), (7, .int v7)]) C dX11_takeStep_169 (Nat.le_of_ble_eq_true rfl) rfl ?_
        refine ww_goto (tgt := 299) C dX11_takeStep_171 (by decide) ?_
        exact ww_sub [3, 4, 5, 1, 0, 8, 2] rfl (run_X11_takeStep_299 C hrt  hT  h)
    · replace h := h.2 q67
      refine ww_iload_n C dX11_takeStep_106 4 rfl ?_
      refine ww_bipush (v := 10) C dX11_takeStep_107 (by decide) ?_
      refine ww_isub C dX11_takeStep_109 ?_
      refine ww_iconst (v := 2) C dX11_takeStep_110 (by decide) ?_
      refine ww_idiv C dX11_takeStep_111 (by decide) ?_
      refine ww_sipush (v := 256) C dX11_takeStep_112 (by decide) ?_
      refine ww_imul C dX11_takeStep_115 ?_
      refine ww_iload C dX11_takeStep_116 5 rfl ?_
      refine ww_iadd C dX11_takeStep_118 ?_
      refine ww_topi (fun x92 e_x92 => ?_)
      replace h := h x92 e_x92
      refine ww_istore (lv2 := [(5, .int x92), (8, .int s0), (0, .ref (gad g 158)), (1, .int q), (2, .int p), (3, .int v3), (4, .int v4), (6, .int v6), (7, .int v7)]) C dX11_takeStep_119 (Nat.le_of_ble_eq_true rfl) rfl ?_
      refine ww_goto (tgt := 299) C dX11_takeStep_121 (by decide) ?_
      exact ww_sub [2, 3, 4, 0, 7, 8, 1] rfl (run_X11_takeStep_299 C hrt  hT  h)
  · replace h := h.2 q66
    refine ww_iload_n C dX11_takeStep_85 4 rfl ?_
    refine ww_iconst (v := 2) C dX11_takeStep_86 (by decide) ?_
    refine ww_idiv C dX11_takeStep_87 (by decide) ?_
    refine ww_sipush (v := 256) C dX11_takeStep_88 (by decide) ?_
    refine ww_imul C dX11_takeStep_91 ?_
    refine ww_iload C dX11_takeStep_92 5 rfl ?_
    refine ww_iadd C dX11_takeStep_94 ?_
    refine ww_topi (fun x93 e_x93 => ?_)
    replace h := h x93 e_x93
    refine ww_istore (lv2 := [(6, .int x93), (8, .int s0), (0, .ref (gad g 158)), (1, .int q), (2, .int p), (3, .int v3), (4, .int v4), (5, .int v5), (7, .int v7)]) C dX11_takeStep_95 (Nat.le_of_ble_eq_true rfl) rfl ?_
    refine ww_goto (tgt := 299) C dX11_takeStep_97 (by decide) ?_
    exact ww_sub [2, 3, 4, 7, 0, 8, 1] rfl (run_X11_takeStep_299 C hrt  hT  h)
def wp_X11_takeStep_40 (q : Int32) (p : Int32) (S : St) (v3 : Int32) (v4 : Int32) (v5 : Int32) (v6 : Int32) (s0 : Int32) (P : St → Prop) : Prop :=
  ((10 ≤ v3 → ((¬ ((v3 / 2) - (v3 / 2) / 2 * 2) = 1 → wp_X11_takeStep_77 q p S v3 v4 v5 v6 s0 0 P) ∧ (((v3 / 2) - (v3 / 2) / 2 * 2) = 1 → wp_X11_takeStep_77 q p S v3 v4 v5 v6 s0 1 P))) ∧ (¬ 10 ≤ v3 → ((¬ (v3 - v3 / 2 * 2) = 1 → wp_X11_takeStep_77 q p S v3 v4 v5 v6 s0 0 P) ∧ ((v3 - v3 / 2 * 2) = 1 → wp_X11_takeStep_77 q p S v3 v4 v5 v6 s0 1 P))))
set_option maxHeartbeats 4000000 in
set_option maxRecDepth 100000 in
theorem run_X11_takeStep_40 {f : Fx} {g : Gx} {T0 : List (Nat × Nat × Nat)} {S : St} {q : Int32} {p : Int32} {P : St → Prop} (C : Cx f g cX11_takeStep 10 RX11) (hrt : (fmeth f).sig.returnType = none)  {v3 : Int32} {v4 : Int32} {v5 : Int32} {v6 : Int32} {s0 : Int32} (hT : S.2.2.1 = T0)  (h : wp_X11_takeStep_40 q p S v3 v4 v5 v6 s0 P) : WW f rm_X11_takeStep g 10 0 0 (Qv f g 0 0 T0 P) S 40 [(0, .ref (gad g 158)), (1, .int q), (2, .int p), (3, .int v3), (4, .int v4), (5, .int v5), (6, .int v6)] [.int s0] := by
  unfold wp_X11_takeStep_40 at h
  refine ww_istore (lv2 := [(7, .int s0), (0, .ref (gad g 158)), (1, .int q), (2, .int p), (3, .int v3), (4, .int v4), (5, .int v5), (6, .int v6)]) C dX11_takeStep_40 (Nat.le_of_ble_eq_true rfl) rfl ?_
  refine ww_iload_n C dX11_takeStep_42 4 rfl ?_
  refine ww_bipush (v := 10) C dX11_takeStep_43 (by decide) ?_
  refine ww_icmp_ge (tgt := 63) C dX11_takeStep_45 (by decide) (fun q94 => ?_) (fun q94 => ?_)
  · replace h := h.1 q94
    refine ww_iload_n C dX11_takeStep_63 4 rfl ?_
    refine ww_iconst (v := 2) C dX11_takeStep_64 (by decide) ?_
    refine ww_idiv C dX11_takeStep_65 (by decide) ?_
    refine ww_iconst (v := 2) C dX11_takeStep_66 (by decide) ?_
    refine ww_irem C dX11_takeStep_67 (by decide) ?_
    refine ww_iconst (v := 1) C dX11_takeStep_68 (by decide) ?_
    refine ww_icmp_ne (tgt := 76) C dX11_takeStep_69 (by decide) (fun q95 => ?_) (fun q95 => ?_)
    · replace h := h.1 q95
      refine ww_iconst (v := 0) C dX11_takeStep_76 (by decide) ?_
      exact ww_sub [1, 2, 3, 4, 5, 6, 7, 0] rfl (run_X11_takeStep_77 C hrt  hT  h)
    · replace h := h.2 q95
      refine ww_iconst (v := 1) C dX11_takeStep_72 (by decide) ?_
      refine ww_goto (tgt := 77) C dX11_takeStep_73 (by decide) ?_
      exact ww_sub [1, 2, 3, 4, 5, 6, 7, 0] rfl (run_X11_takeStep_77 C hrt  hT  h)
  · replace h := h.2 q94
    refine ww_iload_n C dX11_takeStep_48 4 rfl ?_
    refine ww_iconst (v := 2) C dX11_takeStep_49 (by decide) ?_
    refine ww_irem C dX11_takeStep_50 (by decide) ?_
    refine ww_iconst (v := 1) C dX11_takeStep_51 (by decide) ?_
    refine ww_icmp_ne (tgt := 59) C dX11_takeStep_52 (by decide) (fun q96 => ?_) (fun q96 => ?_)
    · replace h := h.1 q96
      refine ww_iconst (v := 0) C dX11_takeStep_59 (by decide) ?_
      refine ww_goto (tgt := 77) C dX11_takeStep_60 (by decide) ?_
      exact ww_sub [1, 2, 3, 4, 5, 6, 7, 0] rfl (run_X11_takeStep_77 C hrt  hT  h)
    · replace h := h.2 q96
      refine ww_iconst (v := 1) C dX11_takeStep_55 (by decide) ?_
      refine ww_goto (tgt := 77) C dX11_takeStep_56 (by decide) ?_
      exact ww_sub [1, 2, 3, 4, 5, 6, 7, 0] rfl (run_X11_takeStep_77 C hrt  hT  h)
def wp_X11_takeStep (S : St) (q : Int32) (p : Int32) (P : St → Prop) : Prop :=
  (vp_in ((16 * q) + p) (gw_ml 14) ∧ ∀ x97 : Int32, x97 = (S.2.1 24 ((16 * q) + p).toNatClampNeg) - (S.2.1 24 ((16 * q) + p).toNatClampNeg) / 128 * 128 → wp_X11_next S (fun r99 S98 => ((¬ (x97 - x97 / 2 * 2) = 1 → wp_X11_takeStep_40 q p S98 x97 r99 0 0 0 P) ∧ ((x97 - x97 / 2 * 2) = 1 → wp_X11_takeStep_40 q p S98 x97 r99 0 0 1 P))))
set_option maxHeartbeats 4000000 in
set_option maxRecDepth 100000 in
theorem run_X11_takeStep {l : Launch} {g : Gx} {S : St} {q : Int32} {p : Int32} {P : St → Prop}  (h : rowsLe S → wp_X11_takeStep S q p P) : CMv g l yX11_takeStep cX11_takeStep 10 none rm_X11_takeStep [.ref (gad g 158), .int q, .int p] S P := cm_entry (own := RX11) (plainFor_of_name (by decide)) rfl (Nat.le_of_ble_eq_true rfl) rfl (fun hle f hf C hrt => by
  subst hf
  replace h := h hle
  obtain ⟨T0, hT⟩ : ∃ T, S.2.2.1 = T := ⟨_, rfl⟩
  rw [hT]
  unfold wp_X11_takeStep at h
  refine ww_aload_n C dX11_takeStep_0 0 rfl ?_
  refine gf_Model_sign C bw_940 dX11_takeStep_1 ?_
  refine ww_bipush (v := 16) C dX11_takeStep_4 (by decide) ?_
  refine ww_iload_n C dX11_takeStep_6 1 rfl ?_
  refine ww_imul C dX11_takeStep_7 ?_
  refine ww_iload_n C dX11_takeStep_8 2 rfl ?_
  refine ww_iadd C dX11_takeStep_9 ?_
  refine ia_m (a := 14) C (by decide) (by decide) h.1 dX11_takeStep_10 ?_
  replace h := h.2
  refine ww_sipush (v := 128) C dX11_takeStep_11 (by decide) ?_
  refine ww_irem C dX11_takeStep_14 (by decide) ?_
  refine ww_topi (fun x97 e_x97 => ?_)
  replace h := h x97 e_x97
  refine ww_istore_n (lv2 := [(3, .int x97), (0, .ref (gad g 158)), (1, .int q), (2, .int p)]) C dX11_takeStep_15 rfl (Nat.le_of_ble_eq_true rfl) rfl ?_
  refine ww_aload_n C dX11_takeStep_16 1 rfl ?_
  refine ww_cVi (As := []) (rest := []) C ok_X11_next bw_1195 dX11_takeStep_17 (run_X11_next  (fun _ => h)) rc_Model rfl ⟨Nat.le_of_ble_eq_true rfl, Nat.le_of_ble_eq_true rfl⟩ (Nat.le_of_ble_eq_true rfl) (c2 := 0) (s2 := 0) rfl rfl ⟨Nat.le_of_ble_eq_true rfl, Nat.le_of_ble_eq_true rfl⟩ rfl (fun r99 S98 hp hTg => ?_)
  replace h := hp
  have hT_S98 : S98.2.2.1 = T0 := by rw [hTg]; exact hT
  refine ww_istore (lv2 := [(4, .int r99), (3, .int x97), (0, .ref (gad g 158)), (1, .int q), (2, .int p)]) C dX11_takeStep_20 (Nat.le_of_ble_eq_true rfl) rfl ?_
  refine ww_iconst (v := 0) C dX11_takeStep_22 (by decide) ?_
  refine ww_istore (lv2 := [(5, .int 0), (4, .int r99), (3, .int x97), (0, .ref (gad g 158)), (1, .int q), (2, .int p)]) C dX11_takeStep_23 (Nat.le_of_ble_eq_true rfl) rfl ?_
  refine ww_iconst (v := 0) C dX11_takeStep_25 (by decide) ?_
  refine ww_istore (lv2 := [(6, .int 0), (5, .int 0), (4, .int r99), (3, .int x97), (0, .ref (gad g 158)), (1, .int q), (2, .int p)]) C dX11_takeStep_26 (Nat.le_of_ble_eq_true rfl) rfl ?_
  refine ww_iload_n C dX11_takeStep_28 3 rfl ?_
  refine ww_iconst (v := 2) C dX11_takeStep_29 (by decide) ?_
  refine ww_irem C dX11_takeStep_30 (by decide) ?_
  refine ww_iconst (v := 1) C dX11_takeStep_31 (by decide) ?_
  refine ww_icmp_ne (tgt := 39) C dX11_takeStep_32 (by decide) (fun q100 => ?_) (fun q100 => ?_)
  · replace h := h.1 q100
    refine ww_iconst (v := 0) C dX11_takeStep_39 (by decide) ?_
    exact ww_sub [4, 5, 6, 3, 2, 1, 0] rfl (run_X11_takeStep_40 C hrt  hT_S98  h)
  · replace h := h.2 q100
    refine ww_iconst (v := 1) C dX11_takeStep_35 (by decide) ?_
    refine ww_goto (tgt := 40) C dX11_takeStep_36 (by decide) ?_
    exact ww_sub [4, 5, 6, 3, 2, 1, 0] rfl (run_X11_takeStep_40 C hrt  hT_S98  h))
abbrev rm_X11_takeSizes : Room := { frames := 2, cells := 0, slots := 0, locals := 42 }
theorem ok_X11_takeSizes : MOK yX11_takeSizes RX11 cX11_takeSizes 5 none 1 := ⟨bw_1233, bw_52, bw_69, bw_1234, by decide +kernel⟩
def st_X11_takeSizes_9 (q : Int32) (P : St → Prop) (X9 : St → Int32 → Prop) (X54 : St → Int32 → Int32 → Prop) (X55 : St → Int32 → Int32 → Int32 → Prop) (X61 : St → Int32 → Int32 → Int32 → Prop) (X107 : St → Int32 → Prop) (X113 : St → Prop) (S : St) (v2 : Int32) : Prop :=
  (vp_in q (gw_ml 10) ∧ (((S.2.1 20 q.toNatClampNeg) ≤ v2 → X113 S) ∧ (¬ (S.2.1 20 q.toNatClampNeg) ≤ v2 → ((¬ (S.2.1 9 11) = 0 → X113 S) ∧ ((S.2.1 9 11) = 0 → wp_X11_nextShort S (fun r19 S18 => ((r19 < 1 → X54 S18 v2 r19) ∧ (¬ r19 < 1 → (vp_in q (gw_ml 11) ∧ ((16 < ((S18.2.1 21 q.toNatClampNeg) + r19) → X54 S18 v2 r19) ∧ (¬ 16 < ((S18.2.1 21 q.toNatClampNeg) + r19) → X55 S18 v2 r19 1)))))))))))
def st_X11_takeSizes_54 (q : Int32) (P : St → Prop) (X9 : St → Int32 → Prop) (X54 : St → Int32 → Int32 → Prop) (X55 : St → Int32 → Int32 → Int32 → Prop) (X61 : St → Int32 → Int32 → Int32 → Prop) (X107 : St → Int32 → Prop) (X113 : St → Prop) (S : St) (v2 : Int32) (v3 : Int32) : Prop :=
  X55 S v2 v3 0
def st_X11_takeSizes_55 (q : Int32) (P : St → Prop) (X9 : St → Int32 → Prop) (X54 : St → Int32 → Int32 → Prop) (X55 : St → Int32 → Int32 → Int32 → Prop) (X61 : St → Int32 → Int32 → Int32 → Prop) (X107 : St → Int32 → Prop) (X113 : St → Prop) (S : St) (v2 : Int32) (v3 : Int32) (s0 : Int32) : Prop :=
  wp_X11_check S s0 (fun S22 => X61 S22 v2 v3 0)
def st_X11_takeSizes_61 (q : Int32) (P : St → Prop) (X9 : St → Int32 → Prop) (X54 : St → Int32 → Int32 → Prop) (X55 : St → Int32 → Int32 → Int32 → Prop) (X61 : St → Int32 → Int32 → Int32 → Prop) (X107 : St → Int32 → Prop) (X113 : St → Prop) (S : St) (v2 : Int32) (v3 : Int32) (v4 : Int32) : Prop :=
  ((v3 ≤ v4 → X107 S v2) ∧ (¬ v3 ≤ v4 → ((¬ (S.2.1 9 11) = 0 → X107 S v2) ∧ ((S.2.1 9 11) = 0 → (vp_in q (gw_ml 11) ∧ (vp_in ((16 * q) + (S.2.1 21 q.toNatClampNeg)) (gw_ml 15) ∧ ∀ S26 : St, S26 = stM S 25 ((16 * q) + (S.2.1 21 q.toNatClampNeg)).toNatClampNeg v2 → (vp_in q (gw_ml 11) ∧ (vp_in q (gw_ml 11) ∧ ∀ S27 : St, S27 = stM S26 21 q.toNatClampNeg ((S26.2.1 21 q.toNatClampNeg) + 1) → ∀ x28 : Int32, x28 = v4 + 1 → X61 S27 v2 v3 x28))))))))
def st_X11_takeSizes_107 (q : Int32) (P : St → Prop) (X9 : St → Int32 → Prop) (X54 : St → Int32 → Int32 → Prop) (X55 : St → Int32 → Int32 → Int32 → Prop) (X61 : St → Int32 → Int32 → Int32 → Prop) (X107 : St → Int32 → Prop) (X113 : St → Prop) (S : St) (v2 : Int32) : Prop :=
  ∀ x29 : Int32, x29 = v2 + 1 → X9 S x29
def st_X11_takeSizes_113 (q : Int32) (P : St → Prop) (X9 : St → Int32 → Prop) (X54 : St → Int32 → Int32 → Prop) (X55 : St → Int32 → Int32 → Int32 → Prop) (X61 : St → Int32 → Int32 → Int32 → Prop) (X107 : St → Int32 → Prop) (X113 : St → Prop) (S : St)  : Prop :=
  P S
def at_X11_takeSizes_9 (f : Fx) (g : Gx) (T0 : List (Nat × Nat × Nat)) (q : Int32) (P : St → Prop) (S : St) (v2 : Int32) : Prop := S.2.2.1 = T0 → WW f rm_X11_takeSizes g 5 0 0 (Qv f g 0 0 T0 P) S 9 [(0, .ref (gad g 158)), (1, .int q), (2, .int v2)] []
def at_X11_takeSizes_54 (f : Fx) (g : Gx) (T0 : List (Nat × Nat × Nat)) (q : Int32) (P : St → Prop) (S : St) (v2 : Int32) (v3 : Int32) : Prop := S.2.2.1 = T0 → WW f rm_X11_takeSizes g 5 0 0 (Qv f g 0 0 T0 P) S 54 [(0, .ref (gad g 158)), (1, .int q), (2, .int v2), (3, .int v3)] [.ref (gad g 158)]
def at_X11_takeSizes_55 (f : Fx) (g : Gx) (T0 : List (Nat × Nat × Nat)) (q : Int32) (P : St → Prop) (S : St) (v2 : Int32) (v3 : Int32) (s0 : Int32) : Prop := S.2.2.1 = T0 → WW f rm_X11_takeSizes g 5 0 0 (Qv f g 0 0 T0 P) S 55 [(0, .ref (gad g 158)), (1, .int q), (2, .int v2), (3, .int v3)] [.int s0, .ref (gad g 158)]
def at_X11_takeSizes_61 (f : Fx) (g : Gx) (T0 : List (Nat × Nat × Nat)) (q : Int32) (P : St → Prop) (S : St) (v2 : Int32) (v3 : Int32) (v4 : Int32) : Prop := S.2.2.1 = T0 → WW f rm_X11_takeSizes g 5 0 0 (Qv f g 0 0 T0 P) S 61 [(0, .ref (gad g 158)), (1, .int q), (2, .int v2), (3, .int v3), (4, .int v4)] []
def at_X11_takeSizes_107 (f : Fx) (g : Gx) (T0 : List (Nat × Nat × Nat)) (q : Int32) (P : St → Prop) (S : St) (v2 : Int32) : Prop := S.2.2.1 = T0 → WW f rm_X11_takeSizes g 5 0 0 (Qv f g 0 0 T0 P) S 107 [(0, .ref (gad g 158)), (1, .int q), (2, .int v2)] []
def at_X11_takeSizes_113 (f : Fx) (g : Gx) (T0 : List (Nat × Nat × Nat)) (q : Int32) (P : St → Prop) (S : St)  : Prop := S.2.2.1 = T0 → WW f rm_X11_takeSizes g 5 0 0 (Qv f g 0 0 T0 P) S 113 [] []
set_option maxHeartbeats 4000000 in
set_option maxRecDepth 100000 in
theorem run_X11_takeSizes_9 {f : Fx} {g : Gx} {T0 : List (Nat × Nat × Nat)} {S : St} {q : Int32} {P : St → Prop} (C : Cx f g cX11_takeSizes 5 RX11) (hrt : (fmeth f).sig.returnType = none)  {v2 : Int32} (h : st_X11_takeSizes_9 q P (at_X11_takeSizes_9 f g T0 q P) (at_X11_takeSizes_54 f g T0 q P) (at_X11_takeSizes_55 f g T0 q P) (at_X11_takeSizes_61 f g T0 q P) (at_X11_takeSizes_107 f g T0 q P) (at_X11_takeSizes_113 f g T0 q P) S v2) : at_X11_takeSizes_9 f g T0 q P S v2 := by
  intro hT 
  unfold st_X11_takeSizes_9 at h
  refine ww_iload_n C dX11_takeSizes_9 2 rfl ?_
  refine ww_aload_n C dX11_takeSizes_10 0 rfl ?_
  refine gf_Model_newContours C bw_936 dX11_takeSizes_11 ?_
  refine ww_iload_n C dX11_takeSizes_14 1 rfl ?_
  refine ia_m (a := 10) C (by decide) (by decide) h.1 dX11_takeSizes_15 ?_
  replace h := h.2
  refine ww_icmp_ge (tgt := 113) C dX11_takeSizes_16 (by decide) (fun q16 => ?_) (fun q16 => ?_)
  · replace h := h.1 q16
    exact ww_sub [] rfl (h hT)
  · replace h := h.2 q16
    refine ww_aload_n C dX11_takeSizes_19 0 rfl ?_
    refine gf_Model_bad C bw_956 dX11_takeSizes_20 ?_
    refine ww_if_ne (tgt := 113) C dX11_takeSizes_23 (by decide) (fun q17 => ?_) (fun q17 => ?_)
    · replace h := h.1 q17
      exact ww_sub [] rfl (h hT)
    · replace h := h.2 q17
      refine ww_aload_n C dX11_takeSizes_26 0 rfl ?_
      refine ww_cVi (As := []) (rest := []) C ok_X11_nextShort bw_1235 dX11_takeSizes_27 (run_X11_nextShort  (fun _ => h)) rc_Model rfl ⟨Nat.le_of_ble_eq_true rfl, Nat.le_of_ble_eq_true rfl⟩ (Nat.le_of_ble_eq_true rfl) (c2 := 0) (s2 := 0) rfl rfl ⟨Nat.le_of_ble_eq_true rfl, Nat.le_of_ble_eq_true rfl⟩ rfl (fun r19 S18 hp hTg => ?_)
      replace h := hp
      have hT_S18 : S18.2.2.1 = T0 := by rw [hTg]; exact hT
      refine ww_istore_n (lv2 := [(3, .int r19), (0, .ref (gad g 158)), (1, .int q), (2, .int v2)]) C dX11_takeSizes_30 rfl (Nat.le_of_ble_eq_true rfl) rfl ?_
      refine ww_aload_n C dX11_takeSizes_31 1 rfl ?_
      refine ww_iload_n C dX11_takeSizes_32 0 rfl ?_
      refine ww_iconst (v := 1) C dX11_takeSizes_33 (by decide) ?_
      refine ww_icmp_lt (tgt := 54) C dX11_takeSizes_34 (by decide) (fun q20 => ?_) (fun q20 => ?_)
      · replace h := h.1 q20
        exact ww_sub [1, 2, 3, 0] rfl (h hT_S18)
      · replace h := h.2 q20
        refine ww_aload_n C dX11_takeSizes_37 1 rfl ?_
        refine gf_Model_newPoints C bw_937 dX11_takeSizes_38 ?_
        refine ww_iload_n C dX11_takeSizes_41 2 rfl ?_
        refine ia_m (a := 11) C (by decide) (by decide) h.1 dX11_takeSizes_42 ?_
        replace h := h.2
        refine ww_iload_n C dX11_takeSizes_43 0 rfl ?_
        refine ww_iadd C dX11_takeSizes_44 ?_
        refine ww_bipush (v := 16) C dX11_takeSizes_45 (by decide) ?_
        refine ww_icmp_gt (tgt := 54) C dX11_takeSizes_47 (by decide) (fun q21 => ?_) (fun q21 => ?_)
        · replace h := h.1 q21
          exact ww_sub [1, 2, 3, 0] rfl (h hT_S18)
        · replace h := h.2 q21
          refine ww_iconst (v := 1) C dX11_takeSizes_50 (by decide) ?_
          refine ww_goto (tgt := 55) C dX11_takeSizes_51 (by decide) ?_
          exact ww_sub [1, 2, 3, 0] rfl (h hT_S18)
set_option maxHeartbeats 4000000 in
set_option maxRecDepth 100000 in
theorem run_X11_takeSizes_54 {f : Fx} {g : Gx} {T0 : List (Nat × Nat × Nat)} {S : St} {q : Int32} {P : St → Prop} (C : Cx f g cX11_takeSizes 5 RX11) (hrt : (fmeth f).sig.returnType = none)  {v2 : Int32} {v3 : Int32} (h : st_X11_takeSizes_54 q P (at_X11_takeSizes_9 f g T0 q P) (at_X11_takeSizes_54 f g T0 q P) (at_X11_takeSizes_55 f g T0 q P) (at_X11_takeSizes_61 f g T0 q P) (at_X11_takeSizes_107 f g T0 q P) (at_X11_takeSizes_113 f g T0 q P) S v2 v3) : at_X11_takeSizes_54 f g T0 q P S v2 v3 := by
  intro hT 
  unfold st_X11_takeSizes_54 at h
  refine ww_iconst (v := 0) C dX11_takeSizes_54 (by decide) ?_
  exact ww_sub [0, 1, 2, 3] rfl (h hT)
set_option maxHeartbeats 4000000 in
set_option maxRecDepth 100000 in
theorem run_X11_takeSizes_55 {f : Fx} {g : Gx} {T0 : List (Nat × Nat × Nat)} {S : St} {q : Int32} {P : St → Prop} (C : Cx f g cX11_takeSizes 5 RX11) (hrt : (fmeth f).sig.returnType = none)  {v2 : Int32} {v3 : Int32} {s0 : Int32} (h : st_X11_takeSizes_55 q P (at_X11_takeSizes_9 f g T0 q P) (at_X11_takeSizes_54 f g T0 q P) (at_X11_takeSizes_55 f g T0 q P) (at_X11_takeSizes_61 f g T0 q P) (at_X11_takeSizes_107 f g T0 q P) (at_X11_takeSizes_113 f g T0 q P) S v2 v3 s0) : at_X11_takeSizes_55 f g T0 q P S v2 v3 s0 := by
  intro hT 
  unfold st_X11_takeSizes_55 at h
  refine ww_cVv (As := [.int s0]) (rest := []) C ok_X11_check bw_1199 dX11_takeSizes_55 (run_X11_check  (fun _ => h)) rc_Model rfl ⟨Nat.le_of_ble_eq_true rfl, Nat.le_of_ble_eq_true rfl⟩ (Nat.le_of_ble_eq_true rfl) (c2 := 0) (s2 := 0) rfl rfl ⟨Nat.le_of_ble_eq_true rfl, Nat.le_of_ble_eq_true rfl⟩ rfl (fun S22 hp hTg => ?_)
  replace h := hp
  have hT_S22 : S22.2.2.1 = T0 := by rw [hTg]; exact hT
  refine ww_iconst (v := 0) C dX11_takeSizes_58 (by decide) ?_
  refine ww_istore (lv2 := [(4, .int 0), (0, .ref (gad g 158)), (1, .int q), (2, .int v2), (3, .int v3)]) C dX11_takeSizes_59 (Nat.le_of_ble_eq_true rfl) rfl ?_
  exact ww_sub [1, 2, 3, 4, 0] rfl (h hT_S22)
set_option maxHeartbeats 4000000 in
set_option maxRecDepth 100000 in
theorem run_X11_takeSizes_61 {f : Fx} {g : Gx} {T0 : List (Nat × Nat × Nat)} {S : St} {q : Int32} {P : St → Prop} (C : Cx f g cX11_takeSizes 5 RX11) (hrt : (fmeth f).sig.returnType = none)  {v2 : Int32} {v3 : Int32} {v4 : Int32} (h : st_X11_takeSizes_61 q P (at_X11_takeSizes_9 f g T0 q P) (at_X11_takeSizes_54 f g T0 q P) (at_X11_takeSizes_55 f g T0 q P) (at_X11_takeSizes_61 f g T0 q P) (at_X11_takeSizes_107 f g T0 q P) (at_X11_takeSizes_113 f g T0 q P) S v2 v3 v4) : at_X11_takeSizes_61 f g T0 q P S v2 v3 v4 := by
  intro hT 
  unfold st_X11_takeSizes_61 at h
  refine ww_iload C dX11_takeSizes_61 4 rfl ?_
  refine ww_iload_n C dX11_takeSizes_63 3 rfl ?_
  refine ww_icmp_ge (tgt := 107) C dX11_takeSizes_64 (by decide) (fun q24 => ?_) (fun q24 => ?_)
  · replace h := h.1 q24
    exact ww_sub [0, 1, 2] rfl (h hT)
  · replace h := h.2 q24
    refine ww_aload_n C dX11_takeSizes_67 0 rfl ?_
    refine gf_Model_bad C bw_956 dX11_takeSizes_68 ?_
    refine ww_if_ne (tgt := 107) C dX11_takeSizes_71 (by decide) (fun q25 => ?_) (fun q25 => ?_)
    · replace h := h.1 q25
      exact ww_sub [0, 1, 2] rfl (h hT)
    · replace h := h.2 q25
      refine ww_aload_n C dX11_takeSizes_74 0 rfl ?_
      refine gf_Model_newContourOf C bw_941 dX11_takeSizes_75 ?_
      refine ww_bipush (v := 16) C dX11_takeSizes_78 (by decide) ?_
      refine ww_iload_n C dX11_takeSizes_80 1 rfl ?_
      refine ww_imul C dX11_takeSizes_81 ?_
      refine ww_aload_n C dX11_takeSizes_82 0 rfl ?_
      refine gf_Model_newPoints C bw_937 dX11_takeSizes_83 ?_
      refine ww_iload_n C dX11_takeSizes_86 1 rfl ?_
      refine ia_m (a := 11) C (by decide) (by decide) h.1 dX11_takeSizes_87 ?_
      replace h := h.2
      refine ww_iadd C dX11_takeSizes_88 ?_
      refine ww_iload_n C dX11_takeSizes_89 2 rfl ?_
      refine is_m (a := 15) C (by decide) (by decide) h.1 dX11_takeSizes_90 ?_
      replace h := h.2
      refine ww_nm (fun S26 e_S26 => ?_)
      replace h := h S26 e_S26
      have hT_S26 : S26.2.2.1 = T0 := by rw [e_S26]; exact hT
      refine ww_aload_n C dX11_takeSizes_91 0 rfl ?_
      refine gf_Model_newPoints C bw_937 dX11_takeSizes_92 ?_
      refine ww_iload_n C dX11_takeSizes_95 1 rfl ?_
      refine ww_dup2 C dX11_takeSizes_96 rfl rfl ?_
      refine ia_m (a := 11) C (by decide) (by decide) h.1 dX11_takeSizes_97 ?_
      replace h := h.2
      refine ww_iconst (v := 1) C dX11_takeSizes_98 (by decide) ?_
      refine ww_iadd C dX11_takeSizes_99 ?_
      refine is_m (a := 11) C (by decide) (by decide) h.1 dX11_takeSizes_100 ?_
      replace h := h.2
      refine ww_nm (fun S27 e_S27 => ?_)
      replace h := h S27 e_S27
      have hT_S27 : S27.2.2.1 = T0 := by rw [e_S27]; exact hT_S26
      obtain ⟨x28, e_x28⟩ : ∃ z : Int32, z = v4 + 1 := ⟨_, rfl⟩
      replace h := h x28 e_x28
      refine ww_iinc (v := x28) (lv2 := [(4, .int x28), (0, .ref (gad g 158)), (1, .int q), (2, .int v2), (3, .int v3)]) C dX11_takeSizes_101 4 rfl (by rw [e_x28]; rfl) (Nat.le_of_ble_eq_true rfl) rfl ?_
      refine ww_goto (tgt := 61) C dX11_takeSizes_104 (by decide) ?_
      exact ww_sub [1, 2, 3, 4, 0] rfl (h hT_S27)
set_option maxHeartbeats 4000000 in
set_option maxRecDepth 100000 in
theorem run_X11_takeSizes_107 {f : Fx} {g : Gx} {T0 : List (Nat × Nat × Nat)} {S : St} {q : Int32} {P : St → Prop} (C : Cx f g cX11_takeSizes 5 RX11) (hrt : (fmeth f).sig.returnType = none)  {v2 : Int32} (h : st_X11_takeSizes_107 q P (at_X11_takeSizes_9 f g T0 q P) (at_X11_takeSizes_54 f g T0 q P) (at_X11_takeSizes_55 f g T0 q P) (at_X11_takeSizes_61 f g T0 q P) (at_X11_takeSizes_107 f g T0 q P) (at_X11_takeSizes_113 f g T0 q P) S v2) : at_X11_takeSizes_107 f g T0 q P S v2 := by
  intro hT 
  unfold st_X11_takeSizes_107 at h
  obtain ⟨x29, e_x29⟩ : ∃ z : Int32, z = v2 + 1 := ⟨_, rfl⟩
  replace h := h x29 e_x29
  refine ww_iinc (v := x29) (lv2 := [(2, .int x29), (0, .ref (gad g 158)), (1, .int q)]) C dX11_takeSizes_107 2 rfl (by rw [e_x29]; rfl) (Nat.le_of_ble_eq_true rfl) rfl ?_
  refine ww_goto (tgt := 9) C dX11_takeSizes_110 (by decide) ?_
  exact ww_sub [1, 2, 0] rfl (h hT)
set_option maxHeartbeats 4000000 in
set_option maxRecDepth 100000 in
theorem run_X11_takeSizes_113 {f : Fx} {g : Gx} {T0 : List (Nat × Nat × Nat)} {S : St} {q : Int32} {P : St → Prop} (C : Cx f g cX11_takeSizes 5 RX11) (hrt : (fmeth f).sig.returnType = none)   (h : st_X11_takeSizes_113 q P (at_X11_takeSizes_9 f g T0 q P) (at_X11_takeSizes_54 f g T0 q P) (at_X11_takeSizes_55 f g T0 q P) (at_X11_takeSizes_61 f g T0 q P) (at_X11_takeSizes_107 f g T0 q P) (at_X11_takeSizes_113 f g T0 q P) S ) : at_X11_takeSizes_113 f g T0 q P S  := by
  intro hT 
  unfold st_X11_takeSizes_113 at h
  exact ww_vret C hrt dX11_takeSizes_113 hT h
def wp_X11_takeSizes (S : St) (q : Int32) (P : St → Prop) : Prop :=
  ∀ (X9 : St → Int32 → Prop) (X54 : St → Int32 → Int32 → Prop) (X55 : St → Int32 → Int32 → Int32 → Prop) (X61 : St → Int32 → Int32 → Int32 → Prop) (X107 : St → Int32 → Prop) (X113 : St → Prop), (∀ S v2, st_X11_takeSizes_9 q P X9 X54 X55 X61 X107 X113 S v2 → X9 S v2) → (∀ S v2 v3, st_X11_takeSizes_54 q P X9 X54 X55 X61 X107 X113 S v2 v3 → X54 S v2 v3) → (∀ S v2 v3 s0, st_X11_takeSizes_55 q P X9 X54 X55 X61 X107 X113 S v2 v3 s0 → X55 S v2 v3 s0) → (∀ S v2 v3 v4, st_X11_takeSizes_61 q P X9 X54 X55 X61 X107 X113 S v2 v3 v4 → X61 S v2 v3 v4) → (∀ S v2, st_X11_takeSizes_107 q P X9 X54 X55 X61 X107 X113 S v2 → X107 S v2) → (∀ S , st_X11_takeSizes_113 q P X9 X54 X55 X61 X107 X113 S  → X113 S ) → (vp_in q (gw_ml 11) ∧ ∀ S30 : St, S30 = stM S 21 q.toNatClampNeg 0 → X9 S30 0)
set_option maxHeartbeats 4000000 in
set_option maxRecDepth 100000 in
theorem run_X11_takeSizes {l : Launch} {g : Gx} {S : St} {q : Int32} {P : St → Prop}  (h : rowsLe S → wp_X11_takeSizes S q P) : CMv g l yX11_takeSizes cX11_takeSizes 5 none rm_X11_takeSizes [.ref (gad g 158), .int q] S P := cm_entry (own := RX11) (plainFor_of_name (by decide)) rfl (Nat.le_of_ble_eq_true rfl) rfl (fun hle f hf C hrt => by
  subst hf
  replace h := h hle
  obtain ⟨T0, hT⟩ : ∃ T, S.2.2.1 = T := ⟨_, rfl⟩
  rw [hT]
  replace h := h (at_X11_takeSizes_9 f g T0 q P) (at_X11_takeSizes_54 f g T0 q P) (at_X11_takeSizes_55 f g T0 q P) (at_X11_takeSizes_61 f g T0 q P) (at_X11_takeSizes_107 f g T0 q P) (at_X11_takeSizes_113 f g T0 q P) (fun S v2 h => run_X11_takeSizes_9 C hrt  h) (fun S v2 v3 h => run_X11_takeSizes_54 C hrt  h) (fun S v2 v3 s0 h => run_X11_takeSizes_55 C hrt  h) (fun S v2 v3 v4 h => run_X11_takeSizes_61 C hrt  h) (fun S v2 h => run_X11_takeSizes_107 C hrt  h) (fun S  h => run_X11_takeSizes_113 C hrt  h)
  refine ww_aload_n C dX11_takeSizes_0 0 rfl ?_
  refine gf_Model_newPoints C bw_937 dX11_takeSizes_1 ?_
  refine ww_iload_n C dX11_takeSizes_4 1 rfl ?_
  refine ww_iconst (v := 0) C dX11_takeSizes_5 (by decide) ?_
  refine is_m (a := 11) C (by decide) (by decide) h.1 dX11_takeSizes_6 ?_
  replace h := h.2
  refine ww_nm (fun S30 e_S30 => ?_)
  replace h := h S30 e_S30
  have hT_S30 : S30.2.2.1 = T0 := by rw [e_S30]; exact hT
  refine ww_iconst (v := 0) C dX11_takeSizes_7 (by decide) ?_
  refine ww_istore_n (lv2 := [(2, .int 0), (0, .ref (gad g 158)), (1, .int q)]) C dX11_takeSizes_8 rfl (Nat.le_of_ble_eq_true rfl) rfl ?_
  exact ww_sub [1, 2, 0] rfl (h hT_S30))
abbrev rm_X11_takeGlyphs : Room := { frames := 3, cells := 0, slots := 0, locals := 66 }
theorem ok_X11_takeGlyphs : MOK yX11_takeGlyphs RX11 cX11_takeGlyphs 3 none 0 := ⟨bw_1229, bw_51, bw_69, bw_1230, by decide +kernel⟩
def st_X11_takeGlyphs_30  (P : St → Prop) (X30 : St → Prop) (X31 : St → Int32 → Prop) (X44 : St → Int32 → Prop) (X78 : St → Int32 → Int32 → Prop) (X89 : St → Int32 → Prop) (X115 : St → Prop) (X117 : St → Int32 → Prop) (X134 : St → Int32 → Int32 → Prop) (X171 : St → Prop) (X173 : St → Int32 → Prop) (X190 : St → Int32 → Int32 → Prop) (X218 : St → Prop) (X235 : St → Int32 → Prop) (S : St)  : Prop :=
  X31 S 0
def st_X11_takeGlyphs_31  (P : St → Prop) (X30 : St → Prop) (X31 : St → Int32 → Prop) (X44 : St → Int32 → Prop) (X78 : St → Int32 → Int32 → Prop) (X89 : St → Int32 → Prop) (X115 : St → Prop) (X117 : St → Int32 → Prop) (X134 : St → Int32 → Int32 → Prop) (X171 : St → Prop) (X173 : St → Int32 → Prop) (X190 : St → Int32 → Int32 → Prop) (X218 : St → Prop) (X235 : St → Int32 → Prop) (S : St) (s0 : Int32) : Prop :=
  wp_X11_check S s0 (fun S40 => (((S40.2.1 9 11) = 0 → X44 S40 0) ∧ (¬ (S40.2.1 9 11) = 0 → P S40)))
def st_X11_takeGlyphs_44  (P : St → Prop) (X30 : St → Prop) (X31 : St → Int32 → Prop) (X44 : St → Int32 → Prop) (X78 : St → Int32 → Int32 → Prop) (X89 : St → Int32 → Prop) (X115 : St → Prop) (X117 : St → Int32 → Prop) (X134 : St → Int32 → Int32 → Prop) (X171 : St → Prop) (X173 : St → Int32 → Prop) (X190 : St → Int32 → Int32 → Prop) (X218 : St → Prop) (X235 : St → Int32 → Prop) (S : St) (v1 : Int32) : Prop :=
  (((S.2.1 9 2) ≤ v1 → X89 S 0) ∧ (¬ (S.2.1 9 2) ≤ v1 → wp_X11_next S (fun r45 S44 => (vp_in v1 (gw_ml 10) ∧ ∀ S46 : St, S46 = stM S44 20 v1.toNatClampNeg r45 → (vp_in v1 (gw_ml 10) ∧ ((4 < (S46.2.1 20 v1.toNatClampNeg) → X78 S46 v1 0) ∧ (¬ 4 < (S46.2.1 20 v1.toNatClampNeg) → X78 S46 v1 1)))))))
def st_X11_takeGlyphs_78  (P : St → Prop) (X30 : St → Prop) (X31 : St → Int32 → Prop) (X44 : St → Int32 → Prop) (X78 : St → Int32 → Int32 → Prop) (X89 : St → Int32 → Prop) (X115 : St → Prop) (X117 : St → Int32 → Prop) (X134 : St → Int32 → Int32 → Prop) (X171 : St → Prop) (X173 : St → Int32 → Prop) (X190 : St → Int32 → Int32 → Prop) (X218 : St → Prop) (X235 : St → Int32 → Prop) (S : St) (v1 : Int32) (s0 : Int32) : Prop :=
  wp_X11_check S s0 (fun S48 => ∀ x50 : Int32, x50 = v1 + 1 → X44 S48 x50)
def st_X11_takeGlyphs_89  (P : St → Prop) (X30 : St → Prop) (X31 : St → Int32 → Prop) (X44 : St → Int32 → Prop) (X78 : St → Int32 → Int32 → Prop) (X89 : St → Int32 → Prop) (X115 : St → Prop) (X117 : St → Int32 → Prop) (X134 : St → Int32 → Int32 → Prop) (X171 : St → Prop) (X173 : St → Int32 → Prop) (X190 : St → Int32 → Int32 → Prop) (X218 : St → Prop) (X235 : St → Int32 → Prop) (S : St) (v1 : Int32) : Prop :=
  (((S.2.1 9 2) ≤ v1 → X115 S) ∧ (¬ (S.2.1 9 2) ≤ v1 → ((¬ (S.2.1 9 11) = 0 → X115 S) ∧ ((S.2.1 9 11) = 0 → wp_X11_takeSizes S v1 (fun S53 => ∀ x55 : Int32, x55 = v1 + 1 → X89 S53 x55)))))
def st_X11_takeGlyphs_115  (P : St → Prop) (X30 : St → Prop) (X31 : St → Int32 → Prop) (X44 : St → Int32 → Prop) (X78 : St → Int32 → Int32 → Prop) (X89 : St → Int32 → Prop) (X115 : St → Prop) (X117 : St → Int32 → Prop) (X134 : St → Int32 → Int32 → Prop) (X171 : St → Prop) (X173 : St → Int32 → Prop) (X190 : St → Int32 → Int32 → Prop) (X218 : St → Prop) (X235 : St → Int32 → Prop) (S : St)  : Prop :=
  X117 S 0
def st_X11_takeGlyphs_117  (P : St → Prop) (X30 : St → Prop) (X31 : St → Int32 → Prop) (X44 : St → Int32 → Prop) (X78 : St → Int32 → Int32 → Prop) (X89 : St → Int32 → Prop) (X115 : St → Prop) (X117 : St → Int32 → Prop) (X134 : St → Int32 → Int32 → Prop) (X171 : St → Prop) (X173 : St → Int32 → Prop) (X190 : St → Int32 → Int32 → Prop) (X218 : St → Prop) (X235 : St → Int32 → Prop) (S : St) (v1 : Int32) : Prop :=
  (((S.2.1 9 2) ≤ v1 → X171 S) ∧ (¬ (S.2.1 9 2) ≤ v1 → ((¬ (S.2.1 9 11) = 0 → X171 S) ∧ ((S.2.1 9 11) = 0 → X134 S v1 0))))
def st_X11_takeGlyphs_134  (P : St → Prop) (X30 : St → Prop) (X31 : St → Int32 → Prop) (X44 : St → Int32 → Prop) (X78 : St → Int32 → Int32 → Prop) (X89 : St → Int32 → Prop) (X115 : St → Prop) (X117 : St → Int32 → Prop) (X134 : St → Int32 → Int32 → Prop) (X171 : St → Prop) (X173 : St → Int32 → Prop) (X190 : St → Int32 → Int32 → Prop) (X218 : St → Prop) (X235 : St → Int32 → Prop) (S : St) (v1 : Int32) (v2 : Int32) : Prop :=
  (vp_in v1 (gw_ml 11) ∧ (((S.2.1 21 v1.toNatClampNeg) ≤ v2 → ∀ x59 : Int32, x59 = v1 + 1 → X117 S x59) ∧ (¬ (S.2.1 21 v1.toNatClampNeg) ≤ v2 → wp_X11_next S (fun r61 S60 => (vp_in ((16 * v1) + v2) (gw_ml 14) ∧ ∀ S62 : St, S62 = stM S60 24 ((16 * v1) + v2).toNatClampNeg r61 → ∀ x63 : Int32, x63 = v2 + 1 → X134 S62 v1 x63)))))
def st_X11_takeGlyphs_171  (P : St → Prop) (X30 : St → Prop) (X31 : St → Int32 → Prop) (X44 : St → Int32 → Prop) (X78 : St → Int32 → Int32 → Prop) (X89 : St → Int32 → Prop) (X115 : St → Prop) (X117 : St → Int32 → Prop) (X134 : St → Int32 → Int32 → Prop) (X171 : St → Prop) (X173 : St → Int32 → Prop) (X190 : St → Int32 → Int32 → Prop) (X218 : St → Prop) (X235 : St → Int32 → Prop) (S : St)  : Prop :=
  X173 S 0
def st_X11_takeGlyphs_173  (P : St → Prop) (X30 : St → Prop) (X31 : St → Int32 → Prop) (X44 : St → Int32 → Prop) (X78 : St → Int32 → Int32 → Prop) (X89 : St → Int32 → Prop) (X115 : St → Prop) (X117 : St → Int32 → Prop) (X134 : St → Int32 → Int32 → Prop) (X171 : St → Prop) (X173 : St → Int32 → Prop) (X190 : St → Int32 → Int32 → Prop) (X218 : St → Prop) (X235 : St → Int32 → Prop) (S : St) (v1 : Int32) : Prop :=
  (((S.2.1 9 2) ≤ v1 → X218 S) ∧ (¬ (S.2.1 9 2) ≤ v1 → ((¬ (S.2.1 9 11) = 0 → X218 S) ∧ ((S.2.1 9 11) = 0 → X190 S v1 0))))
def st_X11_takeGlyphs_190  (P : St → Prop) (X30 : St → Prop) (X31 : St → Int32 → Prop) (X44 : St → Int32 → Prop) (X78 : St → Int32 → Int32 → Prop) (X89 : St → Int32 → Prop) (X115 : St → Prop) (X117 : St → Int32 → Prop) (X134 : St → Int32 → Int32 → Prop) (X171 : St → Prop) (X173 : St → Int32 → Prop) (X190 : St → Int32 → Int32 → Prop) (X218 : St → Prop) (X235 : St → Int32 → Prop) (S : St) (v1 : Int32) (v2 : Int32) : Prop :=
  (vp_in v1 (gw_ml 11) ∧ (((S.2.1 21 v1.toNatClampNeg) ≤ v2 → ∀ x67 : Int32, x67 = v1 + 1 → X173 S x67) ∧ (¬ (S.2.1 21 v1.toNatClampNeg) ≤ v2 → wp_X11_takeStep S v1 v2 (fun S68 => ∀ x70 : Int32, x70 = v2 + 1 → X190 S68 v1 x70))))
def st_X11_takeGlyphs_218  (P : St → Prop) (X30 : St → Prop) (X31 : St → Int32 → Prop) (X44 : St → Int32 → Prop) (X78 : St → Int32 → Int32 → Prop) (X89 : St → Int32 → Prop) (X115 : St → Prop) (X117 : St → Int32 → Prop) (X134 : St → Int32 → Int32 → Prop) (X171 : St → Prop) (X173 : St → Int32 → Prop) (X190 : St → Int32 → Int32 → Prop) (X218 : St → Prop) (X235 : St → Int32 → Prop) (S : St)  : Prop :=
  ((¬ (S.2.1 9 8) = (S.2.1 9 9) → X235 S 0) ∧ ((S.2.1 9 8) = (S.2.1 9 9) → X235 S 1))
def st_X11_takeGlyphs_235  (P : St → Prop) (X30 : St → Prop) (X31 : St → Int32 → Prop) (X44 : St → Int32 → Prop) (X78 : St → Int32 → Int32 → Prop) (X89 : St → Int32 → Prop) (X115 : St → Prop) (X117 : St → Int32 → Prop) (X134 : St → Int32 → Int32 → Prop) (X171 : St → Prop) (X173 : St → Int32 → Prop) (X190 : St → Int32 → Int32 → Prop) (X218 : St → Prop) (X235 : St → Int32 → Prop) (S : St) (s0 : Int32) : Prop :=
  wp_X11_check S s0 (fun S72 => P S72)
def at_X11_takeGlyphs_30 (f : Fx) (g : Gx) (T0 : List (Nat × Nat × Nat))  (P : St → Prop) (S : St)  : Prop := S.2.2.1 = T0 → WW f rm_X11_takeGlyphs g 3 0 0 (Qv f g 0 0 T0 P) S 30 [(0, .ref (gad g 158))] [.ref (gad g 158)]
def at_X11_takeGlyphs_31 (f : Fx) (g : Gx) (T0 : List (Nat × Nat × Nat))  (P : St → Prop) (S : St) (s0 : Int32) : Prop := S.2.2.1 = T0 → WW f rm_X11_takeGlyphs g 3 0 0 (Qv f g 0 0 T0 P) S 31 [(0, .ref (gad g 158))] [.int s0, .ref (gad g 158)]
def at_X11_takeGlyphs_44 (f : Fx) (g : Gx) (T0 : List (Nat × Nat × Nat))  (P : St → Prop) (S : St) (v1 : Int32) : Prop := S.2.2.1 = T0 → WW f rm_X11_takeGlyphs g 3 0 0 (Qv f g 0 0 T0 P) S 44 [(0, .ref (gad g 158)), (1, .int v1)] []
def at_X11_takeGlyphs_78 (f : Fx) (g : Gx) (T0 : List (Nat × Nat × Nat))  (P : St → Prop) (S : St) (v1 : Int32) (s0 : Int32) : Prop := S.2.2.1 = T0 → WW f rm_X11_takeGlyphs g 3 0 0 (Qv f g 0 0 T0 P) S 78 [(0, .ref (gad g 158)), (1, .int v1)] [.int s0, .ref (gad g 158)]
def at_X11_takeGlyphs_89 (f : Fx) (g : Gx) (T0 : List (Nat × Nat × Nat))  (P : St → Prop) (S : St) (v1 : Int32) : Prop := S.2.2.1 = T0 → WW f rm_X11_takeGlyphs g 3 0 0 (Qv f g 0 0 T0 P) S 89 [(0, .ref (gad g 158)), (1, .int v1)] []
def at_X11_takeGlyphs_115 (f : Fx) (g : Gx) (T0 : List (Nat × Nat × Nat))  (P : St → Prop) (S : St)  : Prop := S.2.2.1 = T0 → WW f rm_X11_takeGlyphs g 3 0 0 (Qv f g 0 0 T0 P) S 115 [(0, .ref (gad g 158))] []
def at_X11_takeGlyphs_117 (f : Fx) (g : Gx) (T0 : List (Nat × Nat × Nat))  (P : St → Prop) (S : St) (v1 : Int32) : Prop := S.2.2.1 = T0 → WW f rm_X11_takeGlyphs g 3 0 0 (Qv f g 0 0 T0 P) S 117 [(0, .ref (gad g 158)), (1, .int v1)] []
def at_X11_takeGlyphs_134 (f : Fx) (g : Gx) (T0 : List (Nat × Nat × Nat))  (P : St → Prop) (S : St) (v1 : Int32) (v2 : Int32) : Prop := S.2.2.1 = T0 → WW f rm_X11_takeGlyphs g 3 0 0 (Qv f g 0 0 T0 P) S 134 [(0, .ref (gad g 158)), (1, .int v1), (2, .int v2)] []
def at_X11_takeGlyphs_171 (f : Fx) (g : Gx) (T0 : List (Nat × Nat × Nat))  (P : St → Prop) (S : St)  : Prop := S.2.2.1 = T0 → WW f rm_X11_takeGlyphs g 3 0 0 (Qv f g 0 0 T0 P) S 171 [(0, .ref (gad g 158))] []
def at_X11_takeGlyphs_173 (f : Fx) (g : Gx) (T0 : List (Nat × Nat × Nat))  (P : St → Prop) (S : St) (v1 : Int32) : Prop := S.2.2.1 = T0 → WW f rm_X11_takeGlyphs g 3 0 0 (Qv f g 0 0 T0 P) S 173 [(0, .ref (gad g 158)), (1, .int v1)] []
def at_X11_takeGlyphs_190 (f : Fx) (g : Gx) (T0 : List (Nat × Nat × Nat))  (P : St → Prop) (S : St) (v1 : Int32) (v2 : Int32) : Prop := S.2.2.1 = T0 → WW f rm_X11_takeGlyphs g 3 0 0 (Qv f g 0 0 T0 P) S 190 [(0, .ref (gad g 158)), (1, .int v1), (2, .int v2)] []
def at_X11_takeGlyphs_218 (f : Fx) (g : Gx) (T0 : List (Nat × Nat × Nat))  (P : St → Prop) (S : St)  : Prop := S.2.2.1 = T0 → WW f rm_X11_takeGlyphs g 3 0 0 (Qv f g 0 0 T0 P) S 218 [(0, .ref (gad g 158))] []
def at_X11_takeGlyphs_235 (f : Fx) (g : Gx) (T0 : List (Nat × Nat × Nat))  (P : St → Prop) (S : St) (s0 : Int32) : Prop := S.2.2.1 = T0 → WW f rm_X11_takeGlyphs g 3 0 0 (Qv f g 0 0 T0 P) S 235 [] [.int s0, .ref (gad g 158)]
set_option maxHeartbeats 4000000 in
set_option maxRecDepth 100000 in
theorem run_X11_takeGlyphs_30 {f : Fx} {g : Gx} {T0 : List (Nat × Nat × Nat)} {S : St}  {P : St → Prop} (C : Cx f g cX11_takeGlyphs 3 RX11) (hrt : (fmeth f).sig.returnType = none)   (h : st_X11_takeGlyphs_30  P (at_X11_takeGlyphs_30 f g T0  P) (at_X11_takeGlyphs_31 f g T0  P) (at_X11_takeGlyphs_44 f g T0  P) (at_X11_takeGlyphs_78 f g T0  P) (at_X11_takeGlyphs_89 f g T0  P) (at_X11_takeGlyphs_115 f g T0  P) (at_X11_takeGlyphs_117 f g T0  P) (at_X11_takeGlyphs_134 f g T0  P) (at_X11_takeGlyphs_171 f g T0  P) (at_X11_takeGlyphs_173 f g T0  P) (at_X11_takeGlyphs_190 f g T0  P) (at_X11_takeGlyphs_218 f g T0  P) (at_X11_takeGlyphs_235 f g T0  P) S ) : at_X11_takeGlyphs_30 f g T0  P S  := by
  intro hT 
  unfold st_X11_takeGlyphs_30 at h
  refine ww_iconst (v := 0) C dX11_takeGlyphs_30 (by decide) ?_
  exact ww_sub [0] rfl (h hT)
set_option maxHeartbeats 4000000 in
set_option maxRecDepth 100000 in
theorem run_X11_takeGlyphs_31 {f : Fx} {g : Gx} {T0 : List (Nat × Nat × Nat)} {S : St}  {P : St → Prop} (C : Cx f g cX11_takeGlyphs 3 RX11) (hrt : (fmeth f).sig.returnType = none)  {s0 : Int32} (h : st_X11_takeGlyphs_31  P (at_X11_takeGlyphs_30 f g T0  P) (at_X11_takeGlyphs_31 f g T0  P) (at_X11_takeGlyphs_44 f g T0  P) (at_X11_takeGlyphs_78 f g T0  P) (at_X11_takeGlyphs_89 f g T0  P) (at_X11_takeGlyphs_115 f g T0  P) (at_X11_takeGlyphs_117 f g T0  P) (at_X11_takeGlyphs_134 f g T0  P) (at_X11_takeGlyphs_171 f g T0  P) (at_X11_takeGlyphs_173 f g T0  P) (at_X11_takeGlyphs_190 f g T0  P) (at_X11_takeGlyphs_218 f g T0  P) (at_X11_takeGlyphs_235 f g T0  P) S s0) : at_X11_takeGlyphs_31 f g T0  P S s0 := by
  intro hT 
  unfold st_X11_takeGlyphs_31 at h
  refine ww_cVv (As := [.int s0]) (rest := []) C ok_X11_check bw_1199 dX11_takeGlyphs_31 (run_X11_check  (fun _ => h)) rc_Model rfl ⟨Nat.le_of_ble_eq_true rfl, Nat.le_of_ble_eq_true rfl⟩ (Nat.le_of_ble_eq_true rfl) (c2 := 0) (s2 := 0) rfl rfl ⟨Nat.le_of_ble_eq_true rfl, Nat.le_of_ble_eq_true rfl⟩ rfl (fun S40 hp hTg => ?_)
  replace h := hp
  have hT_S40 : S40.2.2.1 = T0 := by rw [hTg]; exact hT
  refine ww_aload_n C dX11_takeGlyphs_34 0 rfl ?_
  refine gf_Model_bad C bw_956 dX11_takeGlyphs_35 ?_
  refine ww_if_eq (tgt := 42) C dX11_takeGlyphs_38 (by decide) (fun q42 => ?_) (fun q42 => ?_)
  · replace h := h.1 q42
    refine ww_iconst (v := 0) C dX11_takeGlyphs_42 (by decide) ?_
    refine ww_istore_n (lv2 := [(1, .int 0), (0, .ref (gad g 158))]) C dX11_takeGlyphs_43 rfl (Nat.le_of_ble_eq_true rfl) rfl ?_
    exact ww_sub [1, 0] rfl (h hT_S40)
  · replace h := h.2 q42
    exact ww_vret C hrt dX11_takeGlyphs_41 hT_S40 h
set_option maxHeartbeats 4000000 in
set_option maxRecDepth 100000 in
theorem run_X11_takeGlyphs_44 {f : Fx} {g : Gx} {T0 : List (Nat × Nat × Nat)} {S : St}  {P : St → Prop} (C : Cx f g cX11_takeGlyphs 3 RX11) (hrt : (fmeth f).sig.returnType = none)  {v1 : Int32} (h : st_X11_takeGlyphs_44  P (at_X11_takeGlyphs_30 f g T0  P) (at_X11_takeGlyphs_31 f g T0  P) (at_X11_takeGlyphs_44 f g T0  P) (at_X11_takeGlyphs_78 f g T0  P) (at_X11_takeGlyphs_89 f g T0  P) (at_X11_takeGlyphs_115 f g T0  P) (at_X11_takeGlyphs_117 f g T0  P) (at_X11_takeGlyphs_134 f g T0  P) (at_X11_takeGlyphs_171 f g T0  P) (at_X11_takeGlyphs_173 f g T0  P) (at_X11_takeGlyphs_190 f g T0  P) (at_X11_takeGlyphs_218 f g T0  P) (at_X11_takeGlyphs_235 f g T0  P) S v1) : at_X11_takeGlyphs_44 f g T0  P S v1 := by
  intro hT 
  unfold st_X11_takeGlyphs_44 at h
  refine ww_iload_n C dX11_takeGlyphs_44 1 rfl ?_
  refine ww_aload_n C dX11_takeGlyphs_45 0 rfl ?_
  refine gf_Model_newGlyphs C bw_934 dX11_takeGlyphs_46 ?_
  refine ww_icmp_ge (tgt := 87) C dX11_takeGlyphs_49 (by decide) (fun q43 => ?_) (fun q43 => ?_)
  · replace h := h.1 q43
    refine ww_iconst (v := 0) C dX11_takeGlyphs_87 (by decide) ?_
    refine ww_istore_n (lv2 := [(1, .int 0), (0, .ref (gad g 158))]) C dX11_takeGlyphs_88 rfl (Nat.le_of_ble_eq_true rfl) rfl ?_
    exact ww_sub [1, 0] rfl (h hT)
  · replace h := h.2 q43
    refine ww_aload_n C dX11_takeGlyphs_52 0 rfl ?_
    refine gf_Model_newContours C bw_936 dX11_takeGlyphs_53 ?_
    refine ww_iload_n C dX11_takeGlyphs_56 1 rfl ?_
    refine ww_aload_n C dX11_takeGlyphs_57 0 rfl ?_
    refine ww_cVi (As := []) (rest := [.int v1, .ref (gad g 169)]) C ok_X11_next bw_1195 dX11_takeGlyphs_58 (run_X11_next  (fun _ => h)) rc_Model rfl ⟨Nat.le_of_ble_eq_true rfl, Nat.le_of_ble_eq_true rfl⟩ (Nat.le_of_ble_eq_true rfl) (c2 := 0) (s2 := 0) rfl rfl ⟨Nat.le_of_ble_eq_true rfl, Nat.le_of_ble_eq_true rfl⟩ rfl (fun r45 S44 hp hTg => ?_)
    replace h := hp
    have hT_S44 : S44.2.2.1 = T0 := by rw [hTg]; exact hT
    refine is_m (a := 10) C (by decide) (by decide) h.1 dX11_takeGlyphs_61 ?_
    replace h := h.2
    refine ww_nm (fun S46 e_S46 => ?_)
    replace h := h S46 e_S46
    have hT_S46 : S46.2.2.1 = T0 := by rw [e_S46]; exact hT_S44
    refine ww_aload_n C dX11_takeGlyphs_62 0 rfl ?_
    refine ww_aload_n C dX11_takeGlyphs_63 0 rfl ?_
    refine gf_Model_newContours C bw_936 dX11_takeGlyphs_64 ?_
    refine ww_iload_n C dX11_takeGlyphs_67 1 rfl ?_
    refine ia_m (a := 10) C (by decide) (by decide) h.1 dX11_takeGlyphs_68 ?_
    replace h := h.2
    refine ww_iconst (v := 4) C dX11_takeGlyphs_69 (by decide) ?_
    refine ww_icmp_gt (tgt := 77) C dX11_takeGlyphs_70 (by decide) (fun q47 => ?_) (fun q47 => ?_)
    · replace h := h.1 q47
      refine ww_iconst (v := 0) C dX11_takeGlyphs_77 (by decide) ?_
      exact ww_sub [0, 1] rfl (h hT_S46)
    · replace h := h.2 q47
      refine ww_iconst (v := 1) C dX11_takeGlyphs_73 (by decide) ?_
      refine ww_goto (tgt := 78) C dX11_takeGlyphs_74 (by decide) ?_
      exact ww_sub [0, 1] rfl (h hT_S46)
set_option maxHeartbeats 4000000 in
set_option maxRecDepth 100000 in
theorem run_X11_takeGlyphs_78 {f : Fx} {g : Gx} {T0 : List (Nat × Nat × Nat)} {S : St}  {P : St → Prop} (C : Cx f g cX11_takeGlyphs 3 RX11) (hrt : (fmeth f).sig.returnType = none)  {v1 : Int32} {s0 : Int32} (h : st_X11_takeGlyphs_78  P (at_X11_takeGlyphs_30 f g T0  P) (at_X11_takeGlyphs_31 f g T0  P) (at_X11_takeGlyphs_44 f g T0  P) (at_X11_takeGlyphs_78 f g T0  P) (at_X11_takeGlyphs_89 f g T0  P) (at_X11_takeGlyphs_115 f g T0  P) (at_X11_takeGlyphs_117 f g T0  P) (at_X11_takeGlyphs_134 f g T0  P) (at_X11_takeGlyphs_171 f g T0  P) (at_X11_takeGlyphs_173 f g T0  P) (at_X11_takeGlyphs_190 f g T0  P) (at_X11_takeGlyphs_218 f g T0  P) (at_X11_takeGlyphs_235 f g T0  P) S v1 s0) : at_X11_takeGlyphs_78 f g T0  P S v1 s0 := by
  intro hT 
  unfold st_X11_takeGlyphs_78 at h
  refine ww_cVv (As := [.int s0]) (rest := []) C ok_X11_check bw_1199 dX11_takeGlyphs_78 (run_X11_check  (fun _ => h)) rc_Model rfl ⟨Nat.le_of_ble_eq_true rfl, Nat.le_of_ble_eq_true rfl⟩ (Nat.le_of_ble_eq_true rfl) (c2 := 0) (s2 := 0) rfl rfl ⟨Nat.le_of_ble_eq_true rfl, Nat.le_of_ble_eq_true rfl⟩ rfl (fun S48 hp hTg => ?_)
  replace h := hp
  have hT_S48 : S48.2.2.1 = T0 := by rw [hTg]; exact hT
  obtain ⟨x50, e_x50⟩ : ∃ z : Int32, z = v1 + 1 := ⟨_, rfl⟩
  replace h := h x50 e_x50
  refine ww_iinc (v := x50) (lv2 := [(1, .int x50), (0, .ref (gad g 158))]) C dX11_takeGlyphs_81 1 rfl (by rw [e_x50]; rfl) (Nat.le_of_ble_eq_true rfl) rfl ?_
  refine ww_goto (tgt := 44) C dX11_takeGlyphs_84 (by decide) ?_
  exact ww_sub [1, 0] rfl (h hT_S48)
set_option maxHeartbeats 4000000 in
set_option maxRecDepth 100000 in
theorem run_X11_takeGlyphs_89 {f : Fx} {g : Gx} {T0 : List (Nat × Nat × Nat)} {S : St}  {P : St → Prop} (C : Cx f g cX11_takeGlyphs 3 RX11) (hrt : (fmeth f).sig.returnType = none)  {v1 : Int32} (h : st_X11_takeGlyphs_89  P (at_X11_takeGlyphs_30 f g T0  P) (at_X11_takeGlyphs_31 f g T0  P) (at_X11_takeGlyphs_44 f g T0  P) (at_X11_takeGlyphs_78 f g T0  P) (at_X11_takeGlyphs_89 f g T0  P) (at_X11_takeGlyphs_115 f g T0  P) (at_X11_takeGlyphs_117 f g T0  P) (at_X11_takeGlyphs_134 f g T0  P) (at_X11_takeGlyphs_171 f g T0  P) (at_X11_takeGlyphs_173 f g T0  P) (at_X11_takeGlyphs_190 f g T0  P) (at_X11_takeGlyphs_218 f g T0  P) (at_X11_takeGlyphs_235 f g T0  P) S v1) : at_X11_takeGlyphs_89 f g T0  P S v1 := by
  intro hT 
  unfold st_X11_takeGlyphs_89 at h
  refine ww_iload_n C dX11_takeGlyphs_89 1 rfl ?_
  refine ww_aload_n C dX11_takeGlyphs_90 0 rfl ?_
  refine gf_Model_newGlyphs C bw_934 dX11_takeGlyphs_91 ?_
  refine ww_icmp_ge (tgt := 115) C dX11_takeGlyphs_94 (by decide) (fun q51 => ?_) (fun q51 => ?_)
  · replace h := h.1 q51
    exact ww_sub [0] rfl (h hT)
  · replace h := h.2 q51
    refine ww_aload_n C dX11_takeGlyphs_97 0 rfl ?_
    refine gf_Model_bad C bw_956 dX11_takeGlyphs_98 ?_
    refine ww_if_ne (tgt := 115) C dX11_takeGlyphs_101 (by decide) (fun q52 => ?_) (fun q52 => ?_)
    · replace h := h.1 q52
      exact ww_sub [0] rfl (h hT)
    · replace h := h.2 q52
      refine ww_aload_n C dX11_takeGlyphs_104 0 rfl ?_
      refine ww_iload_n C dX11_takeGlyphs_105 1 rfl ?_
      refine ww_cVv (As := [.int v1]) (rest := []) C ok_X11_takeSizes bw_1231 dX11_takeGlyphs_106 (run_X11_takeSizes  (fun _ => h)) rc_Model rfl ⟨Nat.le_of_ble_eq_true rfl, Nat.le_of_ble_eq_true rfl⟩ (Nat.le_of_ble_eq_true rfl) (c2 := 0) (s2 := 0) rfl rfl ⟨Nat.le_of_ble_eq_true rfl, Nat.le_of_ble_eq_true rfl⟩ rfl (fun S53 hp hTg => ?_)
      replace h := hp
      have hT_S53 : S53.2.2.1 = T0 := by rw [hTg]; exact hT
      obtain ⟨x55, e_x55⟩ : ∃ z : Int32, z = v1 + 1 := ⟨_, rfl⟩
      replace h := h x55 e_x55
      refine ww_iinc (v := x55) (lv2 := [(1, .int x55), (0, .ref (gad g 158))]) C dX11_takeGlyphs_109 1 rfl (by rw [e_x55]; rfl) (Nat.le_of_ble_eq_true rfl) rfl ?_
      refine ww_goto (tgt := 89) C dX11_takeGlyphs_112 (by decide) ?_
      exact ww_sub [1, 0] rfl (h hT_S53)
set_option maxHeartbeats 4000000 in
set_option maxRecDepth 100000 in
theorem run_X11_takeGlyphs_115 {f : Fx} {g : Gx} {T0 : List (Nat × Nat × Nat)} {S : St}  {P : St → Prop} (C : Cx f g cX11_takeGlyphs 3 RX11) (hrt : (fmeth f).sig.returnType = none)   (h : st_X11_takeGlyphs_115  P (at_X11_takeGlyphs_30 f g T0  P) (at_X11_takeGlyphs_31 f g T0  P) (at_X11_takeGlyphs_44 f g T0  P) (at_X11_takeGlyphs_78 f g T0  P) (at_X11_takeGlyphs_89 f g T0  P) (at_X11_takeGlyphs_115 f g T0  P) (at_X11_takeGlyphs_117 f g T0  P) (at_X11_takeGlyphs_134 f g T0  P) (at_X11_takeGlyphs_171 f g T0  P) (at_X11_takeGlyphs_173 f g T0  P) (at_X11_takeGlyphs_190 f g T0  P) (at_X11_takeGlyphs_218 f g T0  P) (at_X11_takeGlyphs_235 f g T0  P) S ) : at_X11_takeGlyphs_115 f g T0  P S  := by
  intro hT 
  unfold st_X11_takeGlyphs_115 at h
  refine ww_iconst (v := 0) C dX11_takeGlyphs_115 (by decide) ?_
  refine ww_istore_n (lv2 := [(1, .int 0), (0, .ref (gad g 158))]) C dX11_takeGlyphs_116 rfl (Nat.le_of_ble_eq_true rfl) rfl ?_
  exact ww_sub [1, 0] rfl (h hT)
set_option maxHeartbeats 4000000 in
set_option maxRecDepth 100000 in
theorem run_X11_takeGlyphs_117 {f : Fx} {g : Gx} {T0 : List (Nat × Nat × Nat)} {S : St}  {P : St → Prop} (C : Cx f g cX11_takeGlyphs 3 RX11) (hrt : (fmeth f).sig.returnType = none)  {v1 : Int32} (h : st_X11_takeGlyphs_117  P (at_X11_takeGlyphs_30 f g T0  P) (at_X11_takeGlyphs_31 f g T0  P) (at_X11_takeGlyphs_44 f g T0  P) (at_X11_takeGlyphs_78 f g T0  P) (at_X11_takeGlyphs_89 f g T0  P) (at_X11_takeGlyphs_115 f g T0  P) (at_X11_takeGlyphs_117 f g T0  P) (at_X11_takeGlyphs_134 f g T0  P) (at_X11_takeGlyphs_171 f g T0  P) (at_X11_takeGlyphs_173 f g T0  P) (at_X11_takeGlyphs_190 f g T0  P) (at_X11_takeGlyphs_218 f g T0  P) (at_X11_takeGlyphs_235 f g T0  P) S v1) : at_X11_takeGlyphs_117 f g T0  P S v1 := by
  intro hT 
  unfold st_X11_takeGlyphs_117 at h
  refine ww_iload_n C dX11_takeGlyphs_117 1 rfl ?_
  refine ww_aload_n C dX11_takeGlyphs_118 0 rfl ?_
  refine gf_Model_newGlyphs C bw_934 dX11_takeGlyphs_119 ?_
  refine ww_icmp_ge (tgt := 171) C dX11_takeGlyphs_122 (by decide) (fun q56 => ?_) (fun q56 => ?_)
  · replace h := h.1 q56
    exact ww_sub [0] rfl (h hT)
  · replace h := h.2 q56
    refine ww_aload_n C dX11_takeGlyphs_125 0 rfl ?_
    refine gf_Model_bad C bw_956 dX11_takeGlyphs_126 ?_
    refine ww_if_ne (tgt := 171) C dX11_takeGlyphs_129 (by decide) (fun q57 => ?_) (fun q57 => ?_)
    · replace h := h.1 q57
      exact ww_sub [0] rfl (h hT)
    · replace h := h.2 q57
      refine ww_iconst (v := 0) C dX11_takeGlyphs_132 (by decide) ?_
      refine ww_istore_n (lv2 := [(2, .int 0), (0, .ref (gad g 158)), (1, .int v1)]) C dX11_takeGlyphs_133 rfl (Nat.le_of_ble_eq_true rfl) rfl ?_
      exact ww_sub [1, 2, 0] rfl (h hT)
set_option maxHeartbeats 4000000 in
set_option maxRecDepth 100000 in
theorem run_X11_takeGlyphs_134 {f : Fx} {g : Gx} {T0 : List (Nat × Nat × Nat)} {S : St}  {P : St → Prop} (C : Cx f g cX11_takeGlyphs 3 RX11) (hrt : (fmeth f).sig.returnType = none)  {v1 : Int32} {v2 : Int32} (h : st_X11_takeGlyphs_134  P (at_X11_takeGlyphs_30 f g T0  P) (at_X11_takeGlyphs_31 f g T0  P) (at_X11_takeGlyphs_44 f g T0  P) (at_X11_takeGlyphs_78 f g T0  P) (at_X11_takeGlyphs_89 f g T0  P) (at_X11_takeGlyphs_115 f g T0  P) (at_X11_takeGlyphs_117 f g T0  P) (at_X11_takeGlyphs_134 f g T0  P) (at_X11_takeGlyphs_171 f g T0  P) (at_X11_takeGlyphs_173 f g T0  P) (at_X11_takeGlyphs_190 f g T0  P) (at_X11_takeGlyphs_218 f g T0  P) (at_X11_takeGlyphs_235 f g T0  P) S v1 v2) : at_X11_takeGlyphs_134 f g T0  P S v1 v2 := by
  intro hT 
  unfold st_X11_takeGlyphs_134 at h
  refine ww_iload_n C dX11_takeGlyphs_134 2 rfl ?_
  refine ww_aload_n C dX11_takeGlyphs_135 0 rfl ?_
  refine gf_Model_newPoints C bw_937 dX11_takeGlyphs_136 ?_
  refine ww_iload_n C dX11_takeGlyphs_139 1 rfl ?_
  refine ia_m (a := 11) C (by decide) (by decide) h.1 dX11_takeGlyphs_140 ?_
  replace h := h.2
  refine ww_icmp_ge (tgt := 165) C dX11_takeGlyphs_141 (by decide) (fun q58 => ?_) (fun q58 => ?_)
  · replace h := h.1 q58
    obtain ⟨x59, e_x59⟩ : ∃ z : Int32, z = v1 + 1 := ⟨_, rfl⟩
    replace h := h x59 e_x59
    refine ww_iinc (v := x59) (lv2 := [(1, .int x59), (0, .ref (gad g 158)), (2, .int v2)]) C dX11_takeGlyphs_165 1 rfl (by rw [e_x59]; rfl) (Nat.le_of_ble_eq_true rfl) rfl ?_
    refine ww_goto (tgt := 117) C dX11_takeGlyphs_168 (by decide) ?_
    exact ww_sub [1, 0] rfl (h hT)
  · replace h := h.2 q58
    refine ww_aload_n C dX11_takeGlyphs_144 0 rfl ?_
    refine gf_Model_sign C bw_940 dX11_takeGlyphs_145 ?_
    refine ww_bipush (v := 16) C dX11_takeGlyphs_148 (by decide) ?_
    refine ww_iload_n C dX11_takeGlyphs_150 1 rfl ?_
    refine ww_imul C dX11_takeGlyphs_151 ?_
    refine ww_iload_n C dX11_takeGlyphs_152 2 rfl ?_
    refine ww_iadd C dX11_takeGlyphs_153 ?_
    refine ww_aload_n C dX11_takeGlyphs_154 0 rfl ?_
    refine ww_cVi (As := []) (rest := [.int ((16 * v1) + v2), .ref (gad g 173)]) C ok_X11_next bw_1195 dX11_takeGlyphs_155 (run_X11_next  (fun _ => h)) rc_Model rfl ⟨Nat.le_of_ble_eq_true rfl, Nat.le_of_ble_eq_true rfl⟩ (Nat.le_of_ble_eq_true rfl) (c2 := 0) (s2 := 0) rfl rfl ⟨Nat.le_of_ble_eq_true rfl, Nat.le_of_ble_eq_true rfl⟩ rfl (fun r61 S60 hp hTg => ?_)
    replace h := hp
    have hT_S60 : S60.2.2.1 = T0 := by rw [hTg]; exact hT
    refine is_m (a := 14) C (by decide) (by decide) h.1 dX11_takeGlyphs_158 ?_
    replace h := h.2
    refine ww_nm (fun S62 e_S62 => ?_)
    replace h := h S62 e_S62
    have hT_S62 : S62.2.2.1 = T0 := by rw [e_S62]; exact hT_S60
    obtain ⟨x63, e_x63⟩ : ∃ z : Int32, z = v2 + 1 := ⟨_, rfl⟩
    replace h := h x63 e_x63
    refine ww_iinc (v := x63) (lv2 := [(2, .int x63), (0, .ref (gad g 158)), (1, .int v1)]) C dX11_takeGlyphs_159 2 rfl (by rw [e_x63]; rfl) (Nat.le_of_ble_eq_true rfl) rfl ?_
    refine ww_goto (tgt := 134) C dX11_takeGlyphs_162 (by decide) ?_
    exact ww_sub [1, 2, 0] rfl (h hT_S62)
set_option maxHeartbeats 4000000 in
set_option maxRecDepth 100000 in
theorem run_X11_takeGlyphs_171 {f : Fx} {g : Gx} {T0 : List (Nat × Nat × Nat)} {S : St}  {P : St → Prop} (C : Cx f g cX11_takeGlyphs 3 RX11) (hrt : (fmeth f).sig.returnType = none)   (h : st_X11_takeGlyphs_171  P (at_X11_takeGlyphs_30 f g T0  P) (at_X11_takeGlyphs_31 f g T0  P) (at_X11_takeGlyphs_44 f g T0  P) (at_X11_takeGlyphs_78 f g T0  P) (at_X11_takeGlyphs_89 f g T0  P) (at_X11_takeGlyphs_115 f g T0  P) (at_X11_takeGlyphs_117 f g T0  P) (at_X11_takeGlyphs_134 f g T0  P) (at_X11_takeGlyphs_171 f g T0  P) (at_X11_takeGlyphs_173 f g T0  P) (at_X11_takeGlyphs_190 f g T0  P) (at_X11_takeGlyphs_218 f g T0  P) (at_X11_takeGlyphs_235 f g T0  P) S ) : at_X11_takeGlyphs_171 f g T0  P S  := by
  intro hT 
  unfold st_X11_takeGlyphs_171 at h
  refine ww_iconst (v := 0) C dX11_takeGlyphs_171 (by decide) ?_
  refine ww_istore_n (lv2 := [(1, .int 0), (0, .ref (gad g 158))]) C dX11_takeGlyphs_172 rfl (Nat.le_of_ble_eq_true rfl) rfl ?_
  exact ww_sub [1, 0] rfl (h hT)
set_option maxHeartbeats 4000000 in
set_option maxRecDepth 100000 in
theorem run_X11_takeGlyphs_173 {f : Fx} {g : Gx} {T0 : List (Nat × Nat × Nat)} {S : St}  {P : St → Prop} (C : Cx f g cX11_takeGlyphs 3 RX11) (hrt : (fmeth f).sig.returnType = none)  {v1 : Int32} (h : st_X11_takeGlyphs_173  P (at_X11_takeGlyphs_30 f g T0  P) (at_X11_takeGlyphs_31 f g T0  P) (at_X11_takeGlyphs_44 f g T0  P) (at_X11_takeGlyphs_78 f g T0  P) (at_X11_takeGlyphs_89 f g T0  P) (at_X11_takeGlyphs_115 f g T0  P) (at_X11_takeGlyphs_117 f g T0  P) (at_X11_takeGlyphs_134 f g T0  P) (at_X11_takeGlyphs_171 f g T0  P) (at_X11_takeGlyphs_173 f g T0  P) (at_X11_takeGlyphs_190 f g T0  P) (at_X11_takeGlyphs_218 f g T0  P) (at_X11_takeGlyphs_235 f g T0  P) S v1) : at_X11_takeGlyphs_173 f g T0  P S v1 := by
  intro hT 
  unfold st_X11_takeGlyphs_173 at h
  refine ww_iload_n C dX11_takeGlyphs_173 1 rfl ?_
  refine ww_aload_n C dX11_takeGlyphs_174 0 rfl ?_
  refine gf_Model_newGlyphs C bw_934 dX11_takeGlyphs_175 ?_
  refine ww_icmp_ge (tgt := 218) C dX11_takeGlyphs_178 (by decide) (fun q64 => ?_) (fun q64 => ?_)
  · replace h := h.1 q64
    exact ww_sub [0] rfl (h hT)
  · replace h := h.2 q64
    refine ww_aload_n C dX11_takeGlyphs_181 0 rfl ?_
    refine gf_Model_bad C bw_956 dX11_takeGlyphs_182 ?_
    refine ww_if_ne (tgt := 218) C dX11_takeGlyphs_185 (by decide) (fun q65 => ?_) (fun q65 => ?_)
    · replace h := h.1 q65
      exact ww_sub [0] rfl (h hT)
    · replace h := h.2 q65
      refine ww_iconst (v := 0) C dX11_takeGlyphs_188 (by decide) ?_
      refine ww_istore_n (lv2 := [(2, .int 0), (0, .ref (gad g 158)), (1, .int v1)]) C dX11_takeGlyphs_189 rfl (Nat.le_of_ble_eq_true rfl) rfl ?_
      exact ww_sub [1, 2, 0] rfl (h hT)
set_option maxHeartbeats 4000000 in
set_option maxRecDepth 100000 in
theorem run_X11_takeGlyphs_190 {f : Fx} {g : Gx} {T0 : List (Nat × Nat × Nat)} {S : St}  {P : St → Prop} (C : Cx f g cX11_takeGlyphs 3 RX11) (hrt : (fmeth f).sig.returnType = none)  {v1 : Int32} {v2 : Int32} (h : st_X11_takeGlyphs_190  P (at_X11_takeGlyphs_30 f g T0  P) (at_X11_takeGlyphs_31 f g T0  P) (at_X11_takeGlyphs_44 f g T0  P) (at_X11_takeGlyphs_78 f g T0  P) (at_X11_takeGlyphs_89 f g T0  P) (at_X11_takeGlyphs_115 f g T0  P) (at_X11_takeGlyphs_117 f g T0  P) (at_X11_takeGlyphs_134 f g T0  P) (at_X11_takeGlyphs_171 f g T0  P) (at_X11_takeGlyphs_173 f g T0  P) (at_X11_takeGlyphs_190 f g T0  P) (at_X11_takeGlyphs_218 f g T0  P) (at_X11_takeGlyphs_235 f g T0  P) S v1 v2) : at_X11_takeGlyphs_190 f g T0  P S v1 v2 := by
  intro hT 
  unfold st_X11_takeGlyphs_190 at h
  refine ww_iload_n C dX11_takeGlyphs_190 2 rfl ?_
  refine ww_aload_n C dX11_takeGlyphs_191 0 rfl ?_
  refine gf_Model_newPoints C bw_937 dX11_takeGlyphs_192 ?_
  refine ww_iload_n C dX11_takeGlyphs_195 1 rfl ?_
  refine ia_m (a := 11) C (by decide) (by decide) h.1 dX11_takeGlyphs_196 ?_
  replace h := h.2
  refine ww_icmp_ge (tgt := 212) C dX11_takeGlyphs_197 (by decide) (fun q66 => ?_) (fun q66 => ?_)
  · replace h := h.1 q66
    obtain ⟨x67, e_x67⟩ : ∃ z : Int32, z = v1 + 1 := ⟨_, rfl⟩
    replace h := h x67 e_x67
    refine ww_iinc (v := x67) (lv2 := [(1, .int x67), (0, .ref (gad g 158)), (2, .int v2)]) C dX11_takeGlyphs_212 1 rfl (by rw [e_x67]; rfl) (Nat.le_of_ble_eq_true rfl) rfl ?_
    refine ww_goto (tgt := 173) C dX11_takeGlyphs_215 (by decide) ?_
    exact ww_sub [1, 0] rfl (h hT)
  · replace h := h.2 q66
    refine ww_aload_n C dX11_takeGlyphs_200 0 rfl ?_
    refine ww_iload_n C dX11_takeGlyphs_201 1 rfl ?_
    refine ww_iload_n C dX11_takeGlyphs_202 2 rfl ?_
    refine ww_cVv (As := [.int v1, .int v2]) (rest := []) C ok_X11_takeStep bw_1239 dX11_takeGlyphs_203 (run_X11_takeStep  (fun _ => h)) rc_Model rfl ⟨Nat.le_of_ble_eq_true rfl, Nat.le_of_ble_eq_true rfl⟩ (Nat.le_of_ble_eq_true rfl) (c2 := 0) (s2 := 0) rfl rfl ⟨Nat.le_of_ble_eq_true rfl, Nat.le_of_ble_eq_true rfl⟩ rfl (fun S68 hp hTg => ?_)
    replace h := hp
    have hT_S68 : S68.2.2.1 = T0 := by rw [hTg]; exact hT
    obtain ⟨x70, e_x70⟩ : ∃ z : Int32, z = v2 + 1 := ⟨_, rfl⟩
    replace h := h x70 e_x70
    refine ww_iinc (v := x70) (lv2 := [(2, .int x70), (0, .ref (gad g 158)), (1, .int v1)]) C dX11_takeGlyphs_206 2 rfl (by rw [e_x70]; rfl) (Nat.le_of_ble_eq_true rfl) rfl ?_
    refine ww_goto (tgt := 190) C dX11_takeGlyphs_209 (by decide) ?_
    exact ww_sub [1, 2, 0] rfl (h hT_S68)
set_option maxHeartbeats 4000000 in
set_option maxRecDepth 100000 in
theorem run_X11_takeGlyphs_218 {f : Fx} {g : Gx} {T0 : List (Nat × Nat × Nat)} {S : St}  {P : St → Prop} (C : Cx f g cX11_takeGlyphs 3 RX11) (hrt : (fmeth f).sig.returnType = none)   (h : st_X11_takeGlyphs_218  P (at_X11_takeGlyphs_30 f g T0  P) (at_X11_takeGlyphs_31 f g T0  P) (at_X11_takeGlyphs_44 f g T0  P) (at_X11_takeGlyphs_78 f g T0  P) (at_X11_takeGlyphs_89 f g T0  P) (at_X11_takeGlyphs_115 f g T0  P) (at_X11_takeGlyphs_117 f g T0  P) (at_X11_takeGlyphs_134 f g T0  P) (at_X11_takeGlyphs_171 f g T0  P) (at_X11_takeGlyphs_173 f g T0  P) (at_X11_takeGlyphs_190 f g T0  P) (at_X11_takeGlyphs_218 f g T0  P) (at_X11_takeGlyphs_235 f g T0  P) S ) : at_X11_takeGlyphs_218 f g T0  P S  := by
  intro hT 
  unfold st_X11_takeGlyphs_218 at h
  refine ww_aload_n C dX11_takeGlyphs_218 0 rfl ?_
  refine ww_aload_n C dX11_takeGlyphs_219 0 rfl ?_
  refine gf_Model_at C bw_953 dX11_takeGlyphs_220 ?_
  refine ww_aload_n C dX11_takeGlyphs_223 0 rfl ?_
  refine gf_Model_end C bw_954 dX11_takeGlyphs_224 ?_
  refine ww_icmp_ne (tgt := 234) C dX11_takeGlyphs_227 (by decide) (fun q71 => ?_) (fun q71 => ?_)
  · replace h := h.1 q71
    refine ww_iconst (v := 0) C dX11_takeGlyphs_234 (by decide) ?_
    exact ww_sub [] rfl (h hT)
  · replace h := h.2 q71
    refine ww_iconst (v := 1) C dX11_takeGlyphs_230 (by decide) ?_
    refine ww_goto (tgt := 235) C dX11_takeGlyphs_231 (by decide) ?_
    exact ww_sub [] rfl (h hT)
set_option maxHeartbeats 4000000 in
set_option maxRecDepth 100000 in
theorem run_X11_takeGlyphs_235 {f : Fx} {g : Gx} {T0 : List (Nat × Nat × Nat)} {S : St}  {P : St → Prop} (C : Cx f g cX11_takeGlyphs 3 RX11) (hrt : (fmeth f).sig.returnType = none)  {s0 : Int32} (h : st_X11_takeGlyphs_235  P (at_X11_takeGlyphs_30 f g T0  P) (at_X11_takeGlyphs_31 f g T0  P) (at_X11_takeGlyphs_44 f g T0  P) (at_X11_takeGlyphs_78 f g T0  P) (at_X11_takeGlyphs_89 f g T0  P) (at_X11_takeGlyphs_115 f g T0  P) (at_X11_takeGlyphs_117 f g T0  P) (at_X11_takeGlyphs_134 f g T0  P) (at_X11_takeGlyphs_171 f g T0  P) (at_X11_takeGlyphs_173 f g T0  P) (at_X11_takeGlyphs_190 f g T0  P) (at_X11_takeGlyphs_218 f g T0  P) (at_X11_takeGlyphs_235 f g T0  P) S s0) : at_X11_takeGlyphs_235 f g T0  P S s0 := by
  intro hT 
  unfold st_X11_takeGlyphs_235 at h
  refine ww_cVv (As := [.int s0]) (rest := []) C ok_X11_check bw_1199 dX11_takeGlyphs_235 (run_X11_check  (fun _ => h)) rc_Model rfl ⟨Nat.le_of_ble_eq_true rfl, Nat.le_of_ble_eq_true rfl⟩ (Nat.le_of_ble_eq_true rfl) (c2 := 0) (s2 := 0) rfl rfl ⟨Nat.le_of_ble_eq_true rfl, Nat.le_of_ble_eq_true rfl⟩ rfl (fun S72 hp hTg => ?_)
  replace h := hp
  have hT_S72 : S72.2.2.1 = T0 := by rw [hTg]; exact hT
  exact ww_vret C hrt dX11_takeGlyphs_238 hT_S72 h
def wp_X11_takeGlyphs (S : St)  (P : St → Prop) : Prop :=
  ∀ (X30 : St → Prop) (X31 : St → Int32 → Prop) (X44 : St → Int32 → Prop) (X78 : St → Int32 → Int32 → Prop) (X89 : St → Int32 → Prop) (X115 : St → Prop) (X117 : St → Int32 → Prop) (X134 : St → Int32 → Int32 → Prop) (X171 : St → Prop) (X173 : St → Int32 → Prop) (X190 : St → Int32 → Int32 → Prop) (X218 : St → Prop) (X235 : St → Int32 → Prop), (∀ S , st_X11_takeGlyphs_30  P X30 X31 X44 X78 X89 X115 X117 X134 X171 X173 X190 X218 X235 S  → X30 S ) → (∀ S s0, st_X11_takeGlyphs_31  P X30 X31 X44 X78 X89 X115 X117 X134 X171 X173 X190 X218 X235 S s0 → X31 S s0) → (∀ S v1, st_X11_takeGlyphs_44  P X30 X31 X44 X78 X89 X115 X117 X134 X171 X173 X190 X218 X235 S v1 → X44 S v1) → (∀ S v1 s0, st_X11_takeGlyphs_78  P X30 X31 X44 X78 X89 X115 X117 X134 X171 X173 X190 X218 X235 S v1 s0 → X78 S v1 s0) → (∀ S v1, st_X11_takeGlyphs_89  P X30 X31 X44 X78 X89 X115 X117 X134 X171 X173 X190 X218 X235 S v1 → X89 S v1) → (∀ S , st_X11_takeGlyphs_115  P X30 X31 X44 X78 X89 X115 X117 X134 X171 X173 X190 X218 X235 S  → X115 S ) → (∀ S v1, st_X11_takeGlyphs_117  P X30 X31 X44 X78 X89 X115 X117 X134 X171 X173 X190 X218 X235 S v1 → X117 S v1) → (∀ S v1 v2, st_X11_takeGlyphs_134  P X30 X31 X44 X78 X89 X115 X117 X134 X171 X173 X190 X218 X235 S v1 v2 → X134 S v1 v2) → (∀ S , st_X11_takeGlyphs_171  P X30 X31 X44 X78 X89 X115 X117 X134 X171 X173 X190 X218 X235 S  → X171 S ) → (∀ S v1, st_X11_takeGlyphs_173  P X30 X31 X44 X78 X89 X115 X117 X134 X171 X173 X190 X218 X235 S v1 → X173 S v1) → (∀ S v1 v2, st_X11_takeGlyphs_190  P X30 X31 X44 X78 X89 X115 X117 X134 X171 X173 X190 X218 X235 S v1 v2 → X190 S v1 v2) → (∀ S , st_X11_takeGlyphs_218  P X30 X31 X44 X78 X89 X115 X117 X134 X171 X173 X190 X218 X235 S  → X218 S ) → (∀ S s0, st_X11_takeGlyphs_235  P X30 X31 X44 X78 X89 X115 X117 X134 X171 X173 X190 X218 X235 S s0 → X235 S s0) → wp_X11_next S (fun r75 S74 => ∀ S76 : St, S76 = stM S74 9 2 r75 → (((S76.2.1 9 2) < 1 → X30 S76) ∧ (¬ (S76.2.1 9 2) < 1 → ((6 < (S76.2.1 9 2) → X30 S76) ∧ (¬ 6 < (S76.2.1 9 2) → X31 S76 1)))))
set_option maxHeartbeats 4000000 in
set_option maxRecDepth 100000 in
theorem run_X11_takeGlyphs {l : Launch} {g : Gx} {S : St}  {P : St → Prop}  (h : rowsLe S → wp_X11_takeGlyphs S  P) : CMv g l yX11_takeGlyphs cX11_takeGlyphs 3 none rm_X11_takeGlyphs [.ref (gad g 158)] S P := cm_entry (own := RX11) (plainFor_of_name (by decide)) rfl (Nat.le_of_ble_eq_true rfl) rfl (fun hle f hf C hrt => by
  subst hf
  replace h := h hle
  obtain ⟨T0, hT⟩ : ∃ T, S.2.2.1 = T := ⟨_, rfl⟩
  rw [hT]
  replace h := h (at_X11_takeGlyphs_30 f g T0  P) (at_X11_takeGlyphs_31 f g T0  P) (at_X11_takeGlyphs_44 f g T0  P) (at_X11_takeGlyphs_78 f g T0  P) (at_X11_takeGlyphs_89 f g T0  P) (at_X11_takeGlyphs_115 f g T0  P) (at_X11_takeGlyphs_117 f g T0  P) (at_X11_takeGlyphs_134 f g T0  P) (at_X11_takeGlyphs_171 f g T0  P) (at_X11_takeGlyphs_173 f g T0  P) (at_X11_takeGlyphs_190 f g T0  P) (at_X11_takeGlyphs_218 f g T0  P) (at_X11_takeGlyphs_235 f g T0  P) (fun S  h => run_X11_takeGlyphs_30 C hrt  h) (fun S s0 h => run_X11_takeGlyphs_31 C hrt  h) (fun S v1 h => run_X11_takeGlyphs_44 C hrt  h) (fun S v1 s0 h => run_X11_takeGlyphs_78 C hrt  h) (fun S v1 h => run_X11_takeGlyphs_89 C hrt  h) (fun S  h => run_X11_takeGlyphs_115 C hrt  h) (fun S v1 h => run_X11_takeGlyphs_117 C hrt  h) (fun S v1 v2 h => run_X11_takeGlyphs_134 C hrt  h) (fun S  h => run_X11_takeGlyphs_171 C hrt  h) (fun S v1 h => run_X11_takeGlyphs_173 C hrt  h) (fun S v1 v2 h => run_X11_takeGlyphs_190 C hrt  h) (fun S  h => run_X11_takeGlyphs_218 C hrt  h) (fun S s0 h => run_X11_takeGlyphs_235 C hrt  h)
  refine ww_aload_n C dX11_takeGlyphs_0 0 rfl ?_
  refine ww_aload_n C dX11_takeGlyphs_1 0 rfl ?_
  refine ww_cVi (As := []) (rest := [.ref (gad g 158)]) C ok_X11_next bw_1195 dX11_takeGlyphs_2 (run_X11_next  (fun _ => h)) rc_Model rfl ⟨Nat.le_of_ble_eq_true rfl, Nat.le_of_ble_eq_true rfl⟩ (Nat.le_of_ble_eq_true rfl) (c2 := 0) (s2 := 0) rfl rfl ⟨Nat.le_of_ble_eq_true rfl, Nat.le_of_ble_eq_true rfl⟩ rfl (fun r75 S74 hp hTg => ?_)
  replace h := hp
  have hT_S74 : S74.2.2.1 = T0 := by rw [hTg]; exact hT
  refine pf_Model_newGlyphs C bw_934 dX11_takeGlyphs_5 ?_
  refine ww_nm (fun S76 e_S76 => ?_)
  replace h := h S76 e_S76
  have hT_S76 : S76.2.2.1 = T0 := by rw [e_S76]; exact hT_S74
  refine ww_aload_n C dX11_takeGlyphs_8 0 rfl ?_
  refine ww_aload_n C dX11_takeGlyphs_9 0 rfl ?_
  refine gf_Model_newGlyphs C bw_934 dX11_takeGlyphs_10 ?_
  refine ww_iconst (v := 1) C dX11_takeGlyphs_13 (by decide) ?_
  refine ww_icmp_lt (tgt := 30) C dX11_takeGlyphs_14 (by decide) (fun q77 => ?_) (fun q77 => ?_)
  · replace h := h.1 q77
    exact ww_sub [0] rfl (h hT_S76)
  · replace h := h.2 q77
    refine ww_aload_n C dX11_takeGlyphs_17 0 rfl ?_
    refine gf_Model_newGlyphs C bw_934 dX11_takeGlyphs_18 ?_
    refine ww_bipush (v := 6) C dX11_takeGlyphs_21 (by decide) ?_
    refine ww_icmp_gt (tgt := 30) C dX11_takeGlyphs_23 (by decide) (fun q78 => ?_) (fun q78 => ?_)
    · replace h := h.1 q78
      exact ww_sub [0] rfl (h hT_S76)
    · replace h := h.2 q78
      refine ww_iconst (v := 1) C dX11_takeGlyphs_26 (by decide) ?_
      refine ww_goto (tgt := 31) C dX11_takeGlyphs_27 (by decide) ?_
      exact ww_sub [0] rfl (h hT_S76))
abbrev rm_X11_takeAdvances : Room := { frames := 2, cells := 0, slots := 0, locals := 42 }
theorem ok_X11_takeAdvances : MOK yX11_takeAdvances RX11 cX11_takeAdvances 2 none 0 := ⟨bw_1245, bw_55, bw_69, bw_1246, by decide +kernel⟩
def st_X11_takeAdvances_2  (P : St → Prop) (X2 : St → Int32 → Prop) (X45 : St → Int32 → Int32 → Prop) (X54 : St → Prop) (X71 : St → Int32 → Prop) (S : St) (v1 : Int32) : Prop :=
  (((S.2.1 9 2) ≤ v1 → X54 S) ∧ (¬ (S.2.1 9 2) ≤ v1 → ((¬ (S.2.1 9 11) = 0 → X54 S) ∧ ((S.2.1 9 11) = 0 → wp_X11_nextShort S (fun r16 S15 => (vp_in v1 (gw_ml 9) ∧ ∀ S17 : St, S17 = stM S15 19 v1.toNatClampNeg r16 → (vp_in v1 (gw_ml 9) ∧ ((2000 < (S17.2.1 19 v1.toNatClampNeg) → X45 S17 v1 0) ∧ (¬ 2000 < (S17.2.1 19 v1.toNatClampNeg) → X45 S17 v1 1)))))))))
def st_X11_takeAdvances_45  (P : St → Prop) (X2 : St → Int32 → Prop) (X45 : St → Int32 → Int32 → Prop) (X54 : St → Prop) (X71 : St → Int32 → Prop) (S : St) (v1 : Int32) (s0 : Int32) : Prop :=
  wp_X11_check S s0 (fun S19 => ∀ x21 : Int32, x21 = v1 + 1 → X2 S19 x21)
def st_X11_takeAdvances_54  (P : St → Prop) (X2 : St → Int32 → Prop) (X45 : St → Int32 → Int32 → Prop) (X54 : St → Prop) (X71 : St → Int32 → Prop) (S : St)  : Prop :=
  ((¬ (S.2.1 9 8) = (S.2.1 9 9) → X71 S 0) ∧ ((S.2.1 9 8) = (S.2.1 9 9) → X71 S 1))
def st_X11_takeAdvances_71  (P : St → Prop) (X2 : St → Int32 → Prop) (X45 : St → Int32 → Int32 → Prop) (X54 : St → Prop) (X71 : St → Int32 → Prop) (S : St) (s0 : Int32) : Prop :=
  wp_X11_check S s0 (fun S23 => P S23)
def at_X11_takeAdvances_2 (f : Fx) (g : Gx) (T0 : List (Nat × Nat × Nat))  (P : St → Prop) (S : St) (v1 : Int32) : Prop := S.2.2.1 = T0 → WW f rm_X11_takeAdvances g 2 0 0 (Qv f g 0 0 T0 P) S 2 [(0, .ref (gad g 158)), (1, .int v1)] []
def at_X11_takeAdvances_45 (f : Fx) (g : Gx) (T0 : List (Nat × Nat × Nat))  (P : St → Prop) (S : St) (v1 : Int32) (s0 : Int32) : Prop := S.2.2.1 = T0 → WW f rm_X11_takeAdvances g 2 0 0 (Qv f g 0 0 T0 P) S 45 [(0, .ref (gad g 158)), (1, .int v1)] [.int s0, .ref (gad g 158)]
def at_X11_takeAdvances_54 (f : Fx) (g : Gx) (T0 : List (Nat × Nat × Nat))  (P : St → Prop) (S : St)  : Prop := S.2.2.1 = T0 → WW f rm_X11_takeAdvances g 2 0 0 (Qv f g 0 0 T0 P) S 54 [(0, .ref (gad g 158))] []
def at_X11_takeAdvances_71 (f : Fx) (g : Gx) (T0 : List (Nat × Nat × Nat))  (P : St → Prop) (S : St) (s0 : Int32) : Prop := S.2.2.1 = T0 → WW f rm_X11_takeAdvances g 2 0 0 (Qv f g 0 0 T0 P) S 71 [] [.int s0, .ref (gad g 158)]
set_option maxHeartbeats 4000000 in
set_option maxRecDepth 100000 in
theorem run_X11_takeAdvances_2 {f : Fx} {g : Gx} {T0 : List (Nat × Nat × Nat)} {S : St}  {P : St → Prop} (C : Cx f g cX11_takeAdvances 2 RX11) (hrt : (fmeth f).sig.returnType = none)  {v1 : Int32} (h : st_X11_takeAdvances_2  P (at_X11_takeAdvances_2 f g T0  P) (at_X11_takeAdvances_45 f g T0  P) (at_X11_takeAdvances_54 f g T0  P) (at_X11_takeAdvances_71 f g T0  P) S v1) : at_X11_takeAdvances_2 f g T0  P S v1 := by
  intro hT 
  unfold st_X11_takeAdvances_2 at h
  refine ww_iload_n C dX11_takeAdvances_2 1 rfl ?_
  refine ww_aload_n C dX11_takeAdvances_3 0 rfl ?_
  refine gf_Model_newGlyphs C bw_934 dX11_takeAdvances_4 ?_
  refine ww_icmp_ge (tgt := 54) C dX11_takeAdvances_7 (by decide) (fun q13 => ?_) (fun q13 => ?_)
  · replace h := h.1 q13
    exact ww_sub [0] rfl (h hT)
  · replace h := h.2 q13
    refine ww_aload_n C dX11_takeAdvances_10 0 rfl ?_
    refine gf_Model_bad C bw_956 dX11_takeAdvances_11 ?_
    refine ww_if_ne (tgt := 54) C dX11_takeAdvances_14 (by decide) (fun q14 => ?_) (fun q14 => ?_)
    · replace h := h.1 q14
      exact ww_sub [0] rfl (h hT)
    · replace h := h.2 q14
      refine ww_aload_n C dX11_takeAdvances_17 0 rfl ?_
      refine gf_Model_newAdvance C bw_935 dX11_takeAdvances_18 ?_
      refine ww_iload_n C dX11_takeAdvances_21 1 rfl ?_
      refine ww_aload_n C dX11_takeAdvances_22 0 rfl ?_
      refine ww_cVi (As := []) (rest := [.int v1, .ref (gad g 168)]) C ok_X11_nextShort bw_1235 dX11_takeAdvances_23 (run_X11_nextShort  (fun _ => h)) rc_Model rfl ⟨Nat.le_of_ble_eq_true rfl, Nat.le_of_ble_eq_true rfl⟩ (Nat.le_of_ble_eq_true rfl) (c2 := 0) (s2 := 0) rfl rfl ⟨Nat.le_of_ble_eq_true rfl, Nat.le_of_ble_eq_true rfl⟩ rfl (fun r16 S15 hp hTg => ?_)
      replace h := hp
      have hT_S15 : S15.2.2.1 = T0 := by rw [hTg]; exact hT
      refine is_m (a := 9) C (by decide) (by decide) h.1 dX11_takeAdvances_26 ?_
      replace h := h.2
      refine ww_nm (fun S17 e_S17 => ?_)
      replace h := h S17 e_S17
      have hT_S17 : S17.2.2.1 = T0 := by rw [e_S17]; exact hT_S15
      refine ww_aload_n C dX11_takeAdvances_27 0 rfl ?_
      refine ww_aload_n C dX11_takeAdvances_28 0 rfl ?_
      refine gf_Model_newAdvance C bw_935 dX11_takeAdvances_29 ?_
      refine ww_iload_n C dX11_takeAdvances_32 1 rfl ?_
      refine ia_m (a := 9) C (by decide) (by decide) h.1 dX11_takeAdvances_33 ?_
      replace h := h.2
      refine ww_sipush (v := 2000) C dX11_takeAdvances_34 (by decide) ?_
      refine ww_icmp_gt (tgt := 44) C dX11_takeAdvances_37 (by decide) (fun q18 => ?_) (fun q18 => ?_)
      · replace h := h.1 q18
        refine ww_iconst (v := 0) C dX11_takeAdvances_44 (by decide) ?_
        exact ww_sub [0, 1] rfl (h hT_S17)
      · replace h := h.2 q18
        refine ww_iconst (v := 1) C dX11_takeAdvances_40 (by decide) ?_
        refine ww_goto (tgt := 45) C dX11_takeAdvances_41 (by decide) ?_
        exact ww_sub [0, 1] rfl (h hT_S17)
set_option maxHeartbeats 4000000 in
set_option maxRecDepth 100000 in
theorem run_X11_takeAdvances_45 {f : Fx} {g : Gx} {T0 : List (Nat × Nat × Nat)} {S : St}  {P : St → Prop} (C : Cx f g cX11_takeAdvances 2 RX11) (hrt : (fmeth f).sig.returnType = none)  {v1 : Int32} {s0 : Int32} (h : st_X11_takeAdvances_45  P (at_X11_takeAdvances_2 f g T0  P) (at_X11_takeAdvances_45 f g T0  P) (at_X11_takeAdvances_54 f g T0  P) (at_X11_takeAdvances_71 f g T0  P) S v1 s0) : at_X11_takeAdvances_45 f g T0  P S v1 s0 := by
  intro hT 
  unfold st_X11_takeAdvances_45 at h
  refine ww_cVv (As := [.int s0]) (rest := []) C ok_X11_check bw_1199 dX11_takeAdvances_45 (run_X11_check  (fun _ => h)) rc_Model rfl ⟨Nat.le_of_ble_eq_true rfl, Nat.le_of_ble_eq_true rfl⟩ (Nat.le_of_ble_eq_true rfl) (c2 := 0) (s2 := 0) rfl rfl ⟨Nat.le_of_ble_eq_true rfl, Nat.le_of_ble_eq_true rfl⟩ rfl (fun S19 hp hTg => ?_)
  replace h := hp
  have hT_S19 : S19.2.2.1 = T0 := by rw [hTg]; exact hT
  obtain ⟨x21, e_x21⟩ : ∃ z : Int32, z = v1 + 1 := ⟨_, rfl⟩
  replace h := h x21 e_x21
  refine ww_iinc (v := x21) (lv2 := [(1, .int x21), (0, .ref (gad g 158))]) C dX11_takeAdvances_48 1 rfl (by rw [e_x21]; rfl) (Nat.le_of_ble_eq_true rfl) rfl ?_
  refine ww_goto (tgt := 2) C dX11_takeAdvances_51 (by decide) ?_
  exact ww_sub [1, 0] rfl (h hT_S19)
set_option maxHeartbeats 4000000 in
set_option maxRecDepth 100000 in
theorem run_X11_takeAdvances_54 {f : Fx} {g : Gx} {T0 : List (Nat × Nat × Nat)} {S : St}  {P : St → Prop} (C : Cx f g cX11_takeAdvances 2 RX11) (hrt : (fmeth f).sig.returnType = none)   (h : st_X11_takeAdvances_54  P (at_X11_takeAdvances_2 f g T0  P) (at_X11_takeAdvances_45 f g T0  P) (at_X11_takeAdvances_54 f g T0  P) (at_X11_takeAdvances_71 f g T0  P) S ) : at_X11_takeAdvances_54 f g T0  P S  := by
  intro hT 
  unfold st_X11_takeAdvances_54 at h
  refine ww_aload_n C dX11_takeAdvances_54 0 rfl ?_
  refine ww_aload_n C dX11_takeAdvances_55 0 rfl ?_
  refine gf_Model_at C bw_953 dX11_takeAdvances_56 ?_
  refine ww_aload_n C dX11_takeAdvances_59 0 rfl ?_
  refine gf_Model_end C bw_954 dX11_takeAdvances_60 ?_
  refine ww_icmp_ne (tgt := 70) C dX11_takeAdvances_63 (by decide) (fun q22 => ?_) (fun q22 => ?_)
  · replace h := h.1 q22
    refine ww_iconst (v := 0) C dX11_takeAdvances_70 (by decide) ?_
    exact ww_sub [] rfl (h hT)
  · replace h := h.2 q22
    refine ww_iconst (v := 1) C dX11_takeAdvances_66 (by decide) ?_
    refine ww_goto (tgt := 71) C dX11_takeAdvances_67 (by decide) ?_
    exact ww_sub [] rfl (h hT)
set_option maxHeartbeats 4000000 in
set_option maxRecDepth 100000 in
theorem run_X11_takeAdvances_71 {f : Fx} {g : Gx} {T0 : List (Nat × Nat × Nat)} {S : St}  {P : St → Prop} (C : Cx f g cX11_takeAdvances 2 RX11) (hrt : (fmeth f).sig.returnType = none)  {s0 : Int32} (h : st_X11_takeAdvances_71  P (at_X11_takeAdvances_2 f g T0  P) (at_X11_takeAdvances_45 f g T0  P) (at_X11_takeAdvances_54 f g T0  P) (at_X11_takeAdvances_71 f g T0  P) S s0) : at_X11_takeAdvances_71 f g T0  P S s0 := by
  intro hT 
  unfold st_X11_takeAdvances_71 at h
  refine ww_cVv (As := [.int s0]) (rest := []) C ok_X11_check bw_1199 dX11_takeAdvances_71 (run_X11_check  (fun _ => h)) rc_Model rfl ⟨Nat.le_of_ble_eq_true rfl, Nat.le_of_ble_eq_true rfl⟩ (Nat.le_of_ble_eq_true rfl) (c2 := 0) (s2 := 0) rfl rfl ⟨Nat.le_of_ble_eq_true rfl, Nat.le_of_ble_eq_true rfl⟩ rfl (fun S23 hp hTg => ?_)
  replace h := hp
  have hT_S23 : S23.2.2.1 = T0 := by rw [hTg]; exact hT
  exact ww_vret C hrt dX11_takeAdvances_74 hT_S23 h
def wp_X11_takeAdvances (S : St)  (P : St → Prop) : Prop :=
  ∀ (X2 : St → Int32 → Prop) (X45 : St → Int32 → Int32 → Prop) (X54 : St → Prop) (X71 : St → Int32 → Prop), (∀ S v1, st_X11_takeAdvances_2  P X2 X45 X54 X71 S v1 → X2 S v1) → (∀ S v1 s0, st_X11_takeAdvances_45  P X2 X45 X54 X71 S v1 s0 → X45 S v1 s0) → (∀ S , st_X11_takeAdvances_54  P X2 X45 X54 X71 S  → X54 S ) → (∀ S s0, st_X11_takeAdvances_71  P X2 X45 X54 X71 S s0 → X71 S s0) → X2 S 0
set_option maxHeartbeats 4000000 in
set_option maxRecDepth 100000 in
theorem run_X11_takeAdvances {l : Launch} {g : Gx} {S : St}  {P : St → Prop}  (h : rowsLe S → wp_X11_takeAdvances S  P) : CMv g l yX11_takeAdvances cX11_takeAdvances 2 none rm_X11_takeAdvances [.ref (gad g 158)] S P := cm_entry (own := RX11) (plainFor_of_name (by decide)) rfl (Nat.le_of_ble_eq_true rfl) rfl (fun hle f hf C hrt => by
  subst hf
  replace h := h hle
  obtain ⟨T0, hT⟩ : ∃ T, S.2.2.1 = T := ⟨_, rfl⟩
  rw [hT]
  replace h := h (at_X11_takeAdvances_2 f g T0  P) (at_X11_takeAdvances_45 f g T0  P) (at_X11_takeAdvances_54 f g T0  P) (at_X11_takeAdvances_71 f g T0  P) (fun S v1 h => run_X11_takeAdvances_2 C hrt  h) (fun S v1 s0 h => run_X11_takeAdvances_45 C hrt  h) (fun S  h => run_X11_takeAdvances_54 C hrt  h) (fun S s0 h => run_X11_takeAdvances_71 C hrt  h)
  refine ww_iconst (v := 0) C dX11_takeAdvances_0 (by decide) ?_
  refine ww_istore_n (lv2 := [(1, .int 0), (0, .ref (gad g 158))]) C dX11_takeAdvances_1 rfl (Nat.le_of_ble_eq_true rfl) rfl ?_
  exact ww_sub [1, 0] rfl (h hT))
abbrev rm_X11_takeRow : Room := { frames := 1, cells := 0, slots := 0, locals := 20 }
theorem ok_X11_takeRow : MOK yX11_takeRow RX11 cX11_takeRow 2 none 1 := ⟨bw_1249, bw_56, bw_69, bw_1250, by decide +kernel⟩
def st_X11_takeRow_0 (t : Int32) (P : St → Prop) (X0 : St → Prop) (S : St)  : Prop :=
  (((S.2.1 9 9) ≤ (S.2.1 9 8) → P S) ∧ (¬ (S.2.1 9 9) ≤ (S.2.1 9 8) → (vp_in t (gw_ml 17) ∧ wp_X11_next S (fun r8 S7 => (vp_in ((20 * t) + (S.2.1 27 t.toNatClampNeg)) (gw_ml 18) ∧ ∀ S9 : St, S9 = stM S7 28 ((20 * t) + (S.2.1 27 t.toNatClampNeg)).toNatClampNeg r8 → (vp_in t (gw_ml 17) ∧ (vp_in t (gw_ml 17) ∧ ∀ S10 : St, S10 = stM S9 27 t.toNatClampNeg ((S9.2.1 27 t.toNatClampNeg) + 1) → X0 S10)))))))
def at_X11_takeRow_0 (f : Fx) (g : Gx) (T0 : List (Nat × Nat × Nat)) (t : Int32) (P : St → Prop) (S : St)  : Prop := S.2.2.1 = T0 → WW f rm_X11_takeRow g 2 0 0 (Qv f g 0 0 T0 P) S 0 [(0, .ref (gad g 158)), (1, .int t)] []
set_option maxHeartbeats 4000000 in
set_option maxRecDepth 100000 in
theorem run_X11_takeRow_0 {f : Fx} {g : Gx} {T0 : List (Nat × Nat × Nat)} {S : St} {t : Int32} {P : St → Prop} (C : Cx f g cX11_takeRow 2 RX11) (hrt : (fmeth f).sig.returnType = none)   (h : st_X11_takeRow_0 t P (at_X11_takeRow_0 f g T0 t P) S ) : at_X11_takeRow_0 f g T0 t P S  := by
  intro hT 
  unfold st_X11_takeRow_0 at h
  refine ww_aload_n C dX11_takeRow_0 0 rfl ?_
  refine gf_Model_at C bw_953 dX11_takeRow_1 ?_
  refine ww_aload_n C dX11_takeRow_4 0 rfl ?_
  refine gf_Model_end C bw_954 dX11_takeRow_5 ?_
  refine ww_icmp_ge (tgt := 44) C dX11_takeRow_8 (by decide) (fun q6 => ?_) (fun q6 => ?_)
  · replace h := h.1 q6
    exact ww_vret C hrt dX11_takeRow_44 hT h
  · replace h := h.2 q6
    refine ww_aload_n C dX11_takeRow_11 0 rfl ?_
    refine gf_Model_newRow C bw_944 dX11_takeRow_12 ?_
    refine ww_bipush (v := 20) C dX11_takeRow_15 (by decide) ?_
    refine ww_iload_n C dX11_takeRow_17 1 rfl ?_
    refine ww_imul C dX11_takeRow_18 ?_
    refine ww_aload_n C dX11_takeRow_19 0 rfl ?_
    refine gf_Model_newRowSize C bw_943 dX11_takeRow_20 ?_
    refine ww_iload_n C dX11_takeRow_23 1 rfl ?_
    refine ia_m (a := 17) C (by decide) (by decide) h.1 dX11_takeRow_24 ?_
    replace h := h.2
    refine ww_iadd C dX11_takeRow_25 ?_
    refine ww_aload_n C dX11_takeRow_26 0 rfl ?_
    refine ww_cVi (As := []) (rest := [.int ((20 * t) + (S.2.1 27 t.toNatClampNeg)), .ref (gad g 177)]) C ok_X11_next bw_1195 dX11_takeRow_27 (run_X11_next  (fun _ => h)) rc_Model rfl ⟨Nat.le_of_ble_eq_true rfl, Nat.le_of_ble_eq_true rfl⟩ (Nat.le_of_ble_eq_true rfl) (c2 := 0) (s2 := 0) rfl rfl ⟨Nat.le_of_ble_eq_true rfl, Nat.le_of_ble_eq_true rfl⟩ rfl (fun r8 S7 hp hTg => ?_)
    replace h := hp
    have hT_S7 : S7.2.2.1 = T0 := by rw [hTg]; exact hT
    refine is_m (a := 18) C (by decide) (by decide) h.1 dX11_takeRow_30 ?_
    replace h := h.2
    refine ww_nm (fun S9 e_S9 => ?_)
    replace h := h S9 e_S9
    have hT_S9 : S9.2.2.1 = T0 := by rw [e_S9]; exact hT_S7
    refine ww_aload_n C dX11_takeRow_31 0 rfl ?_
    refine gf_Model_newRowSize C bw_943 dX11_takeRow_32 ?_
    refine ww_iload_n C dX11_takeRow_35 1 rfl ?_
    refine ww_dup2 C dX11_takeRow_36 rfl rfl ?_
    refine ia_m (a := 17) C (by decide) (by decide) h.1 dX11_takeRow_37 ?_
    replace h := h.2
    refine ww_iconst (v := 1) C dX11_takeRow_38 (by decide) ?_
    refine ww_iadd C dX11_takeRow_39 ?_
    refine is_m (a := 17) C (by decide) (by decide) h.1 dX11_takeRow_40 ?_
    replace h := h.2
    refine ww_nm (fun S10 e_S10 => ?_)
    replace h := h S10 e_S10
    have hT_S10 : S10.2.2.1 = T0 := by rw [e_S10]; exact hT_S9
    refine ww_goto (tgt := 0) C dX11_takeRow_41 (by decide) ?_
    exact ww_sub [0, 1] rfl (h hT_S10)
def wp_X11_takeRow (S : St) (t : Int32) (P : St → Prop) : Prop :=
  ∀ (X0 : St → Prop), (∀ S , st_X11_takeRow_0 t P X0 S  → X0 S ) → (((S.2.1 9 9) ≤ (S.2.1 9 8) → P S) ∧ (¬ (S.2.1 9 9) ≤ (S.2.1 9 8) → (vp_in t (gw_ml 17) ∧ wp_X11_next S (fun r13 S12 => (vp_in ((20 * t) + (S.2.1 27 t.toNatClampNeg)) (gw_ml 18) ∧ ∀ S14 : St, S14 = stM S12 28 ((20 * t) + (S.2.1 27 t.toNatClampNeg)).toNatClampNeg r13 → (vp_in t (gw_ml 17) ∧ (vp_in t (gw_ml 17) ∧ ∀ S15 : St, S15 = stM S14 27 t.toNatClampNeg ((S14.2.1 27 t.toNatClampNeg) + 1) → X0 S15)))))))
set_option maxHeartbeats 4000000 in
set_option maxRecDepth 100000 in
theorem run_X11_takeRow {l : Launch} {g : Gx} {S : St} {t : Int32} {P : St → Prop}  (h : rowsLe S → wp_X11_takeRow S t P) : CMv g l yX11_takeRow cX11_takeRow 2 none rm_X11_takeRow [.ref (gad g 158), .int t] S P := cm_entry (own := RX11) (plainFor_of_name (by decide)) rfl (Nat.le_of_ble_eq_true rfl) rfl (fun hle f hf C hrt => by
  subst hf
  replace h := h hle
  obtain ⟨T0, hT⟩ : ∃ T, S.2.2.1 = T := ⟨_, rfl⟩
  rw [hT]
  replace h := h (at_X11_takeRow_0 f g T0 t P) (fun S  h => run_X11_takeRow_0 C hrt  h)
  refine ww_aload_n C dX11_takeRow_0 0 rfl ?_
  refine gf_Model_at C bw_953 dX11_takeRow_1 ?_
  refine ww_aload_n C dX11_takeRow_4 0 rfl ?_
  refine gf_Model_end C bw_954 dX11_takeRow_5 ?_
  refine ww_icmp_ge (tgt := 44) C dX11_takeRow_8 (by decide) (fun q11 => ?_) (fun q11 => ?_)
  · replace h := h.1 q11
    exact ww_vret C hrt dX11_takeRow_44 hT h
  · replace h := h.2 q11
    refine ww_aload_n C dX11_takeRow_11 0 rfl ?_
    refine gf_Model_newRow C bw_944 dX11_takeRow_12 ?_
    refine ww_bipush (v := 20) C dX11_takeRow_15 (by decide) ?_
    refine ww_iload_n C dX11_takeRow_17 1 rfl ?_
    refine ww_imul C dX11_takeRow_18 ?_
    refine ww_aload_n C dX11_takeRow_19 0 rfl ?_
    refine gf_Model_newRowSize C bw_943 dX11_takeRow_20 ?_
    refine ww_iload_n C dX11_takeRow_23 1 rfl ?_
    refine ia_m (a := 17) C (by decide) (by decide) h.1 dX11_takeRow_24 ?_
    replace h := h.2
    refine ww_iadd C dX11_takeRow_25 ?_
    refine ww_aload_n C dX11_takeRow_26 0 rfl ?_
    refine ww_cVi (As := []) (rest := [.int ((20 * t) + (S.2.1 27 t.toNatClampNeg)), .ref (gad g 177)]) C ok_X11_next bw_1195 dX11_takeRow_27 (run_X11_next  (fun _ => h)) rc_Model rfl ⟨Nat.le_of_ble_eq_true rfl, Nat.le_of_ble_eq_true rfl⟩ (Nat.le_of_ble_eq_true rfl) (c2 := 0) (s2 := 0) rfl rfl ⟨Nat.le_of_ble_eq_true rfl, Nat.le_of_ble_eq_true rfl⟩ rfl (fun r13 S12 hp hTg => ?_)
    replace h := hp
    have hT_S12 : S12.2.2.1 = T0 := by rw [hTg]; exact hT
    refine is_m (a := 18) C (by decide) (by decide) h.1 dX11_takeRow_30 ?_
    replace h := h.2
    refine ww_nm (fun S14 e_S14 => ?_)
    replace h := h S14 e_S14
    have hT_S14 : S14.2.2.1 = T0 := by rw [e_S14]; exact hT_S12
    refine ww_aload_n C dX11_takeRow_31 0 rfl ?_
    refine gf_Model_newRowSize C bw_943 dX11_takeRow_32 ?_
    refine ww_iload_n C dX11_takeRow_35 1 rfl ?_
    refine ww_dup2 C dX11_takeRow_36 rfl rfl ?_
    refine ia_m (a := 17) C (by decide) (by decide) h.1 dX11_takeRow_37 ?_
    replace h := h.2
    refine ww_iconst (v := 1) C dX11_takeRow_38 (by decide) ?_
    refine ww_iadd C dX11_takeRow_39 ?_
    refine is_m (a := 17) C (by decide) (by decide) h.1 dX11_takeRow_40 ?_
    replace h := h.2
    refine ww_nm (fun S15 e_S15 => ?_)
    replace h := h S15 e_S15
    have hT_S15 : S15.2.2.1 = T0 := by rw [e_S15]; exact hT_S14
    refine ww_goto (tgt := 0) C dX11_takeRow_41 (by decide) ?_
    exact ww_sub [0, 1] rfl (h hT_S15))
abbrev rm_X11_takeTables : Room := { frames := 4, cells := 0, slots := 0, locals := 88 }
theorem ok_X11_takeTables : MOK yX11_takeTables RX11 cX11_takeTables 3 none 0 := ⟨bw_1225, bw_50, bw_69, bw_1226, by decide +kernel⟩
def st_X11_takeTables_14  (P : St → Prop) (X14 : St → Int32 → Int32 → Prop) (X93 : St → Int32 → Int32 → Prop) (S : St) (v1 : Int32) (v2 : Int32) : Prop :=
  ((7 ≤ v2 → P S) ∧ (¬ 7 ≤ v2 → (vp_in v2 (gw_ml 17) ∧ ∀ S20 : St, S20 = stM S 27 v2.toNatClampNeg 0 → (vp_in v2 (gw_ml 22) ∧ (((S20.2.1 32 v2.toNatClampNeg) < 0 → X93 S20 v1 v2) ∧ (¬ (S20.2.1 32 v2.toNatClampNeg) < 0 → ((¬ (S20.2.1 9 11) = 0 → X93 S20 v1 v2) ∧ ((S20.2.1 9 11) = 0 → ∀ S23 : St, S23 = stM S20 9 8 v1 → (vp_in v2 (gw_ml 23) ∧ ∀ S24 : St, S24 = stM S23 9 9 (v1 + (S23.2.1 33 v2.toNatClampNeg)) → ∀ x25 : Int32, x25 = S24.2.1 9 9 → ((¬ v2 = 0 → ((¬ v2 = 1 → wp_X11_takeRow S24 v2 (fun S28 => X93 S28 x25 v2)) ∧ (v2 = 1 → wp_X11_takeAdvances S24 (fun S30 => X93 S30 x25 v2)))) ∧ (v2 = 0 → wp_X11_takeGlyphs S24 (fun S32 => X93 S32 x25 v2))))))))))))
def st_X11_takeTables_93  (P : St → Prop) (X14 : St → Int32 → Int32 → Prop) (X93 : St → Int32 → Int32 → Prop) (S : St) (v1 : Int32) (v2 : Int32) : Prop :=
  ∀ x34 : Int32, x34 = v2 + 1 → X14 S v1 x34
def at_X11_takeTables_14 (f : Fx) (g : Gx) (T0 : List (Nat × Nat × Nat))  (P : St → Prop) (S : St) (v1 : Int32) (v2 : Int32) : Prop := S.2.2.1 = T0 → WW f rm_X11_takeTables g 3 0 0 (Qv f g 0 0 T0 P) S 14 [(0, .ref (gad g 158)), (1, .int v1), (2, .int v2)] []
def at_X11_takeTables_93 (f : Fx) (g : Gx) (T0 : List (Nat × Nat × Nat))  (P : St → Prop) (S : St) (v1 : Int32) (v2 : Int32) : Prop := S.2.2.1 = T0 → WW f rm_X11_takeTables g 3 0 0 (Qv f g 0 0 T0 P) S 93 [(0, .ref (gad g 158)), (1, .int v1), (2, .int v2)] []
set_option maxHeartbeats 4000000 in
set_option maxRecDepth 100000 in
theorem run_X11_takeTables_14 {f : Fx} {g : Gx} {T0 : List (Nat × Nat × Nat)} {S : St}  {P : St → Prop} (C : Cx f g cX11_takeTables 3 RX11) (hrt : (fmeth f).sig.returnType = none)  {v1 : Int32} {v2 : Int32} (h : st_X11_takeTables_14  P (at_X11_takeTables_14 f g T0  P) (at_X11_takeTables_93 f g T0  P) S v1 v2) : at_X11_takeTables_14 f g T0  P S v1 v2 := by
  intro hT 
  unfold st_X11_takeTables_14 at h
  refine ww_iload_n C dX11_takeTables_14 2 rfl ?_
  refine ww_bipush (v := 7) C dX11_takeTables_15 (by decide) ?_
  refine ww_icmp_ge (tgt := 99) C dX11_takeTables_17 (by decide) (fun q19 => ?_) (fun q19 => ?_)
  · replace h := h.1 q19
    exact ww_vret C hrt dX11_takeTables_99 hT h
  · replace h := h.2 q19
    refine ww_aload_n C dX11_takeTables_20 0 rfl ?_
    refine gf_Model_newRowSize C bw_943 dX11_takeTables_21 ?_
    refine ww_iload_n C dX11_takeTables_24 2 rfl ?_
    refine ww_iconst (v := 0) C dX11_takeTables_25 (by decide) ?_
    refine is_m (a := 17) C (by decide) (by decide) h.1 dX11_takeTables_26 ?_
    replace h := h.2
    refine ww_nm (fun S20 e_S20 => ?_)
    replace h := h S20 e_S20
    have hT_S20 : S20.2.2.1 = T0 := by rw [e_S20]; exact hT
    refine ww_aload_n C dX11_takeTables_27 0 rfl ?_
    refine gf_Model_plainSize C bw_960 dX11_takeTables_28 ?_
    refine ww_iload_n C dX11_takeTables_31 2 rfl ?_
    refine ia_m (a := 22) C (by decide) (by decide) h.1 dX11_takeTables_32 ?_
    replace h := h.2
    refine ww_if_lt (tgt := 93) C dX11_takeTables_33 (by decide) (fun q21 => ?_) (fun q21 => ?_)
    · replace h := h.1 q21
      exact ww_sub [0, 1, 2] rfl (h hT_S20)
    · replace h := h.2 q21
      refine ww_aload_n C dX11_takeTables_36 0 rfl ?_
      refine gf_Model_bad C bw_956 dX11_takeTables_37 ?_
      refine ww_if_ne (tgt := 93) C dX11_takeTables_40 (by decide) (fun q22 => ?_) (fun q22 => ?_)
      · replace h := h.1 q22
        exact ww_sub [0, 1, 2] rfl (h hT_S20)
      · replace h := h.2 q22
        refine ww_aload_n C dX11_takeTables_43 0 rfl ?_
        refine ww_iload_n C dX11_takeTables_44 1 rfl ?_
        refine pf_Model_at C bw_953 dX11_takeTables_45 ?_
        refine ww_nm (fun S23 e_S23 => ?_)
        replace h := h S23 e_S23
        have hT_S23 : S23.2.2.1 = T0 := by rw [e_S23]; exact hT_S20
        refine ww_aload_n C dX11_takeTables_48 0 rfl ?_
        refine ww_iload_n C dX11_takeTables_49 1 rfl ?_
        refine ww_aload_n C dX11_takeTables_50 0 rfl ?_
        refine gf_Model_streamSize C bw_961 dX11_takeTables_51 ?_
        refine ww_iload_n C dX11_takeTables_54 2 rfl ?_
        refine ia_m (a := 23) C (by decide) (by decide) h.1 dX11_takeTables_55 ?_
        replace h := h.2
        refine ww_iadd C dX11_takeTables_56 ?_
        refine pf_Model_end C bw_954 dX11_takeTables_57 ?_
        refine ww_nm (fun S24 e_S24 => ?_)
        replace h := h S24 e_S24
        have hT_S24 : S24.2.2.1 = T0 := by rw [e_S24]; exact hT_S23
        refine ww_aload_n C dX11_takeTables_60 0 rfl ?_
        refine gf_Model_end C bw_954 dX11_takeTables_61 ?_
        refine ww_topi (fun x25 e_x25 => ?_)
        replace h := h x25 e_x25
        refine ww_istore_n (lv2 := [(1, .int x25), (0, .ref (gad g 158)), (2, .int v2)]) C dX11_takeTables_64 rfl (Nat.le_of_ble_eq_true rfl) rfl ?_
        refine ww_iload_n C dX11_takeTables_65 2 rfl ?_
        refine ww_if_ne (tgt := 76) C dX11_takeTables_66 (by decide) (fun q26 => ?_) (fun q26 => ?_)
        · replace h := h.1 q26
          refine ww_iload_n C dX11_takeTables_76 2 rfl ?_
          refine ww_iconst (v := 1) C dX11_takeTables_77 (by decide) ?_
          refine ww_icmp_ne (tgt := 88) C dX11_takeTables_78 (by decide) (fun q27 => ?_) (fun q27 => ?_)
          · replace h := h.1 q27
            refine ww_aload_n C dX11_takeTables_88 1 rfl ?_
            refine ww_iload_n C dX11_takeTables_89 2 rfl ?_
            refine ww_cVv (As := [.int v2]) (rest := []) C ok_X11_takeRow bw_1247 dX11_takeTables_90 (run_X11_takeRow  (fun _ => h)) rc_Model rfl ⟨Nat.le_of_ble_eq_true rfl, Nat.le_of_ble_eq_true rfl⟩ (Nat.le_of_ble_eq_true rfl) (c2 := 0) (s2 := 0) rfl rfl ⟨Nat.le_of_ble_eq_true rfl, Nat.le_of_ble_eq_true rfl⟩ rfl (fun S28 hp hTg => ?_)
            replace h := hp
            have hT_S28 : S28.2.2.1 = T0 := by rw [hTg]; exact hT_S24
            exact ww_sub [1, 0, 2] rfl (h hT_S28)
          · replace h := h.2 q27
            refine ww_aload_n C dX11_takeTables_81 1 rfl ?_
            refine ww_cVv (As := []) (rest := []) C ok_X11_takeAdvances bw_1243 dX11_takeTables_82 (run_X11_takeAdvances  (fun _ => h)) rc_Model rfl ⟨Nat.le_of_ble_eq_true rfl, Nat.le_of_ble_eq_true rfl⟩ (Nat.le_of_ble_eq_true rfl) (c2 := 0) (s2 := 0) rfl rfl ⟨Nat.le_of_ble_eq_true rfl, Nat.le_of_ble_eq_true rfl⟩ rfl (fun S30 hp hTg => ?_)
            replace h := hp
            have hT_S30 : S30.2.2.1 = T0 := by rw [hTg]; exact hT_S24
            refine ww_goto (tgt := 93) C dX11_takeTables_85 (by decide) ?_
            exact ww_sub [1, 0, 2] rfl (h hT_S30)
        · replace h := h.2 q26
          refine ww_aload_n C dX11_takeTables_69 1 rfl ?_
          refine ww_cVv (As := []) (rest := []) C ok_X11_takeGlyphs bw_1227 dX11_takeTables_70 (run_X11_takeGlyphs  (fun _ => h)) rc_Model rfl ⟨Nat.le_of_ble_eq_true rfl, Nat.le_of_ble_eq_true rfl⟩ (Nat.le_of_ble_eq_true rfl) (c2 := 0) (s2 := 0) rfl rfl ⟨Nat.le_of_ble_eq_true rfl, Nat.le_of_ble_eq_true rfl⟩ rfl (fun S32 hp hTg => ?_)
          replace h := hp
          have hT_S32 : S32.2.2.1 = T0 := by rw [hTg]; exact hT_S24
          refine ww_goto (tgt := 93) C dX11_takeTables_73 (by decide) ?_
          exact ww_sub [1, 0, 2] rfl (h hT_S32)
set_option maxHeartbeats 4000000 in
set_option maxRecDepth 100000 in
theorem run_X11_takeTables_93 {f : Fx} {g : Gx} {T0 : List (Nat × Nat × Nat)} {S : St}  {P : St → Prop} (C : Cx f g cX11_takeTables 3 RX11) (hrt : (fmeth f).sig.returnType = none)  {v1 : Int32} {v2 : Int32} (h : st_X11_takeTables_93  P (at_X11_takeTables_14 f g T0  P) (at_X11_takeTables_93 f g T0  P) S v1 v2) : at_X11_takeTables_93 f g T0  P S v1 v2 := by
  intro hT 
  unfold st_X11_takeTables_93 at h
  obtain ⟨x34, e_x34⟩ : ∃ z : Int32, z = v2 + 1 := ⟨_, rfl⟩
  replace h := h x34 e_x34
  refine ww_iinc (v := x34) (lv2 := [(2, .int x34), (0, .ref (gad g 158)), (1, .int v1)]) C dX11_takeTables_93 2 rfl (by rw [e_x34]; rfl) (Nat.le_of_ble_eq_true rfl) rfl ?_
  refine ww_goto (tgt := 14) C dX11_takeTables_96 (by decide) ?_
  exact ww_sub [1, 2, 0] rfl (h hT)
def wp_X11_takeTables (S : St)  (P : St → Prop) : Prop :=
  ∀ (X14 : St → Int32 → Int32 → Prop) (X93 : St → Int32 → Int32 → Prop), (∀ S v1 v2, st_X11_takeTables_14  P X14 X93 S v1 v2 → X14 S v1 v2) → (∀ S v1 v2, st_X11_takeTables_93  P X14 X93 S v1 v2 → X93 S v1 v2) → ∀ S35 : St, S35 = stM S 9 2 0 → ∀ S36 : St, S36 = stM S35 9 10 1 → X14 S36 0 0
set_option maxHeartbeats 4000000 in
set_option maxRecDepth 100000 in
theorem run_X11_takeTables {l : Launch} {g : Gx} {S : St}  {P : St → Prop}  (h : rowsLe S → wp_X11_takeTables S  P) : CMv g l yX11_takeTables cX11_takeTables 3 none rm_X11_takeTables [.ref (gad g 158)] S P := cm_entry (own := RX11) (plainFor_of_name (by decide)) rfl (Nat.le_of_ble_eq_true rfl) rfl (fun hle f hf C hrt => by
  subst hf
  replace h := h hle
  obtain ⟨T0, hT⟩ : ∃ T, S.2.2.1 = T := ⟨_, rfl⟩
  rw [hT]
  replace h := h (at_X11_takeTables_14 f g T0  P) (at_X11_takeTables_93 f g T0  P) (fun S v1 v2 h => run_X11_takeTables_14 C hrt  h) (fun S v1 v2 h => run_X11_takeTables_93 C hrt  h)
  refine ww_iconst (v := 0) C dX11_takeTables_0 (by decide) ?_
  refine ww_istore_n (lv2 := [(1, .int 0), (0, .ref (gad g 158))]) C dX11_takeTables_1 rfl (Nat.le_of_ble_eq_true rfl) rfl ?_
  refine ww_aload_n C dX11_takeTables_2 1 rfl ?_
  refine ww_iconst (v := 0) C dX11_takeTables_3 (by decide) ?_
  refine pf_Model_newGlyphs C bw_934 dX11_takeTables_4 ?_
  refine ww_nm (fun S35 e_S35 => ?_)
  replace h := h S35 e_S35
  have hT_S35 : S35.2.2.1 = T0 := by rw [e_S35]; exact hT
  refine ww_aload_n C dX11_takeTables_7 1 rfl ?_
  refine ww_iconst (v := 1) C dX11_takeTables_8 (by decide) ?_
  refine pf_Model_inStream C (by decide) bw_955 dX11_takeTables_9 ?_
  refine ww_nm (fun S36 e_S36 => ?_)
  replace h := h S36 e_S36
  have hT_S36 : S36.2.2.1 = T0 := by rw [e_S36]; exact hT_S35
  refine ww_iconst (v := 0) C dX11_takeTables_12 (by decide) ?_
  refine ww_istore_n (lv2 := [(2, .int 0), (1, .int 0), (0, .ref (gad g 158))]) C dX11_takeTables_13 rfl (Nat.le_of_ble_eq_true rfl) rfl ?_
  exact ww_sub [2, 1, 0] rfl (h hT_S36))
abbrev rm_X11_swap : Room := { frames := 0, cells := 0, slots := 0, locals := 0 }
theorem ok_X11_swap : SOK yX11_swap cX11_swap 4 none 3 := ⟨bw_1256, bw_69, bw_1257, by decide +kernel⟩
def wp_X11_swap (S : St) (a1 : Nat) (a2 : Nat) (k : Int32) (P : St → Prop) : Prop :=
  (vp_in k (gw_ml a1) ∧ ∀ x4 : Int32, x4 = S.2.1 (10 + a1) k.toNatClampNeg → (vp_in k (gw_ml a2) ∧ (vp_in k (gw_ml a1) ∧ ∀ S5 : St, S5 = stM S (10 + a1) k.toNatClampNeg (S.2.1 (10 + a2) k.toNatClampNeg) → (vp_in k (gw_ml a2) ∧ ∀ S6 : St, S6 = stM S5 (10 + a2) k.toNatClampNeg x4 → P S6))))
set_option maxHeartbeats 4000000 in
set_option maxRecDepth 100000 in
theorem run_X11_swap {l : Launch} {g : Gx} {S : St} {a1 : Nat} {a2 : Nat} {k : Int32} {P : St → Prop} (ha1 : a1 < 24) (h51 : a1 ≠ 5) (ha2 : a2 < 24) (h52 : a2 ≠ 5) (h : rowsLe S → wp_X11_swap S a1 a2 k P) : CMv g l yX11_swap cX11_swap 4 none rm_X11_swap [.ref (gad g (159 + a1)), .ref (gad g (159 + a2)), .int k] S P := cm_entry (own := RX11) (plainFor_of_name (by decide)) rfl (Nat.le_of_ble_eq_true rfl) rfl (fun hle f hf C hrt => by
  subst hf
  replace h := h hle
  obtain ⟨T0, hT⟩ : ∃ T, S.2.2.1 = T := ⟨_, rfl⟩
  rw [hT]
  unfold wp_X11_swap at h
  refine ww_aload_n C dX11_swap_0 0 rfl ?_
  refine ww_iload_n C dX11_swap_1 2 rfl ?_
  refine ia_m (a := a1) C ha1 h51 h.1 dX11_swap_2 ?_
  replace h := h.2
  refine ww_topi (fun x4 e_x4 => ?_)
  replace h := h x4 e_x4
  refine ww_istore_n (lv2 := [(3, .int x4), (0, .ref (gad g (159 + a1))), (1, .ref (gad g (159 + a2))), (2, .int k)]) C dX11_swap_3 rfl (Nat.le_of_ble_eq_true rfl) rfl ?_
  refine ww_aload_n C dX11_swap_4 1 rfl ?_
  refine ww_iload_n C dX11_swap_5 3 rfl ?_
  refine ww_aload_n C dX11_swap_6 2 rfl ?_
  refine ww_iload_n C dX11_swap_7 3 rfl ?_
  refine ia_m (a := a2) C ha2 h52 h.1 dX11_swap_8 ?_
  replace h := h.2
  refine is_m (a := a1) C ha1 h51 h.1 dX11_swap_9 ?_
  replace h := h.2
  refine ww_nm (fun S5 e_S5 => ?_)
  replace h := h S5 e_S5
  have hT_S5 : S5.2.2.1 = T0 := by rw [e_S5]; exact hT
  refine ww_aload_n C dX11_swap_10 2 rfl ?_
  refine ww_iload_n C dX11_swap_11 3 rfl ?_
  refine ww_iload_n C dX11_swap_12 0 rfl ?_
  refine is_m (a := a2) C ha2 h52 h.1 dX11_swap_13 ?_
  replace h := h.2
  refine ww_nm (fun S6 e_S6 => ?_)
  replace h := h S6 e_S6
  have hT_S6 : S6.2.2.1 = T0 := by rw [e_S6]; exact hT_S5
  exact ww_vret C hrt dX11_swap_14 hT_S6 h)
abbrev rm_X11_exchange : Room := { frames := 1, cells := 0, slots := 0, locals := 23 }
theorem ok_X11_exchange : MOK yX11_exchange RX11 cX11_exchange 4 none 0 := ⟨bw_1253, bw_57, bw_69, bw_1254, by decide +kernel⟩
def st_X11_exchange_20  (P : St → Prop) (X20 : St → Int32 → Prop) (X70 : St → Int32 → Prop) (X141 : St → Int32 → Int32 → Int32 → Int32 → Prop) (X158 : St → Int32 → Int32 → Int32 → Prop) (X167 : St → Int32 → Prop) (X193 : St → Int32 → Prop) (S : St) (v2 : Int32) : Prop :=
  ((6 ≤ v2 → X70 S 0) ∧ (¬ 6 ≤ v2 → wp_X11_swap S 0 9 v2 (fun S34 => wp_X11_swap S34 1 10 v2 (fun S36 => wp_X11_swap S36 2 11 v2 (fun S38 => ∀ x40 : Int32, x40 = v2 + 1 → X20 S38 x40)))))
def st_X11_exchange_70  (P : St → Prop) (X20 : St → Int32 → Prop) (X70 : St → Int32 → Prop) (X141 : St → Int32 → Int32 → Int32 → Int32 → Prop) (X158 : St → Int32 → Int32 → Int32 → Prop) (X167 : St → Int32 → Prop) (X193 : St → Int32 → Prop) (S : St) (v2 : Int32) : Prop :=
  ((96 ≤ v2 → X167 S 0) ∧ (¬ 96 ≤ v2 → wp_X11_swap S 3 12 v2 (fun S42 => wp_X11_swap S42 4 13 v2 (fun S44 => wp_X11_swap S44 6 15 v2 (fun S46 => (vp_in v2 (gw_ml 5) ∧ ∀ x48 : Int32, x48 = S46.2.1 15 v2.toNatClampNeg → (vp_in v2 (gw_ml 14) ∧ ((128 ≤ (S46.2.1 24 v2.toNatClampNeg) → X141 S46 v2 x48 0 v2) ∧ (¬ 128 ≤ (S46.2.1 24 v2.toNatClampNeg) → X141 S46 v2 x48 1 v2)))))))))
def st_X11_exchange_141  (P : St → Prop) (X20 : St → Int32 → Prop) (X70 : St → Int32 → Prop) (X141 : St → Int32 → Int32 → Int32 → Int32 → Prop) (X158 : St → Int32 → Int32 → Int32 → Prop) (X167 : St → Int32 → Prop) (X193 : St → Int32 → Prop) (S : St) (v2 : Int32) (v3 : Int32) (s0 : Int32) (s1 : Int32) : Prop :=
  (vp_in s1 (gw_ml 5) ∧ ((s0 = 0 ∨ s0 = 1) ∧ ∀ S50 : St, S50 = stM S 15 s1.toNatClampNeg s0 → ((v3 = 0 → X158 S50 v2 128 v2) ∧ (¬ v3 = 0 → X158 S50 v2 0 v2))))
def st_X11_exchange_158  (P : St → Prop) (X20 : St → Int32 → Prop) (X70 : St → Int32 → Prop) (X141 : St → Int32 → Int32 → Int32 → Int32 → Prop) (X158 : St → Int32 → Int32 → Int32 → Prop) (X167 : St → Int32 → Prop) (X193 : St → Int32 → Prop) (S : St) (v2 : Int32) (s0 : Int32) (s1 : Int32) : Prop :=
  (vp_in s1 (gw_ml 14) ∧ ∀ S52 : St, S52 = stM S 24 s1.toNatClampNeg s0 → ∀ x53 : Int32, x53 = v2 + 1 → X70 S52 x53)
def st_X11_exchange_167  (P : St → Prop) (X20 : St → Int32 → Prop) (X70 : St → Int32 → Prop) (X141 : St → Int32 → Int32 → Int32 → Int32 → Prop) (X158 : St → Int32 → Int32 → Int32 → Prop) (X167 : St → Int32 → Prop) (X193 : St → Int32 → Prop) (S : St) (v2 : Int32) : Prop :=
  ((7 ≤ v2 → X193 S 0) ∧ (¬ 7 ≤ v2 → wp_X11_swap S 7 17 v2 (fun S55 => ∀ x57 : Int32, x57 = v2 + 1 → X167 S55 x57)))
def st_X11_exchange_193  (P : St → Prop) (X20 : St → Int32 → Prop) (X70 : St → Int32 → Prop) (X141 : St → Int32 → Int32 → Int32 → Int32 → Prop) (X158 : St → Int32 → Int32 → Int32 → Prop) (X167 : St → Int32 → Prop) (X193 : St → Int32 → Prop) (S : St) (v2 : Int32) : Prop :=
  ((140 ≤ v2 → P S) ∧ (¬ 140 ≤ v2 → wp_X11_swap S 8 18 v2 (fun S59 => ∀ x61 : Int32, x61 = v2 + 1 → X193 S59 x61)))
def at_X11_exchange_20 (f : Fx) (g : Gx) (T0 : List (Nat × Nat × Nat))  (P : St → Prop) (S : St) (v2 : Int32) : Prop := S.2.2.1 = T0 → WW f rm_X11_exchange g 4 0 0 (Qv f g 0 0 T0 P) S 20 [(0, .ref (gad g 158)), (2, .int v2)] []
def at_X11_exchange_70 (f : Fx) (g : Gx) (T0 : List (Nat × Nat × Nat))  (P : St → Prop) (S : St) (v2 : Int32) : Prop := S.2.2.1 = T0 → WW f rm_X11_exchange g 4 0 0 (Qv f g 0 0 T0 P) S 70 [(0, .ref (gad g 158)), (2, .int v2)] []
def at_X11_exchange_141 (f : Fx) (g : Gx) (T0 : List (Nat × Nat × Nat))  (P : St → Prop) (S : St) (v2 : Int32) (v3 : Int32) (s0 : Int32) (s1 : Int32) : Prop := S.2.2.1 = T0 → WW f rm_X11_exchange g 4 0 0 (Qv f g 0 0 T0 P) S 141 [(0, .ref (gad g 158)), (2, .int v2), (3, .int v3)] [.int s0, .int s1, .ref (gad g 164)]
def at_X11_exchange_158 (f : Fx) (g : Gx) (T0 : List (Nat × Nat × Nat))  (P : St → Prop) (S : St) (v2 : Int32) (s0 : Int32) (s1 : Int32) : Prop := S.2.2.1 = T0 → WW f rm_X11_exchange g 4 0 0 (Qv f g 0 0 T0 P) S 158 [(0, .ref (gad g 158)), (2, .int v2)] [.int s0, .int s1, .ref (gad g 173)]
def at_X11_exchange_167 (f : Fx) (g : Gx) (T0 : List (Nat × Nat × Nat))  (P : St → Prop) (S : St) (v2 : Int32) : Prop := S.2.2.1 = T0 → WW f rm_X11_exchange g 4 0 0 (Qv f g 0 0 T0 P) S 167 [(0, .ref (gad g 158)), (2, .int v2)] []
def at_X11_exchange_193 (f : Fx) (g : Gx) (T0 : List (Nat × Nat × Nat))  (P : St → Prop) (S : St) (v2 : Int32) : Prop := S.2.2.1 = T0 → WW f rm_X11_exchange g 4 0 0 (Qv f g 0 0 T0 P) S 193 [(0, .ref (gad g 158)), (2, .int v2)] []
set_option maxHeartbeats 4000000 in
set_option maxRecDepth 100000 in
theorem run_X11_exchange_20 {f : Fx} {g : Gx} {T0 : List (Nat × Nat × Nat)} {S : St}  {P : St → Prop} (C : Cx f g cX11_exchange 4 RX11) (hrt : (fmeth f).sig.returnType = none)  {v2 : Int32} (h : st_X11_exchange_20  P (at_X11_exchange_20 f g T0  P) (at_X11_exchange_70 f g T0  P) (at_X11_exchange_141 f g T0  P) (at_X11_exchange_158 f g T0  P) (at_X11_exchange_167 f g T0  P) (at_X11_exchange_193 f g T0  P) S v2) : at_X11_exchange_20 f g T0  P S v2 := by
  intro hT 
  unfold st_X11_exchange_20 at h
  refine ww_iload_n C dX11_exchange_20 1 rfl ?_
  refine ww_bipush (v := 6) C dX11_exchange_21 (by decide) ?_
  refine ww_icmp_ge (tgt := 68) C dX11_exchange_23 (by decide) (fun q33 => ?_) (fun q33 => ?_)
  · replace h := h.1 q33
    refine ww_iconst (v := 0) C dX11_exchange_68 (by decide) ?_
    refine ww_istore_n (lv2 := [(2, .int 0), (0, .ref (gad g 158))]) C dX11_exchange_69 rfl (Nat.le_of_ble_eq_true rfl) rfl ?_
    exact ww_sub [1, 0] rfl (h hT)
  · replace h := h.2 q33
    refine ww_aload_n C dX11_exchange_26 0 rfl ?_
    refine gf_Model_advance C bw_925 dX11_exchange_27 ?_
    refine ww_aload_n C dX11_exchange_30 0 rfl ?_
    refine gf_Model_newAdvance C bw_935 dX11_exchange_31 ?_
    refine ww_iload_n C dX11_exchange_34 1 rfl ?_
    refine ww_cSv (As := [.ref (gad g 159), .ref (gad g 168), .int v2]) (rest := []) C ok_X11_swap bw_1255 dX11_exchange_35 (run_X11_swap (by decide) (by decide) (by decide) (by decide) (fun _ => h)) rfl ⟨Nat.le_of_ble_eq_true rfl, Nat.le_of_ble_eq_true rfl⟩ (Nat.le_of_ble_eq_true rfl) (c2 := 0) (s2 := 0) rfl rfl ⟨Nat.le_of_ble_eq_true rfl, Nat.le_of_ble_eq_true rfl⟩ rfl (fun S34 hp hTg => ?_)
    replace h := hp
    have hT_S34 : S34.2.2.1 = T0 := by rw [hTg]; exact hT
    refine ww_aload_n C dX11_exchange_38 0 rfl ?_
    refine gf_Model_contours C bw_926 dX11_exchange_39 ?_
    refine ww_aload_n C dX11_exchange_42 0 rfl ?_
    refine gf_Model_newContours C bw_936 dX11_exchange_43 ?_
    refine ww_iload_n C dX11_exchange_46 1 rfl ?_
    refine ww_cSv (As := [.ref (gad g 160), .ref (gad g 169), .int v2]) (rest := []) C ok_X11_swap bw_1255 dX11_exchange_47 (run_X11_swap (by decide) (by decide) (by decide) (by decide) (fun _ => h)) rfl ⟨Nat.le_of_ble_eq_true rfl, Nat.le_of_ble_eq_true rfl⟩ (Nat.le_of_ble_eq_true rfl) (c2 := 0) (s2 := 0) rfl rfl ⟨Nat.le_of_ble_eq_true rfl, Nat.le_of_ble_eq_true rfl⟩ rfl (fun S36 hp hTg => ?_)
    replace h := hp
    have hT_S36 : S36.2.2.1 = T0 := by rw [hTg]; exact hT_S34
    refine ww_aload_n C dX11_exchange_50 0 rfl ?_
    refine gf_Model_points C bw_927 dX11_exchange_51 ?_
    refine ww_aload_n C dX11_exchange_54 0 rfl ?_
    refine gf_Model_newPoints C bw_937 dX11_exchange_55 ?_
    refine ww_iload_n C dX11_exchange_58 1 rfl ?_
    refine ww_cSv (As := [.ref (gad g 161), .ref (gad g 170), .int v2]) (rest := []) C ok_X11_swap bw_1255 dX11_exchange_59 (run_X11_swap (by decide) (by decide) (by decide) (by decide) (fun _ => h)) rfl ⟨Nat.le_of_ble_eq_true rfl, Nat.le_of_ble_eq_true rfl⟩ (Nat.le_of_ble_eq_true rfl) (c2 := 0) (s2 := 0) rfl rfl ⟨Nat.le_of_ble_eq_true rfl, Nat.le_of_ble_eq_true rfl⟩ rfl (fun S38 hp hTg => ?_)
    replace h := hp
    have hT_S38 : S38.2.2.1 = T0 := by rw [hTg]; exact hT_S36
    obtain ⟨x40, e_x40⟩ : ∃ z : Int32, z = v2 + 1 := ⟨_, rfl⟩
    replace h := h x40 e_x40
    refine ww_iinc (v := x40) (lv2 := [(2, .int x40), (0, .ref (gad g 158))]) C dX11_exchange_62 1 rfl (by rw [e_x40]; rfl) (Nat.le_of_ble_eq_true rfl) rfl ?_
    refine ww_goto (tgt := 20) C dX11_exchange_65 (by decide) ?_
    exact ww_sub [1, 0] rfl (h hT_S38)
set_option maxHeartbeats 4000000 in
set_option maxRecDepth 100000 in
theorem run_X11_exchange_70 {f : Fx} {g : Gx} {T0 : List (Nat × Nat × Nat)} {S : St}  {P : St → Prop} (C : Cx f g cX11_exchange 4 RX11) (hrt : (fmeth f).sig.returnType = none)  {v2 : Int32} (h : st_X11_exchange_70  P (at_X11_exchange_20 f g T0  P) (at_X11_exchange_70 f g T0  P) (at_X11_exchange_141 f g T0  P) (at_X11_exchange_158 f g T0  P) (at_X11_exchange_167 f g T0  P) (at_X11_exchange_193 f g T0  P) S v2) : at_X11_exchange_70 f g T0  P S v2 := by
  intro hT 
  unfold st_X11_exchange_70 at h
  refine ww_iload_n C dX11_exchange_70 1 rfl ?_
  refine ww_bipush (v := 96) C dX11_exchange_71 (by decide) ?_
  refine ww_icmp_ge (tgt := 165) C dX11_exchange_73 (by decide) (fun q41 => ?_) (fun q41 => ?_)
  · replace h := h.1 q41
    refine ww_iconst (v := 0) C dX11_exchange_165 (by decide) ?_
    refine ww_istore_n (lv2 := [(2, .int 0), (0, .ref (gad g 158))]) C dX11_exchange_166 rfl (Nat.le_of_ble_eq_true rfl) rfl ?_
    exact ww_sub [1, 0] rfl (h hT)
  · replace h := h.2 q41
    refine ww_aload_n C dX11_exchange_76 0 rfl ?_
    refine gf_Model_px C bw_928 dX11_exchange_77 ?_
    refine ww_aload_n C dX11_exchange_80 0 rfl ?_
    refine gf_Model_newX C bw_938 dX11_exchange_81 ?_
    refine ww_iload_n C dX11_exchange_84 1 rfl ?_
    refine ww_cSv (As := [.ref (gad g 162), .ref (gad g 171), .int v2]) (rest := []) C ok_X11_swap bw_1255 dX11_exchange_85 (run_X11_swap (by decide) (by decide) (by decide) (by decide) (fun _ => h)) rfl ⟨Nat.le_of_ble_eq_true rfl, Nat.le_of_ble_eq_true rfl⟩ (Nat.le_of_ble_eq_true rfl) (c2 := 0) (s2 := 0) rfl rfl ⟨Nat.le_of_ble_eq_true rfl, Nat.le_of_ble_eq_true rfl⟩ rfl (fun S42 hp hTg => ?_)
    replace h := hp
    have hT_S42 : S42.2.2.1 = T0 := by rw [hTg]; exact hT
    refine ww_aload_n C dX11_exchange_88 0 rfl ?_
    refine gf_Model_py C bw_929 dX11_exchange_89 ?_
    refine ww_aload_n C dX11_exchange_92 0 rfl ?_
    refine gf_Model_newY C bw_939 dX11_exchange_93 ?_
    refine ww_iload_n C dX11_exchange_96 1 rfl ?_
    refine ww_cSv (As := [.ref (gad g 163), .ref (gad g 172), .int v2]) (rest := []) C ok_X11_swap bw_1255 dX11_exchange_97 (run_X11_swap (by decide) (by decide) (by decide) (by decide) (fun _ => h)) rfl ⟨Nat.le_of_ble_eq_true rfl, Nat.le_of_ble_eq_true rfl⟩ (Nat.le_of_ble_eq_true rfl) (c2 := 0) (s2 := 0) rfl rfl ⟨Nat.le_of_ble_eq_true rfl, Nat.le_of_ble_eq_true rfl⟩ rfl (fun S44 hp hTg => ?_)
    replace h := hp
    have hT_S44 : S44.2.2.1 = T0 := by rw [hTg]; exact hT_S42
    refine ww_aload_n C dX11_exchange_100 0 rfl ?_
    refine gf_Model_contourOf C bw_931 dX11_exchange_101 ?_
    refine ww_aload_n C dX11_exchange_104 0 rfl ?_
    refine gf_Model_newContourOf C bw_941 dX11_exchange_105 ?_
    refine ww_iload_n C dX11_exchange_108 1 rfl ?_
    refine ww_cSv (As := [.ref (gad g 165), .ref (gad g 174), .int v2]) (rest := []) C ok_X11_swap bw_1255 dX11_exchange_109 (run_X11_swap (by decide) (by decide) (by decide) (by decide) (fun _ => h)) rfl ⟨Nat.le_of_ble_eq_true rfl, Nat.le_of_ble_eq_true rfl⟩ (Nat.le_of_ble_eq_true rfl) (c2 := 0) (s2 := 0) rfl rfl ⟨Nat.le_of_ble_eq_true rfl, Nat.le_of_ble_eq_true rfl⟩ rfl (fun S46 hp hTg => ?_)
    replace h := hp
    have hT_S46 : S46.2.2.1 = T0 := by rw [hTg]; exact hT_S44
    refine ww_aload_n C dX11_exchange_112 0 rfl ?_
    refine gf_Model_on C bw_930 dX11_exchange_113 ?_
    refine ww_iload_n C dX11_exchange_116 1 rfl ?_
    refine ia_on C h.1 dX11_exchange_117 ?_
    replace h := h.2
    refine ww_topi (fun x48 e_x48 => ?_)
    replace h := h x48 e_x48
    refine ww_istore_n (lv2 := [(3, .int x48), (0, .ref (gad g 158)), (2, .int v2)]) C dX11_exchange_118 rfl (Nat.le_of_ble_eq_true rfl) rfl ?_
    refine ww_aload_n C dX11_exchange_119 1 rfl ?_
    refine gf_Model_on C bw_930 dX11_exchange_120 ?_
    refine ww_iload_n C dX11_exchange_123 2 rfl ?_
    refine ww_aload_n C dX11_exchange_124 1 rfl ?_
    refine gf_Model_sign C bw_940 dX11_exchange_125 ?_
    refine ww_iload_n C dX11_exchange_128 2 rfl ?_
    refine ia_m (a := 14) C (by decide) (by decide) h.1 dX11_exchange_129 ?_
    replace h := h.2
    refine ww_sipush (v := 128) C dX11_exchange_130 (by decide) ?_
    refine ww_icmp_ge (tgt := 140) C dX11_exchange_133 (by decide) (fun q49 => ?_) (fun q49 => ?_)
    · replace h := h.1 q49
      refine ww_iconst (v := 0) C dX11_exchange_140 (by decide) ?_
      exact ww_sub [1, 2, 0] rfl (h hT_S46)
    · replace h := h.2 q49
      refine ww_iconst (v := 1) C dX11_exchange_136 (by decide) ?_
      refine ww_goto (tgt := 141) C dX11_exchange_137 (by decide) ?_
      exact ww_sub [1, 2, 0] rfl (h hT_S46)
set_option maxHeartbeats 4000000 in
set_option maxRecDepth 100000 in
theorem run_X11_exchange_141 {f : Fx} {g : Gx} {T0 : List (Nat × Nat × Nat)} {S : St}  {P : St → Prop} (C : Cx f g cX11_exchange 4 RX11) (hrt : (fmeth f).sig.returnType = none)  {v2 : Int32} {v3 : Int32} {s0 : Int32} {s1 : Int32} (h : st_X11_exchange_141  P (at_X11_exchange_20 f g T0  P) (at_X11_exchange_70 f g T0  P) (at_X11_exchange_141 f g T0  P) (at_X11_exchange_158 f g T0  P) (at_X11_exchange_167 f g T0  P) (at_X11_exchange_193 f g T0  P) S v2 v3 s0 s1) : at_X11_exchange_141 f g T0  P S v2 v3 s0 s1 := by
  intro hT 
  unfold st_X11_exchange_141 at h
  refine is_on C h.1 h.2.1 dX11_exchange_141 ?_
  replace h := h.2.2
  refine ww_nm (fun S50 e_S50 => ?_)
  replace h := h S50 e_S50
  have hT_S50 : S50.2.2.1 = T0 := by rw [e_S50]; exact hT
  refine ww_aload_n C dX11_exchange_142 0 rfl ?_
  refine gf_Model_sign C bw_940 dX11_exchange_143 ?_
  refine ww_iload_n C dX11_exchange_146 1 rfl ?_
  refine ww_iload_n C dX11_exchange_147 2 rfl ?_
  refine ww_if_eq (tgt := 155) C dX11_exchange_148 (by decide) (fun q51 => ?_) (fun q51 => ?_)
  · replace h := h.1 q51
    refine ww_sipush (v := 128) C dX11_exchange_155 (by decide) ?_
    exact ww_sub [0, 1] rfl (h hT_S50)
  · replace h := h.2 q51
    refine ww_iconst (v := 0) C dX11_exchange_151 (by decide) ?_
    refine ww_goto (tgt := 158) C dX11_exchange_152 (by decide) ?_
    exact ww_sub [0, 1] rfl (h hT_S50)
set_option maxHeartbeats 4000000 in
set_option maxRecDepth 100000 in
theorem run_X11_exchange_158 {f : Fx} {g : Gx} {T0 : List (Nat × Nat × Nat)} {S : St}  {P : St → Prop} (C : Cx f g cX11_exchange 4 RX11) (hrt : (fmeth f).sig.returnType = none)  {v2 : Int32} {s0 : Int32} {s1 : Int32} (h : st_X11_exchange_158  P (at_X11_exchange_20 f g T0  P) (at_X11_exchange_70 f g T0  P) (at_X11_exchange_141 f g T0  P) (at_X11_exchange_158 f g T0  P) (at_X11_exchange_167 f g T0  P) (at_X11_exchange_193 f g T0  P) S v2 s0 s1) : at_X11_exchange_158 f g T0  P S v2 s0 s1 := by
  intro hT 
  unfold st_X11_exchange_158 at h
  refine is_m (a := 14) C (by decide) (by decide) h.1 dX11_exchange_158 ?_
  replace h := h.2
  refine ww_nm (fun S52 e_S52 => ?_)
  replace h := h S52 e_S52
  have hT_S52 : S52.2.2.1 = T0 := by rw [e_S52]; exact hT
  obtain ⟨x53, e_x53⟩ : ∃ z : Int32, z = v2 + 1 := ⟨_, rfl⟩
  replace h := h x53 e_x53
  refine ww_iinc (v := x53) (lv2 := [(2, .int x53), (0, .ref (gad g 158))]) C dX11_exchange_159 1 rfl (by rw [e_x53]; rfl) (Nat.le_of_ble_eq_true rfl) rfl ?_
  refine ww_goto (tgt := 70) C dX11_exchange_162 (by decide) ?_
  exact ww_sub [1, 0] rfl (h hT_S52)
set_option maxHeartbeats 4000000 in
set_option maxRecDepth 100000 in
theorem run_X11_exchange_167 {f : Fx} {g : Gx} {T0 : List (Nat × Nat × Nat)} {S : St}  {P : St → Prop} (C : Cx f g cX11_exchange 4 RX11) (hrt : (fmeth f).sig.returnType = none)  {v2 : Int32} (h : st_X11_exchange_167  P (at_X11_exchange_20 f g T0  P) (at_X11_exchange_70 f g T0  P) (at_X11_exchange_141 f g T0  P) (at_X11_exchange_158 f g T0  P) (at_X11_exchange_167 f g T0  P) (at_X11_exchange_193 f g T0  P) S v2) : at_X11_exchange_167 f g T0  P S v2 := by
  intro hT 
  unfold st_X11_exchange_167 at h
  refine ww_iload_n C dX11_exchange_167 1 rfl ?_
  refine ww_bipush (v := 7) C dX11_exchange_168 (by decide) ?_
  refine ww_icmp_ge (tgt := 191) C dX11_exchange_170 (by decide) (fun q54 => ?_) (fun q54 => ?_)
  · replace h := h.1 q54
    refine ww_iconst (v := 0) C dX11_exchange_191 (by decide) ?_
    refine ww_istore_n (lv2 := [(2, .int 0), (0, .ref (gad g 158))]) C dX11_exchange_192 rfl (Nat.le_of_ble_eq_true rfl) rfl ?_
    exact ww_sub [1, 0] rfl (h hT)
  · replace h := h.2 q54
    refine ww_aload_n C dX11_exchange_173 0 rfl ?_
    refine gf_Model_rowSize C bw_932 dX11_exchange_174 ?_
    refine ww_aload_n C dX11_exchange_177 0 rfl ?_
    refine gf_Model_newRowSize C bw_943 dX11_exchange_178 ?_
    refine ww_iload_n C dX11_exchange_181 1 rfl ?_
    refine ww_cSv (As := [.ref (gad g 166), .ref (gad g 176), .int v2]) (rest := []) C ok_X11_swap bw_1255 dX11_exchange_182 (run_X11_swap (by decide) (by decide) (by decide) (by decide) (fun _ => h)) rfl ⟨Nat.le_of_ble_eq_true rfl, Nat.le_of_ble_eq_true rfl⟩ (Nat.le_of_ble_eq_true rfl) (c2 := 0) (s2 := 0) rfl rfl ⟨Nat.le_of_ble_eq_true rfl, Nat.le_of_ble_eq_true rfl⟩ rfl (fun S55 hp hTg => ?_)
    replace h := hp
    have hT_S55 : S55.2.2.1 = T0 := by rw [hTg]; exact hT
    obtain ⟨x57, e_x57⟩ : ∃ z : Int32, z = v2 + 1 := ⟨_, rfl⟩
    replace h := h x57 e_x57
    refine ww_iinc (v := x57) (lv2 := [(2, .int x57), (0, .ref (gad g 158))]) C dX11_exchange_185 1 rfl (by rw [e_x57]; rfl) (Nat.le_of_ble_eq_true rfl) rfl ?_
    refine ww_goto (tgt := 167) C dX11_exchange_188 (by decide) ?_
    exact ww_sub [1, 0] rfl (h hT_S55)
set_option maxHeartbeats 4000000 in
set_option maxRecDepth 100000 in
theorem run_X11_exchange_193 {f : Fx} {g : Gx} {T0 : List (Nat × Nat × Nat)} {S : St}  {P : St → Prop} (C : Cx f g cX11_exchange 4 RX11) (hrt : (fmeth f).sig.returnType = none)  {v2 : Int32} (h : st_X11_exchange_193  P (at_X11_exchange_20 f g T0  P) (at_X11_exchange_70 f g T0  P) (at_X11_exchange_141 f g T0  P) (at_X11_exchange_158 f g T0  P) (at_X11_exchange_167 f g T0  P) (at_X11_exchange_193 f g T0  P) S v2) : at_X11_exchange_193 f g T0  P S v2 := by
  intro hT 
  unfold st_X11_exchange_193 at h
  refine ww_iload_n C dX11_exchange_193 1 rfl ?_
  refine ww_sipush (v := 140) C dX11_exchange_194 (by decide) ?_
  refine ww_icmp_ge (tgt := 218) C dX11_exchange_197 (by decide) (fun q58 => ?_) (fun q58 => ?_)
  · replace h := h.1 q58
    exact ww_vret C hrt dX11_exchange_218 hT h
  · replace h := h.2 q58
    refine ww_aload_n C dX11_exchange_200 0 rfl ?_
    refine gf_Model_row C bw_933 dX11_exchange_201 ?_
    refine ww_aload_n C dX11_exchange_204 0 rfl ?_
    refine gf_Model_newRow C bw_944 dX11_exchange_205 ?_
    refine ww_iload_n C dX11_exchange_208 1 rfl ?_
    refine ww_cSv (As := [.ref (gad g 167), .ref (gad g 177), .int v2]) (rest := []) C ok_X11_swap bw_1255 dX11_exchange_209 (run_X11_swap (by decide) (by decide) (by decide) (by decide) (fun _ => h)) rfl ⟨Nat.le_of_ble_eq_true rfl, Nat.le_of_ble_eq_true rfl⟩ (Nat.le_of_ble_eq_true rfl) (c2 := 0) (s2 := 0) rfl rfl ⟨Nat.le_of_ble_eq_true rfl, Nat.le_of_ble_eq_true rfl⟩ rfl (fun S59 hp hTg => ?_)
    replace h := hp
    have hT_S59 : S59.2.2.1 = T0 := by rw [hTg]; exact hT
    obtain ⟨x61, e_x61⟩ : ∃ z : Int32, z = v2 + 1 := ⟨_, rfl⟩
    replace h := h x61 e_x61
    refine ww_iinc (v := x61) (lv2 := [(2, .int x61), (0, .ref (gad g 158))]) C dX11_exchange_212 1 rfl (by rw [e_x61]; rfl) (Nat.le_of_ble_eq_true rfl) rfl ?_
    refine ww_goto (tgt := 193) C dX11_exchange_215 (by decide) ?_
    exact ww_sub [1, 0] rfl (h hT_S59)
def wp_X11_exchange (S : St)  (P : St → Prop) : Prop :=
  ∀ (X20 : St → Int32 → Prop) (X70 : St → Int32 → Prop) (X141 : St → Int32 → Int32 → Int32 → Int32 → Prop) (X158 : St → Int32 → Int32 → Int32 → Prop) (X167 : St → Int32 → Prop) (X193 : St → Int32 → Prop), (∀ S v2, st_X11_exchange_20  P X20 X70 X141 X158 X167 X193 S v2 → X20 S v2) → (∀ S v2, st_X11_exchange_70  P X20 X70 X141 X158 X167 X193 S v2 → X70 S v2) → (∀ S v2 v3 s0 s1, st_X11_exchange_141  P X20 X70 X141 X158 X167 X193 S v2 v3 s0 s1 → X141 S v2 v3 s0 s1) → (∀ S v2 s0 s1, st_X11_exchange_158  P X20 X70 X141 X158 X167 X193 S v2 s0 s1 → X158 S v2 s0 s1) → (∀ S v2, st_X11_exchange_167  P X20 X70 X141 X158 X167 X193 S v2 → X167 S v2) → (∀ S v2, st_X11_exchange_193  P X20 X70 X141 X158 X167 X193 S v2 → X193 S v2) → ∀ x62 : Int32, x62 = S.2.1 9 1 → ∀ S63 : St, S63 = stM S 9 1 (S.2.1 9 2) → ∀ S64 : St, S64 = stM S63 9 2 x62 → X20 S64 0
set_option maxHeartbeats 4000000 in
set_option maxRecDepth 100000 in
theorem run_X11_exchange {l : Launch} {g : Gx} {S : St}  {P : St → Prop}  (h : rowsLe S → wp_X11_exchange S  P) : CMv g l yX11_exchange cX11_exchange 4 none rm_X11_exchange [.ref (gad g 158)] S P := cm_entry (own := RX11) (plainFor_of_name (by decide)) rfl (Nat.le_of_ble_eq_true rfl) rfl (fun hle f hf C hrt => by
  subst hf
  replace h := h hle
  obtain ⟨T0, hT⟩ : ∃ T, S.2.2.1 = T := ⟨_, rfl⟩
  rw [hT]
  replace h := h (at_X11_exchange_20 f g T0  P) (at_X11_exchange_70 f g T0  P) (at_X11_exchange_141 f g T0  P) (at_X11_exchange_158 f g T0  P) (at_X11_exchange_167 f g T0  P) (at_X11_exchange_193 f g T0  P) (fun S v2 h => run_X11_exchange_20 C hrt  h) (fun S v2 h => run_X11_exchange_70 C hrt  h) (fun S v2 v3 s0 s1 h => run_X11_exchange_141 C hrt  h) (fun S v2 s0 s1 h => run_X11_exchange_158 C hrt  h) (fun S v2 h => run_X11_exchange_167 C hrt  h) (fun S v2 h => run_X11_exchange_193 C hrt  h)
  refine ww_aload_n C dX11_exchange_0 0 rfl ?_
  refine gf_Model_glyphs C bw_924 dX11_exchange_1 ?_
  refine ww_topi (fun x62 e_x62 => ?_)
  replace h := h x62 e_x62
  refine ww_istore_n (lv2 := [(1, .int x62), (0, .ref (gad g 158))]) C dX11_exchange_4 rfl (Nat.le_of_ble_eq_true rfl) rfl ?_
  refine ww_aload_n C dX11_exchange_5 1 rfl ?_
  refine ww_aload_n C dX11_exchange_6 1 rfl ?_
  refine gf_Model_newGlyphs C bw_934 dX11_exchange_7 ?_
  refine pf_Model_glyphs C bw_924 dX11_exchange_10 ?_
  refine ww_nm (fun S63 e_S63 => ?_)
  replace h := h S63 e_S63
  have hT_S63 : S63.2.2.1 = T0 := by rw [e_S63]; exact hT
  refine ww_aload_n C dX11_exchange_13 1 rfl ?_
  refine ww_iload_n C dX11_exchange_14 0 rfl ?_
  refine pf_Model_newGlyphs C bw_934 dX11_exchange_15 ?_
  refine ww_nm (fun S64 e_S64 => ?_)
  replace h := h S64 e_S64
  have hT_S64 : S64.2.2.1 = T0 := by rw [e_S64]; exact hT_S63
  refine ww_iconst (v := 0) C dX11_exchange_18 (by decide) ?_
  refine ww_istore_n (lv2 := [(2, .int 0), (1, .int x62), (0, .ref (gad g 158))]) C dX11_exchange_19 rfl (Nat.le_of_ble_eq_true rfl) rfl ?_
  exact ww_sub [2, 0] rfl (h hT_S64))
abbrev rm_X11_asLong : Room := { frames := 5, cells := 0, slots := 0, locals := 118 }
theorem ok_X11_asLong : MOK yX11_asLong RX11 cX11_asLong 3 (some .boolean) 0 := ⟨bw_1260, bw_58, bw_69, bw_1261, by decide +kernel⟩
def st_X11_asLong_4  (P : Int32 → St → Prop) (X4 : St → Int32 → Int32 → Prop) (X44 : St → Int32 → Prop) (X45 : St → Int32 → Int32 → Prop) (X46 : St → Int32 → Int32 → Prop) (S : St) (v1 : Int32) (v2 : Int32) : Prop :=
  ((2 ≤ v2 → ((v1 = 0 ∨ v1 = 1) ∧ P v1 S)) ∧ (¬ 2 ≤ v2 → (vp_in v2 (gw_ml 22) ∧ (((S.2.1 32 v2.toNatClampNeg) < 0 → X46 S v1 v2) ∧ (¬ (S.2.1 32 v2.toNatClampNeg) < 0 → wp_X11_layTable S v2 (fun S10 => ((v1 = 0 → X44 S10 v2) ∧ (¬ v1 = 0 → (vp_in v2 (gw_ml 22) ∧ ((¬ (S10.2.1 9 5) = (S10.2.1 32 v2.toNatClampNeg) → X44 S10 v2) ∧ ((S10.2.1 9 5) = (S10.2.1 32 v2.toNatClampNeg) → X45 S10 v2 1)))))))))))
def st_X11_asLong_44  (P : Int32 → St → Prop) (X4 : St → Int32 → Int32 → Prop) (X44 : St → Int32 → Prop) (X45 : St → Int32 → Int32 → Prop) (X46 : St → Int32 → Int32 → Prop) (S : St) (v2 : Int32) : Prop :=
  X45 S v2 0
def st_X11_asLong_45  (P : Int32 → St → Prop) (X4 : St → Int32 → Int32 → Prop) (X44 : St → Int32 → Prop) (X45 : St → Int32 → Int32 → Prop) (X46 : St → Int32 → Int32 → Prop) (S : St) (v2 : Int32) (s0 : Int32) : Prop :=
  X46 S s0 v2
def st_X11_asLong_46  (P : Int32 → St → Prop) (X4 : St → Int32 → Int32 → Prop) (X44 : St → Int32 → Prop) (X45 : St → Int32 → Int32 → Prop) (X46 : St → Int32 → Int32 → Prop) (S : St) (v1 : Int32) (v2 : Int32) : Prop :=
  ∀ x14 : Int32, x14 = v2 + 1 → X4 S v1 x14
def at_X11_asLong_4 (f : Fx) (g : Gx) (T0 : List (Nat × Nat × Nat))  (P : Int32 → St → Prop) (S : St) (v1 : Int32) (v2 : Int32) : Prop := S.2.2.1 = T0 → WW f rm_X11_asLong g 3 0 0 (Qi f g 0 0 T0 P) S 4 [(0, .ref (gad g 158)), (1, .int v1), (2, .int v2)] []
def at_X11_asLong_44 (f : Fx) (g : Gx) (T0 : List (Nat × Nat × Nat))  (P : Int32 → St → Prop) (S : St) (v2 : Int32) : Prop := S.2.2.1 = T0 → WW f rm_X11_asLong g 3 0 0 (Qi f g 0 0 T0 P) S 44 [(0, .ref (gad g 158)), (2, .int v2)] []
def at_X11_asLong_45 (f : Fx) (g : Gx) (T0 : List (Nat × Nat × Nat))  (P : Int32 → St → Prop) (S : St) (v2 : Int32) (s0 : Int32) : Prop := S.2.2.1 = T0 → WW f rm_X11_asLong g 3 0 0 (Qi f g 0 0 T0 P) S 45 [(0, .ref (gad g 158)), (2, .int v2)] [.int s0]
def at_X11_asLong_46 (f : Fx) (g : Gx) (T0 : List (Nat × Nat × Nat))  (P : Int32 → St → Prop) (S : St) (v1 : Int32) (v2 : Int32) : Prop := S.2.2.1 = T0 → WW f rm_X11_asLong g 3 0 0 (Qi f g 0 0 T0 P) S 46 [(0, .ref (gad g 158)), (1, .int v1), (2, .int v2)] []
set_option maxHeartbeats 4000000 in
set_option maxRecDepth 100000 in
theorem run_X11_asLong_4 {f : Fx} {g : Gx} {T0 : List (Nat × Nat × Nat)} {S : St}  {P : Int32 → St → Prop} (C : Cx f g cX11_asLong 3 RX11) (hrt : (fmeth f).sig.returnType = (some .boolean))  {v1 : Int32} {v2 : Int32} (h : st_X11_asLong_4  P (at_X11_asLong_4 f g T0  P) (at_X11_asLong_44 f g T0  P) (at_X11_asLong_45 f g T0  P) (at_X11_asLong_46 f g T0  P) S v1 v2) : at_X11_asLong_4 f g T0  P S v1 v2 := by
  intro hT 
  unfold st_X11_asLong_4 at h
  refine ww_iload_n C dX11_asLong_4 2 rfl ?_
  refine ww_iconst (v := 2) C dX11_asLong_5 (by decide) ?_
  refine ww_icmp_ge (tgt := 52) C dX11_asLong_6 (by decide) (fun q8 => ?_) (fun q8 => ?_)
  · replace h := h.1 q8
    refine ww_iload_n C dX11_asLong_52 1 rfl ?_
    exact ww_zret C hrt dX11_asLong_53 hT h.1 h.2
  · replace h := h.2 q8
    refine ww_aload_n C dX11_asLong_9 0 rfl ?_
    refine gf_Model_plainSize C bw_960 dX11_asLong_10 ?_
    refine ww_iload_n C dX11_asLong_13 2 rfl ?_
    refine ia_m (a := 22) C (by decide) (by decide) h.1 dX11_asLong_14 ?_
    replace h := h.2
    refine ww_if_lt (tgt := 46) C dX11_asLong_15 (by decide) (fun q9 => ?_) (fun q9 => ?_)
    · replace h := h.1 q9
      exact ww_sub [0, 1, 2] rfl (h hT)
    · replace h := h.2 q9
      refine ww_aload_n C dX11_asLong_18 0 rfl ?_
      refine ww_iload_n C dX11_asLong_19 2 rfl ?_
      refine ww_cVv (As := [.int v2]) (rest := []) C ok_X11_layTable bw_1124 dX11_asLong_20 (run_X11_layTable  (fun _ => h)) rc_Model rfl ⟨Nat.le_of_ble_eq_true rfl, Nat.le_of_ble_eq_true rfl⟩ (Nat.le_of_ble_eq_true rfl) (c2 := 0) (s2 := 0) rfl rfl ⟨Nat.le_of_ble_eq_true rfl, Nat.le_of_ble_eq_true rfl⟩ rfl (fun S10 hp hTg => ?_)
      replace h := hp
      have hT_S10 : S10.2.2.1 = T0 := by rw [hTg]; exact hT
      refine ww_iload_n C dX11_asLong_23 1 rfl ?_
      refine ww_if_eq (tgt := 44) C dX11_asLong_24 (by decide) (fun q12 => ?_) (fun q12 => ?_)
      · replace h := h.1 q12
        exact ww_sub [0, 2] rfl (h hT_S10)
      · replace h := h.2 q12
        refine ww_aload_n C dX11_asLong_27 0 rfl ?_
        refine gf_Model_parted C bw_949 dX11_asLong_28 ?_
        refine ww_aload_n C dX11_asLong_31 0 rfl ?_
        refine gf_Model_plainSize C bw_960 dX11_asLong_32 ?_
        refine ww_iload_n C dX11_asLong_35 2 rfl ?_
        refine ia_m (a := 22) C (by decide) (by decide) h.1 dX11_asLong_36 ?_
        replace h := h.2
        refine ww_icmp_ne (tgt := 44) C dX11_asLong_37 (by decide) (fun q13 => ?_) (fun q13 => ?_)
        · replace h := h.1 q13
          exact ww_sub [0, 2] rfl (h hT_S10)
        · replace h := h.2 q13
          refine ww_iconst (v := 1) C dX11_asLong_40 (by decide) ?_
          refine ww_goto (tgt := 45) C dX11_asLong_41 (by decide) ?_
          exact ww_sub [0, 2] rfl (h hT_S10)
set_option maxHeartbeats 4000000 in
set_option maxRecDepth 100000 in
theorem run_X11_asLong_44 {f : Fx} {g : Gx} {T0 : List (Nat × Nat × Nat)} {S : St}  {P : Int32 → St → Prop} (C : Cx f g cX11_asLong 3 RX11) (hrt : (fmeth f).sig.returnType = (some .boolean))  {v2 : Int32} (h : st_X11_asLong_44  P (at_X11_asLong_4 f g T0  P) (at_X11_asLong_44 f g T0  P) (at_X11_asLong_45 f g T0  P) (at_X11_asLong_46 f g T0  P) S v2) : at_X11_asLong_44 f g T0  P S v2 := by
  intro hT 
  unfold st_X11_asLong_44 at h
  refine ww_iconst (v := 0) C dX11_asLong_44 (by decide) ?_
  exact ww_sub [0, 1] rfl (h hT)
set_option maxHeartbeats 4000000 in
set_option maxRecDepth 100000 in
theorem run_X11_asLong_45 {f : Fx} {g : Gx} {T0 : List (Nat × Nat × Nat)} {S : St}  {P : Int32 → St → Prop} (C : Cx f g cX11_asLong 3 RX11) (hrt : (fmeth f).sig.returnType = (some .boolean))  {v2 : Int32} {s0 : Int32} (h : st_X11_asLong_45  P (at_X11_asLong_4 f g T0  P) (at_X11_asLong_44 f g T0  P) (at_X11_asLong_45 f g T0  P) (at_X11_asLong_46 f g T0  P) S v2 s0) : at_X11_asLong_45 f g T0  P S v2 s0 := by
  intro hT 
  unfold st_X11_asLong_45 at h
  refine ww_istore_n (lv2 := [(1, .int s0), (0, .ref (gad g 158)), (2, .int v2)]) C dX11_asLong_45 rfl (Nat.le_of_ble_eq_true rfl) rfl ?_
  exact ww_sub [1, 0, 2] rfl (h hT)
set_option maxHeartbeats 4000000 in
set_option maxRecDepth 100000 in
theorem run_X11_asLong_46 {f : Fx} {g : Gx} {T0 : List (Nat × Nat × Nat)} {S : St}  {P : Int32 → St → Prop} (C : Cx f g cX11_asLong 3 RX11) (hrt : (fmeth f).sig.returnType = (some .boolean))  {v1 : Int32} {v2 : Int32} (h : st_X11_asLong_46  P (at_X11_asLong_4 f g T0  P) (at_X11_asLong_44 f g T0  P) (at_X11_asLong_45 f g T0  P) (at_X11_asLong_46 f g T0  P) S v1 v2) : at_X11_asLong_46 f g T0  P S v1 v2 := by
  intro hT 
  unfold st_X11_asLong_46 at h
  obtain ⟨x14, e_x14⟩ : ∃ z : Int32, z = v2 + 1 := ⟨_, rfl⟩
  replace h := h x14 e_x14
  refine ww_iinc (v := x14) (lv2 := [(2, .int x14), (0, .ref (gad g 158)), (1, .int v1)]) C dX11_asLong_46 2 rfl (by rw [e_x14]; rfl) (Nat.le_of_ble_eq_true rfl) rfl ?_
  refine ww_goto (tgt := 4) C dX11_asLong_49 (by decide) ?_
  exact ww_sub [1, 2, 0] rfl (h hT)
def wp_X11_asLong (S : St)  (P : Int32 → St → Prop) : Prop :=
  ∀ (X4 : St → Int32 → Int32 → Prop) (X44 : St → Int32 → Prop) (X45 : St → Int32 → Int32 → Prop) (X46 : St → Int32 → Int32 → Prop), (∀ S v1 v2, st_X11_asLong_4  P X4 X44 X45 X46 S v1 v2 → X4 S v1 v2) → (∀ S v2, st_X11_asLong_44  P X4 X44 X45 X46 S v2 → X44 S v2) → (∀ S v2 s0, st_X11_asLong_45  P X4 X44 X45 X46 S v2 s0 → X45 S v2 s0) → (∀ S v1 v2, st_X11_asLong_46  P X4 X44 X45 X46 S v1 v2 → X46 S v1 v2) → X4 S 1 0
set_option maxHeartbeats 4000000 in
set_option maxRecDepth 100000 in
theorem run_X11_asLong {l : Launch} {g : Gx} {S : St}  {P : Int32 → St → Prop}  (h : rowsLe S → wp_X11_asLong S  P) : CMi g l yX11_asLong cX11_asLong 3 (some .boolean) rm_X11_asLong [.ref (gad g 158)] S P := cm_entry (own := RX11) (plainFor_of_name (by decide)) rfl (Nat.le_of_ble_eq_true rfl) rfl (fun hle f hf C hrt => by
  subst hf
  replace h := h hle
  obtain ⟨T0, hT⟩ : ∃ T, S.2.2.1 = T := ⟨_, rfl⟩
  rw [hT]
  replace h := h (at_X11_asLong_4 f g T0  P) (at_X11_asLong_44 f g T0  P) (at_X11_asLong_45 f g T0  P) (at_X11_asLong_46 f g T0  P) (fun S v1 v2 h => run_X11_asLong_4 C hrt  h) (fun S v2 h => run_X11_asLong_44 C hrt  h) (fun S v2 s0 h => run_X11_asLong_45 C hrt  h) (fun S v1 v2 h => run_X11_asLong_46 C hrt  h)
  refine ww_iconst (v := 1) C dX11_asLong_0 (by decide) ?_
  refine ww_istore_n (lv2 := [(1, .int 1), (0, .ref (gad g 158))]) C dX11_asLong_1 rfl (Nat.le_of_ble_eq_true rfl) rfl ?_
  refine ww_iconst (v := 0) C dX11_asLong_2 (by decide) ?_
  refine ww_istore_n (lv2 := [(2, .int 0), (1, .int 1), (0, .ref (gad g 158))]) C dX11_asLong_3 rfl (Nat.le_of_ble_eq_true rfl) rfl ?_
  exact ww_sub [2, 1, 0] rfl (h hT))
abbrev rm_X11_readStages : Room := { frames := 6, cells := 0, slots := 0, locals := 140 }
theorem ok_X11_readStages : MOK yX11_readStages RX11 cX11_readStages 2 (some .int) 0 := ⟨bw_1189, bw_41, bw_69, bw_1190, by decide +kernel⟩
def wp_X11_readStages (S : St)  (P : Int32 → St → Prop) : Prop :=
  ∀ S18 : St, S18 = stM S 9 11 0 → wp_X11_head S18 (fun r20 S19 => (((S19.2.1 9 11) = 0 → wp_X11_expand S19 r20 (fun S22 => (((S22.2.1 9 11) = 0 → wp_X11_takeTables S22 (fun S25 => (((S25.2.1 9 11) = 0 → wp_X11_exchange S25 (fun S28 => wp_X11_asLong S28 (fun r31 S30 => ((r31 = 0 → wp_X11_exchange S30 (fun S33 => P 4 S33)) ∧ (¬ r31 = 0 → P 0 S30))))) ∧ (¬ (S25.2.1 9 11) = 0 → P 3 S25)))) ∧ (¬ (S22.2.1 9 11) = 0 → P 2 S22)))) ∧ (¬ (S19.2.1 9 11) = 0 → P 1 S19)))
set_option maxHeartbeats 4000000 in
set_option maxRecDepth 100000 in
theorem run_X11_readStages {l : Launch} {g : Gx} {S : St}  {P : Int32 → St → Prop}  (h : rowsLe S → wp_X11_readStages S  P) : CMi g l yX11_readStages cX11_readStages 2 (some .int) rm_X11_readStages [.ref (gad g 158)] S P := cm_entry (own := RX11) (plainFor_of_name (by decide)) rfl (Nat.le_of_ble_eq_true rfl) rfl (fun hle f hf C hrt => by
  subst hf
  replace h := h hle
  obtain ⟨T0, hT⟩ : ∃ T, S.2.2.1 = T := ⟨_, rfl⟩
  rw [hT]
  unfold wp_X11_readStages at h
  refine ww_aload_n C dX11_readStages_0 0 rfl ?_
  refine ww_iconst (v := 0) C dX11_readStages_1 (by decide) ?_
  refine pf_Model_bad C (by decide) bw_956 dX11_readStages_2 ?_
  refine ww_nm (fun S18 e_S18 => ?_)
  replace h := h S18 e_S18
  have hT_S18 : S18.2.2.1 = T0 := by rw [e_S18]; exact hT
  refine ww_aload_n C dX11_readStages_5 0 rfl ?_
  refine ww_cVi (As := []) (rest := []) C ok_X11_head bw_1191 dX11_readStages_6 (run_X11_head  (fun _ => h)) rc_Model rfl ⟨Nat.le_of_ble_eq_true rfl, Nat.le_of_ble_eq_true rfl⟩ (Nat.le_of_ble_eq_true rfl) (c2 := 0) (s2 := 0) rfl rfl ⟨Nat.le_of_ble_eq_true rfl, Nat.le_of_ble_eq_true rfl⟩ rfl (fun r20 S19 hp hTg => ?_)
  replace h := hp
  have hT_S19 : S19.2.2.1 = T0 := by rw [hTg]; exact hT_S18
  refine ww_istore_n (lv2 := [(1, .int r20), (0, .ref (gad g 158))]) C dX11_readStages_9 rfl (Nat.le_of_ble_eq_true rfl) rfl ?_
  refine ww_aload_n C dX11_readStages_10 1 rfl ?_
  refine gf_Model_bad C bw_956 dX11_readStages_11 ?_
  refine ww_if_eq (tgt := 19) C dX11_readStages_14 (by decide) (fun q21 => ?_) (fun q21 => ?_)
  · replace h := h.1 q21
    refine ww_aload_n C dX11_readStages_19 1 rfl ?_
    refine ww_iload_n C dX11_readStages_20 0 rfl ?_
    refine ww_cVv (As := [.int r20]) (rest := []) C ok_X11_expand bw_1207 dX11_readStages_21 (run_X11_expand  (fun _ => h)) rc_Model rfl ⟨Nat.le_of_ble_eq_true rfl, Nat.le_of_ble_eq_true rfl⟩ (Nat.le_of_ble_eq_true rfl) (c2 := 0) (s2 := 0) rfl rfl ⟨Nat.le_of_ble_eq_true rfl, Nat.le_of_ble_eq_true rfl⟩ rfl (fun S22 hp hTg => ?_)
    replace h := hp
    have hT_S22 : S22.2.2.1 = T0 := by rw [hTg]; exact hT_S19
    refine ww_aload_n C dX11_readStages_24 1 rfl ?_
    refine gf_Model_bad C bw_956 dX11_readStages_25 ?_
    refine ww_if_eq (tgt := 33) C dX11_readStages_28 (by decide) (fun q24 => ?_) (fun q24 => ?_)
    · replace h := h.1 q24
      refine ww_aload_n C dX11_readStages_33 1 rfl ?_
      refine ww_cVv (As := []) (rest := []) C ok_X11_takeTables bw_1223 dX11_readStages_34 (run_X11_takeTables  (fun _ => h)) rc_Model rfl ⟨Nat.le_of_ble_eq_true rfl, Nat.le_of_ble_eq_true rfl⟩ (Nat.le_of_ble_eq_true rfl) (c2 := 0) (s2 := 0) rfl rfl ⟨Nat.le_of_ble_eq_true rfl, Nat.le_of_ble_eq_true rfl⟩ rfl (fun S25 hp hTg => ?_)
      replace h := hp
      have hT_S25 : S25.2.2.1 = T0 := by rw [hTg]; exact hT_S22
      refine ww_aload_n C dX11_readStages_37 1 rfl ?_
      refine gf_Model_bad C bw_956 dX11_readStages_38 ?_
      refine ww_if_eq (tgt := 46) C dX11_readStages_41 (by decide) (fun q27 => ?_) (fun q27 => ?_)
      · replace h := h.1 q27
        refine ww_aload_n C dX11_readStages_46 1 rfl ?_
        refine ww_cVv (As := []) (rest := []) C ok_X11_exchange bw_1251 dX11_readStages_47 (run_X11_exchange  (fun _ => h)) rc_Model rfl ⟨Nat.le_of_ble_eq_true rfl, Nat.le_of_ble_eq_true rfl⟩ (Nat.le_of_ble_eq_true rfl) (c2 := 0) (s2 := 0) rfl rfl ⟨Nat.le_of_ble_eq_true rfl, Nat.le_of_ble_eq_true rfl⟩ rfl (fun S28 hp hTg => ?_)
        replace h := hp
        have hT_S28 : S28.2.2.1 = T0 := by rw [hTg]; exact hT_S25
        refine ww_aload_n C dX11_readStages_50 1 rfl ?_
        refine ww_cVi (As := []) (rest := []) C ok_X11_asLong bw_1258 dX11_readStages_51 (run_X11_asLong  (fun _ => h)) rc_Model rfl ⟨Nat.le_of_ble_eq_true rfl, Nat.le_of_ble_eq_true rfl⟩ (Nat.le_of_ble_eq_true rfl) (c2 := 0) (s2 := 0) rfl rfl ⟨Nat.le_of_ble_eq_true rfl, Nat.le_of_ble_eq_true rfl⟩ rfl (fun r31 S30 hp hTg => ?_)
        replace h := hp
        have hT_S30 : S30.2.2.1 = T0 := by rw [hTg]; exact hT_S28
        refine ww_if_eq (tgt := 59) C dX11_readStages_54 (by decide) (fun q32 => ?_) (fun q32 => ?_)
        · replace h := h.1 q32
          refine ww_aload_n C dX11_readStages_59 1 rfl ?_
          refine ww_cVv (As := []) (rest := []) C ok_X11_exchange bw_1251 dX11_readStages_60 (run_X11_exchange  (fun _ => h)) rc_Model rfl ⟨Nat.le_of_ble_eq_true rfl, Nat.le_of_ble_eq_true rfl⟩ (Nat.le_of_ble_eq_true rfl) (c2 := 0) (s2 := 0) rfl rfl ⟨Nat.le_of_ble_eq_true rfl, Nat.le_of_ble_eq_true rfl⟩ rfl (fun S33 hp hTg => ?_)
          replace h := hp
          have hT_S33 : S33.2.2.1 = T0 := by rw [hTg]; exact hT_S30
          refine ww_iconst (v := 4) C dX11_readStages_63 (by decide) ?_
          exact ww_iret C hrt dX11_readStages_64 hT_S33 h
        · replace h := h.2 q32
          refine ww_iconst (v := 0) C dX11_readStages_57 (by decide) ?_
          exact ww_iret C hrt dX11_readStages_58 hT_S30 h
      · replace h := h.2 q27
        refine ww_iconst (v := 3) C dX11_readStages_44 (by decide) ?_
        exact ww_iret C hrt dX11_readStages_45 hT_S25 h
    · replace h := h.2 q24
      refine ww_iconst (v := 2) C dX11_readStages_31 (by decide) ?_
      exact ww_iret C hrt dX11_readStages_32 hT_S22 h
  · replace h := h.2 q21
    refine ww_iconst (v := 1) C dX11_readStages_17 (by decide) ?_
    exact ww_iret C hrt dX11_readStages_18 hT_S19 h)
abbrev rm_X11_read : Room := { frames := 7, cells := 0, slots := 0, locals := 161 }
theorem ok_X11_read : MOK yX11_read RX11 cX11_read 1 (some .int) 0 := ⟨bw_1184, bw_1185, bw_69, bw_1186, by decide +kernel⟩
def wp_X11_read_39  (S : St) (s0 : Int32) (P : Int32 → St → Prop) : Prop :=
  P s0 S
set_option maxHeartbeats 4000000 in
set_option maxRecDepth 100000 in
theorem run_X11_read_39 {f : Fx} {g : Gx} {T0 : List (Nat × Nat × Nat)} {S : St}  {P : Int32 → St → Prop} (C : Cx f g cX11_read 1 RX11) (hrt : (fmeth f).sig.returnType = (some .int))  {s0 : Int32} (hT : S.2.2.1 = T0)  (h : wp_X11_read_39  S s0 P) : WW f rm_X11_read g 1 0 0 (Qi f g 0 0 T0 P) S 39 [] [.int s0] := by
  unfold wp_X11_read_39 at h
  exact ww_iret C hrt dX11_read_39 hT h
def wp_X11_read_21  (S : St) (s0 : Int32) (P : Int32 → St → Prop) : Prop :=
  ∀ S9 : St, S9 = stM S 9 0 s0 → (((S9.2.1 9 0) ≤ 0 → wp_X11_tables S9 (fun r12 S11 => wp_X11_read_39  S11 r12 P)) ∧ (¬ (S9.2.1 9 0) ≤ 0 → wp_X11_read_39  S9 0 P))
set_option maxHeartbeats 4000000 in
set_option maxRecDepth 100000 in
theorem run_X11_read_21 {f : Fx} {g : Gx} {T0 : List (Nat × Nat × Nat)} {S : St}  {P : Int32 → St → Prop} (C : Cx f g cX11_read 1 RX11) (hrt : (fmeth f).sig.returnType = (some .int))  {s0 : Int32} (hT : S.2.2.1 = T0)  (h : wp_X11_read_21  S s0 P) : WW f rm_X11_read g 1 0 0 (Qi f g 0 0 T0 P) S 21 [(0, .ref (gad g 158))] [.int s0, .ref (gad g 158)] := by
  unfold wp_X11_read_21 at h
  refine pf_Model_thrown C bw_923 dX11_read_21 ?_
  refine ww_nm (fun S9 e_S9 => ?_)
  replace h := h S9 e_S9
  have hT_S9 : S9.2.2.1 = T0 := by rw [e_S9]; exact hT
  refine ww_aload_n C dX11_read_24 0 rfl ?_
  refine gf_Model_thrown C bw_923 dX11_read_25 ?_
  refine ww_if_le (tgt := 35) C dX11_read_28 (by decide) (fun q10 => ?_) (fun q10 => ?_)
  · replace h := h.1 q10
    refine ww_aload_n C dX11_read_35 0 rfl ?_
    refine ww_cVi (As := []) (rest := []) C ok_X11_tables bw_1085 dX11_read_36 (run_X11_tables  (fun _ => h)) rc_Model rfl ⟨Nat.le_of_ble_eq_true rfl, Nat.le_of_ble_eq_true rfl⟩ (Nat.le_of_ble_eq_true rfl) (c2 := 0) (s2 := 0) rfl rfl ⟨Nat.le_of_ble_eq_true rfl, Nat.le_of_ble_eq_true rfl⟩ rfl (fun r12 S11 hp hTg => ?_)
    replace h := hp
    have hT_S11 : S11.2.2.1 = T0 := by rw [hTg]; exact hT_S9
    exact ww_sub [] rfl (run_X11_read_39 C hrt  hT_S11  h)
  · replace h := h.2 q10
    refine ww_iconst (v := 0) C dX11_read_31 (by decide) ?_
    refine ww_goto (tgt := 39) C dX11_read_32 (by decide) ?_
    exact ww_sub [] rfl (run_X11_read_39 C hrt  hT_S9  h)
def wp_X11_read (S : St)  (P : Int32 → St → Prop) : Prop :=
  wp_X11_readStages S (fun r14 S13 => ∀ S15 : St, S15 = stM S13 9 14 r14 → (((S15.2.1 9 14) ≤ 0 → wp_X11_read_21  S15 0 P) ∧ (¬ (S15.2.1 9 14) ≤ 0 → wp_X11_read_21  S15 1 P)))
set_option maxHeartbeats 4000000 in
set_option maxRecDepth 100000 in
theorem run_X11_read {l : Launch} {g : Gx} {S : St}  {P : Int32 → St → Prop}  (h : rowsLe S → wp_X11_read S  P) : CMi g l yX11_read cX11_read 1 (some .int) rm_X11_read [.ref (gad g 158)] S P := cm_entry (own := RX11) (plainFor_of_name (by decide)) rfl (Nat.le_of_ble_eq_true rfl) rfl (fun hle f hf C hrt => by
  subst hf
  replace h := h hle
  obtain ⟨T0, hT⟩ : ∃ T, S.2.2.1 = T := ⟨_, rfl⟩
  rw [hT]
  unfold wp_X11_read at h
  refine ww_aload_n C dX11_read_0 0 rfl ?_
  refine ww_aload_n C dX11_read_1 0 rfl ?_
  refine ww_cVi (As := []) (rest := [.ref (gad g 158)]) C ok_X11_readStages bw_1187 dX11_read_2 (run_X11_readStages  (fun _ => h)) rc_Model rfl ⟨Nat.le_of_ble_eq_true rfl, Nat.le_of_ble_eq_true rfl⟩ (Nat.le_of_ble_eq_true rfl) (c2 := 0) (s2 := 0) rfl rfl ⟨Nat.le_of_ble_eq_true rfl, Nat.le_of_ble_eq_true rfl⟩ rfl (fun r14 S13 hp hTg => ?_)
  replace h := hp
  have hT_S13 : S13.2.2.1 = T0 := by rw [hTg]; exact hT
  refine pf_Model_failedStage C bw_959 dX11_read_5 ?_
  refine ww_nm (fun S15 e_S15 => ?_)
  replace h := h S15 e_S15
  have hT_S15 : S15.2.2.1 = T0 := by rw [e_S15]; exact hT_S13
  refine ww_aload_n C dX11_read_8 0 rfl ?_
  refine ww_aload_n C dX11_read_9 0 rfl ?_
  refine gf_Model_failedStage C bw_959 dX11_read_10 ?_
  refine ww_if_le (tgt := 20) C dX11_read_13 (by decide) (fun q16 => ?_) (fun q16 => ?_)
  · replace h := h.1 q16
    refine ww_iconst (v := 0) C dX11_read_20 (by decide) ?_
    exact ww_sub [0] rfl (run_X11_read_21 C hrt  hT_S15  h)
  · replace h := h.2 q16
    refine ww_iconst (v := 1) C dX11_read_16 (by decide) ?_
    refine ww_goto (tgt := 21) C dX11_read_17 (by decide) ?_
    exact ww_sub [0] rfl (run_X11_read_21 C hrt  hT_S15  h))
