/-! the law's first bytes make the world; then its loop -/
section LS
variable {f : Fx} {R : Room} {nL cells slots pc : Nat} {Q : State → Prop} {lv : List (Nat × Value)} {st : List Value}
theorem uw_eqw {g : Gx} {w w2 : va_W} (e : w = w2) (k : UW f R g nL cells slots Q w2 pc lv st) : UW f R g nL cells slots Q w pc lv st := by subst e; exact k
theorem wl_inv {g : Gx} {Gb : Nat → Nat → Int32} {k : Nat} {q : Nat × va_E} (h : (wl g stZ Gb)[k]? = some q) : k < 184 ∧ q = (gad g k, gw_e g stZ Gb k) := by
  have hk : k < 184 := by
    have := (List.getElem?_eq_some_iff.mp h).1
    unfold wl at this
    simpa [stZ] using this
  rw [wl_get g stZ Gb hk] at h
  exact ⟨hk, (Option.some.inj h).symm⟩
theorem uw_done {D : va_G} {cs : ClassId × ClassId × ClassId × ClassId × ClassId} {B : Nat → Prop} {a0 ad : Nat → Nat} (k : WW f R (D, cs, ad, B) nL cells slots Q stZ pc lv st) : UW f R (D, cs, a0, B) nL cells slots Q (ordL.map (fun i => (ad i, gw_e (D, cs, ad, B) stZ (fun _ _ => 0) i))) pc lv st := by
  intro H locs ls h hl
  obtain ⟨h1, h2, h3, h4⟩ := h
  have hF : ∀ i, i < 184 → ∃ j, ordL[j]? = some i ∧ (ordL.map (fun i => (ad i, gw_e (D, cs, ad, B) stZ (fun _ _ => 0) i)))[j]? = some (ad i, gw_e (D, cs, ad, B) stZ (fun _ _ => 0) i) := fun i hi => by
    obtain ⟨j, hj⟩ := List.mem_iff_getElem?.mp (ordL_all i hi)
    exact ⟨j, hj, by rw [List.getElem?_map, hj]; rfl⟩
  refine k H locs ls ⟨fun _ _ => 0, fun r hr => ⟨Nat.zero_le _, fun j hj => absurd hj (Nat.not_lt_zero j)⟩, fun i q hq => ?_, ⟨fun i j p q hi hj hpq => ?_, fun i q hq => ?_⟩, h3, h4⟩ hl
  · obtain ⟨hi, rfl⟩ := wl_inv hq
    obtain ⟨j, -, hj⟩ := hF i hi
    exact h1 j _ hj
  · obtain ⟨a1, rfl⟩ := wl_inv hi
    obtain ⟨a2, rfl⟩ := wl_inv hj
    obtain ⟨j1, b1, c1⟩ := hF i a1
    obtain ⟨j2, b2, c2⟩ := hF j a2
    have := h2.1 j1 j2 _ _ c1 c2 hpq
    subst this
    exact Option.some.inj (b1.symm.trans b2)
  · obtain ⟨hi, rfl⟩ := wl_inv hq
    obtain ⟨j, -, hj⟩ := hF i hi
    exact h2.2 j _ hj
section AT
variable {g : Gx} {q : Nat} {e zw zr : Nat → Nat} {x y : Nat} {p : Nat → Nat} {z : Nat → Nat → Nat} {t : Nat → Nat} {x' y' : Nat} {p' : Nat → Nat} {z' : Nat → Nat → Nat} {t' : Nat → Nat} {mq : Nat} {m : Nat → Nat} {o : Nat}
set_option maxRecDepth 100000 in
theorem mk_17 : (mkL g q e zw zr x y p z t x' y' p' z' t' mq m o)[17]? = some (x, .inl (g.2.1.2.2.2.1, (6, .inr (.inr (.inr (.inr fun k => some (p k))))))) := by
  simp only [mkL, pkC, wrC, rdC, ftC, glC, mdC, rwC, List.append_assoc, List.cons_append, List.nil_append]
  rfl
set_option maxRecDepth 100000 in
theorem mk_18 : (mkL g q e zw zr x y p z t x' y' p' z' t' mq m o)[18]? = some (y, .inl (g.2.1.2.2.2.2, (7, .inr (.inr (.inr (.inr fun k => some (t (2 * k)))))))) := by
  simp only [mkL, pkC, wrC, rdC, ftC, glC, mdC, rwC, List.append_assoc, List.cons_append, List.nil_append]
  rfl
set_option maxRecDepth 100000 in
theorem mk_88 : (mkL g q e zw zr x y p z t x' y' p' z' t' mq m o)[88]? = some (x', .inl (g.2.1.2.2.2.1, (6, .inr (.inr (.inr (.inr fun k => some (p' k))))))) := by
  simp only [mkL, pkC, wrC, rdC, ftC, glC, mdC, rwC, List.append_assoc, List.cons_append, List.nil_append]
  rfl
set_option maxRecDepth 100000 in
theorem mk_89 : (mkL g q e zw zr x y p z t x' y' p' z' t' mq m o)[89]? = some (y', .inl (g.2.1.2.2.2.2, (7, .inr (.inr (.inr (.inr fun k => some (t' (2 * k)))))))) := by
  simp only [mkL, pkC, wrC, rdC, ftC, glC, mdC, rwC, List.append_assoc, List.cons_append, List.nil_append]
  rfl
end AT
theorem lt6 {k : Nat} {P : Nat → Prop} (hk : k < 6) (h0 : P 0) (h1 : P 1) (h2 : P 2) (h3 : P 3) (h4 : P 4) (h5 : P 5) : P k := by
  rcases (show k = 0 ∨ k = 1 ∨ k = 2 ∨ k = 3 ∨ k = 4 ∨ k = 5 by omega) with rfl | rfl | rfl | rfl | rfl | rfl <;> assumption
theorem lt7 {k : Nat} {P : Nat → Prop} (hk : k < 7) (h0 : P 0) (h1 : P 1) (h2 : P 2) (h3 : P 3) (h4 : P 4) (h5 : P 5) (h6 : P 6) : P k := by
  rcases (show k = 0 ∨ k = 1 ∨ k = 2 ∨ k = 3 ∨ k = 4 ∨ k = 5 ∨ k = 6 by omega) with rfl | rfl | rfl | rfl | rfl | rfl | rfl <;> assumption
set_option maxHeartbeats 4000000 in
set_option maxRecDepth 100000 in
theorem law_all {D : va_G} {cs : ClassId × ClassId × ClassId × ClassId × ClassId} {B : Nat → Prop} {b L : Nat} {xs : Nat → Int32} (C : Cx f (D, cs, fun _ => 0, B) cL_law 7 RL) (N : NU (fs f)) (hw : LwOK f (D, cs, fun _ => 0, B) b L xs) (hL : L ≤ 320) : UW f room_1 (D, cs, fun _ => 0, B) 7 0 0 (lw_Z (fbelow f) (fargs f) (fs f)) ([] ++ []) 0 [(0, .ref b)] [] := by
  refine uw_new (ci := 9) (fl := [.null, .null, .null, .null, .null, .int 0]) C rfl inX10 tyX10 tyX10_ok bw_80 bw_81 bw_61 (fun j hj => by rcases (show j = 0 ∨ j = 1 ∨ j = 2 ∨ j = 3 ∨ j = 4 ∨ j = 5 by omega) with rfl | rfl | rfl | rfl | rfl | rfl <;> rfl) (Nat.le_of_ble_eq_true rfl) (Nat.le_of_ble_eq_true rfl) dL_law_0 (fun q => ?_)
  refine uw_dup C dL_law_3 rfl ?_
  refine uw_cI (As := []) (rest := [.ref q]) C N ok_X10_init bw_82 dL_law_4 cu_packer rfl ⟨Nat.le_of_ble_eq_true rfl, Nat.le_of_ble_eq_true rfl⟩ (Nat.le_of_ble_eq_true rfl) (c2 := 1 + rm_packer.cells) (s2 := 6 + rm_packer.slots) rfl rfl ⟨Nat.le_of_ble_eq_true rfl, Nat.le_of_ble_eq_true rfl⟩ rfl (fun u hu => ?_)
  obtain ⟨e, zw, zr, x, y, p, z, t, x', y', p', z', t', rfl⟩ := hu
  refine uw_astore_n (i := 1) C dL_law_7 rfl (Nat.le_of_ble_eq_true rfl) rfl ?_
  refine uw_new (ci := 10) (fl := (.int 0 :: .int 0 :: .null :: .null :: .null :: .null :: .null :: .null :: .null :: .null :: .null :: .int 0 :: .null :: .null :: .null :: .null :: .null :: .null :: .null :: .null :: .null :: .null :: .int 0 :: .null :: .int 0 :: .null :: .int 0 :: .null :: .int 0 :: .int 0 :: .int 0 :: .int 0 :: .int 0 :: .int 0 :: .int 0 :: .int 0 :: .int 0 :: .null :: .null :: [])) C rfl inX11 tyX11 tyX11_ok bw_917 bw_918 bw_69 (by decide +kernel) (Nat.le_of_ble_eq_true rfl) (Nat.le_of_ble_eq_true rfl) dL_law_8 (fun mq => ?_)
  refine uw_dup C dL_law_11 rfl ?_
  refine uw_cI (As := []) (rest := [.ref mq]) C N ok_X11_init bw_919 dL_law_12 cu_model rfl ⟨Nat.le_of_ble_eq_true rfl, Nat.le_of_ble_eq_true rfl⟩ (Nat.le_of_ble_eq_true rfl) (c2 := 1 + rm_packer.cells + 1 + 24) (s2 := 6 + rm_packer.slots + 39 + 4836) rfl rfl ⟨Nat.le_of_ble_eq_true rfl, Nat.le_of_ble_eq_true rfl⟩ rfl (fun u hu => ?_)
  obtain ⟨m, rfl⟩ := hu
  refine uw_astore_n (i := 2) C dL_law_15 rfl (Nat.le_of_ble_eq_true rfl) rfl ?_
  refine uw_iconst (v := nI 1) C dL_law_16 (by decide) ?_
  refine uw_newl (N := 1) C (by decide) (by decide) (Nat.le_of_ble_eq_true rfl) (Nat.le_of_ble_eq_true rfl) (Nat.le_of_ble_eq_true rfl) dL_law_17 (fun o => ?_)
  refine uw_astore_n (i := 3) C dL_law_19 rfl (Nat.le_of_ble_eq_true rfl) rfl ?_
  refine uw_iconst (v := nI 0) C dL_law_20 (by decide) ?_
  refine uw_istore C dL_law_21 (Nat.le_of_ble_eq_true rfl) rfl ?_
  refine uw_widen (c2 := 1000) (s2 := 100000) (Nat.le_of_ble_eq_true rfl) (Nat.le_of_ble_eq_true rfl) ?_
  show UW f room_1 (D, cs, fun _ => 0, B) 7 1000 100000 (lw_Z (fbelow f) (fargs f) (fs f)) ([] ++ mkL (D, cs, fun _ => 0, B) q e zw zr x y p z t x' y' p' z' t' mq m o) 23 [(4, .int (nI 0)), (3, .ref o), (2, .ref mq), (1, .ref q), (0, .ref b)] []
  generalize had : adF q e zw zr x y p z t x' y' p' z' t' mq m o = ad
  refine uw_acg 17 (F2 := fun k => some (ad (136 + (6 * (150 - 150) + k)))) mk_17 (fun k hk => lt6 (P := fun k => some (p k) = some (ad (136 + (6 * (150 - 150) + k)))) hk (by subst had; rfl) (by subst had; rfl) (by subst had; rfl) (by subst had; rfl) (by subst had; rfl) (by subst had; rfl)) rfl ?_
  refine uw_acg 18 (F2 := fun k => some (ad (48 + 7 * (152 - 152) + k))) (by rw [List.getElem?_set_ne (by decide)]; exact mk_18) (fun k hk => lt7 (P := fun k => some (t (2 * k)) = some (ad (48 + 7 * (152 - 152) + k))) hk (by subst had; rfl) (by subst had; rfl) (by subst had; rfl) (by subst had; rfl) (by subst had; rfl) (by subst had; rfl) (by subst had; rfl)) rfl ?_
  refine uw_acg 88 (F2 := fun k => some (ad (136 + (6 * (151 - 150) + k)))) (by rw [List.getElem?_set_ne (by decide), List.getElem?_set_ne (by decide)]; exact mk_88) (fun k hk => lt6 (P := fun k => some (p' k) = some (ad (136 + (6 * (151 - 150) + k)))) hk (by subst had; rfl) (by subst had; rfl) (by subst had; rfl) (by subst had; rfl) (by subst had; rfl) (by subst had; rfl)) rfl ?_
  refine uw_acg 89 (F2 := fun k => some (ad (48 + 7 * (153 - 152) + k))) (by rw [List.getElem?_set_ne (by decide), List.getElem?_set_ne (by decide), List.getElem?_set_ne (by decide)]; exact mk_89) (fun k hk => lt7 (P := fun k => some (t' (2 * k)) = some (ad (48 + 7 * (153 - 152) + k))) hk (by subst had; rfl) (by subst had; rfl) (by subst had; rfl) (by subst had; rfl) (by subst had; rfl) (by subst had; rfl) (by subst had; rfl)) rfl ?_
  refine uw_eqw (world_eq D cs B (fun _ => 0) q e zw zr x y p z t x' y' p' z' t' mq m o ad had.symm) ?_
  refine uw_done ?_
  have e1 : ad 157 = q := by subst had; rfl
  have e2 : ad 158 = mq := by subst had; rfl
  have e3 : ad 183 = o := by subst had; rfl
  rw [← e1, ← e2, ← e3]
  refine ww_sub [4, 3, 2, 1, 0] rfl ?_
  exact law_loop (g := (D, cs, ad, B)) C hw hL 64 0 1000 100000 stZ (by omega) (by omega) sim0 (by omega) (by omega)
end LS
