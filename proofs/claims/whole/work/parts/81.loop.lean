/-! the law's loop: every turn keeps Sim; after at most 65 heads it ends -/
theorem law_loop {f : Fx} {g : Gx} {b L : Nat} {xs : Nat → Int32} (C : Cx f g cL_law 7 RL) (hw : LwOK f g b L xs) (hL : L ≤ 320) : ∀ (n i cN sN : Nat) (S : St), L < i + 5 * (n + 1) → i ≤ 400 → Sim S → cN + 7 * (n + 1) ≤ 600128 → sN + 30 * (n + 1) ≤ 7301098 → WW f room_1 g 7 cN sN (lw_Z (fbelow f) (fargs f) (fs f)) S 23 [(0, .ref b), (1, .ref (gad g 157)), (2, .ref (gad g 158)), (3, .ref (gad g 183)), (4, .int (nI i))] [] := by
  intro n
  induction n with
  | zero =>
    intro i cN sN S h1 h2 h3 h4 h5
    refine run_law (T0 := S.2.2.1) (K := fun _ _ => False) C hw (by omega) (by omega) (fun _ _ q => q.elim) rfl (law_turn hL h3 h2 (fun S2 _ q => by omega))
  | succ n ih =>
    intro i cN sN S h1 h2 h3 h4 h5
    refine run_law (T0 := S.2.2.1) (K := fun S2 v => Sim S2 ∧ v = nI (i + 5) ∧ i + 5 ≤ L) C hw (by omega) (by omega) (fun S2 v q _ => ?_) rfl (law_turn hL h3 h2 (fun S2 s q => ⟨s, rfl, q⟩))
    obtain ⟨q1, q2, q3⟩ := q
    rw [q2]
    exact ih (i + 5) (cN + 7) (sN + 30) S2 (by omega) (by omega) q1 (by omega) (by omega)
