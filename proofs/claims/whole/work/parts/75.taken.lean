/-! the reference takes a step and sizes -/
def kS (n k p : Nat) : Prop := ((k = 22 ∨ k = 23) ∧ p = n) ∨ kC k p
theorem frSC {n : Nat} {S S1 : St} (h : fr kC S S1) : fr (kS n) S S1 := h.mono (fun k p z => Or.inr z)
theorem frSB {n : Nat} {S S1 : St} (h : fr kB S S1) : fr (kS n) S S1 := frSC (frCB h)
theorem bd_m {S : St} {k p : Nat} {v : Int32} (h : bd S) (hk : k ≠ 9) : bd (stM S k p v) := by unfold bd; rw [stM_k (fun z => hk z.symm)]; exact h
theorem i16 (g p : Nat) : 16 * nI g + nI p = nI (16 * g + p) := by simp only [lit32, pk_mul, nI_add]
theorem ts_end {S0' S : St} {g p : Nat} {v5 v6 : Int32} {P : St → Prop} (v7 v8 : Int32) (hg : g < 6) (hp : p < 16) (f : fr (kS (16 * g + p)) S0' S) (hz : S.2.1 9 11 = 0 ∨ S.2.1 9 11 = 1)
    (hP : ∀ S2, fr (kS (16 * g + p)) S S2 → S2.2.1 22 (16 * g + p) = (if p = 0 then 0 else S.2.1 22 (16 * g + p - 1)) + (if v7 = 0 then -v5 else v5) → S2.2.1 23 (16 * g + p) = (if p = 0 then 0 else S.2.1 23 (16 * g + p - 1)) + (if v8 = 0 then -v6 else v6) → (∀ k q, k ≠ 22 → k ≠ 23 → S2.2.1 k q = S.2.1 k q) → wp_X11_check S2 (if nr (S2.2.1 22 (16 * g + p)) ∧ nr (S2.2.1 23 (16 * g + p)) then 1 else 0) P) : wp_X11_takeStep_299 (nI g) (nI p) S v5 v6 v7 v8 P := by
  intro x64 e64
  rw [i16] at e64
  subst e64
  have in12 : vp_in (nI (16 * g + p)) (gw_ml 12) := pk_in _ _ (show _ < 96 by omega) rfl (by decide)
  have in13 : vp_in (nI (16 * g + p)) (gw_ml 13) := pk_in _ _ (show _ < 96 by omega) rfl (by decide)
  have k381 : ∀ S' s0 s1, fr (kS (16 * g + p)) S S' → S'.2.1 22 (16 * g + p) = (if p = 0 then 0 else S.2.1 22 (16 * g + p - 1)) + (if v7 = 0 then -v5 else v5) → s1 = (if p = 0 then 0 else S.2.1 23 (16 * g + p - 1)) → s0 = (if v8 = 0 then -v6 else v6) → (∀ k q, k ≠ 22 → k ≠ 23 → S'.2.1 k q = S.2.1 k q) → wp_X11_takeStep_381 (nI g) (nI p) S' (nI (16 * g + p)) s0 s1 (nI (16 * g + p)) P := by
    intro S' s0 s1 f' x22 es1 es0 oth
    refine ⟨in13, fun S53 e53 => ⟨in12, ?_⟩⟩
    rw [nI_clamp (by omega)] at e53
    rw [nI_clamp (by omega)]
    have g23 : S53.2.1 23 (16 * g + p) = (if p = 0 then 0 else S.2.1 23 (16 * g + p - 1)) + (if v8 = 0 then -v6 else v6) := by rw [e53, stM_self, es1, es0]
    have g22 : S53.2.1 22 (16 * g + p) = (if p = 0 then 0 else S.2.1 22 (16 * g + p - 1)) + (if v7 = 0 then -v5 else v5) := by rw [e53, stM_k (by omega)]; exact x22
    have f53 : fr (kS (16 * g + p)) S S53 := by rw [e53]; exact fr_m f' (Or.inl ⟨Or.inr rfl, rfl⟩)
    have o53 : ∀ k q, k ≠ 22 → k ≠ 23 → S53.2.1 k q = S.2.1 k q := fun k q a b => by rw [e53, stM_k b]; exact oth k q a b
    have fin := hP S53 f53 g22 g23 o53
    refine sm_far (fun hf => ⟨fun _ => ?_, fun z => absurd z (by decide)⟩) (fun hf => ⟨fun z => absurd rfl z, fun _ => ⟨in13, ?_⟩⟩)
    · rw [if_neg (fun w => (nr_far.mp w.1) hf)] at fin; exact fin
    · refine sm_far (fun hf2 => ⟨fun _ => ?_, fun z => absurd z (by decide)⟩) (fun hf2 => ⟨fun z => absurd rfl z, fun _ => ?_⟩)
      · rw [if_neg (fun w => (nr_far.mp w.2) hf2)] at fin; exact fin
      · rw [if_pos ⟨nr_far.mpr hf, nr_far.mpr hf2⟩] at fin; exact fin
  have k343 : ∀ s0 s1, s1 = (if p = 0 then 0 else S.2.1 22 (16 * g + p - 1)) → s0 = (if v7 = 0 then -v5 else v5) → wp_X11_takeStep_343 (nI g) (nI p) S v6 v8 (nI (16 * g + p)) s0 s1 (nI (16 * g + p)) P := by
    intro s0 s1 es1 es0
    refine ⟨in12, fun S61 e61 => ?_⟩
    rw [nI_clamp (by omega)] at e61
    have f61 : fr (kS (16 * g + p)) S S61 := by rw [e61]; exact fr_m (fr.refl S) (Or.inl ⟨Or.inl rfl, rfl⟩)
    have g22 : S61.2.1 22 (16 * g + p) = (if p = 0 then 0 else S.2.1 22 (16 * g + p - 1)) + (if v7 = 0 then -v5 else v5) := by rw [e61, stM_self, es1, es0]
    have o61 : ∀ k q, k ≠ 22 → k ≠ 23 → S61.2.1 k q = S.2.1 k q := fun k q a _ => by rw [e61, stM_k a]
    unfold wp_X11_takeStep_368
    refine pk_le p 0 (fun z => ?_) (fun z => ⟨pk_in (16 * g + p - 1) _ (show _ < 96 by omega) (mi1 (by omega)) (by decide), ?_⟩) rfl
    · have e0 : (if p = 0 then 0 else S.2.1 23 (16 * g + p - 1)) = 0 := if_pos (by omega)
      exact ⟨fun w => k381 _ _ _ f61 g22 e0.symm (by rw [if_pos w]) o61, fun w => k381 _ _ _ f61 g22 e0.symm (by rw [if_neg w]) o61⟩
    · have e0 : (if p = 0 then 0 else S.2.1 23 (16 * g + p - 1)) = S.2.1 23 (16 * g + p - 1) := if_neg (by omega)
      rw [mi1 (by omega), nI_clamp (by omega), e61, stM_k (by omega)]
      rw [e61] at f61 g22 o61
      exact ⟨fun w => k381 _ _ _ f61 g22 e0.symm (by rw [if_pos w]) o61, fun w => k381 _ _ _ f61 g22 e0.symm (by rw [if_neg w]) o61⟩
  unfold wp_X11_takeStep_330
  refine pk_le p 0 (fun z => ?_) (fun z => ⟨pk_in (16 * g + p - 1) _ (show _ < 96 by omega) (mi1 (by omega)) (by decide), ?_⟩) rfl
  · have e0 : (if p = 0 then 0 else S.2.1 22 (16 * g + p - 1)) = 0 := if_pos (by omega)
    exact ⟨fun w => k343 _ _ e0.symm (by rw [if_pos w]), fun w => k343 _ _ e0.symm (by rw [if_neg w])⟩
  · have e0 : (if p = 0 then 0 else S.2.1 22 (16 * g + p - 1)) = S.2.1 22 (16 * g + p - 1) := if_neg (by omega)
    rw [mi1 (by omega), nI_clamp (by omega)]
    exact ⟨fun w => k343 _ _ e0.symm (by rw [if_pos w]), fun w => k343 _ _ e0.symm (by rw [if_neg w])⟩
theorem ts_end_bd {S0' S : St} {g p : Nat} {v5 v6 v7 v8 : Int32} {P : St → Prop} (hg : g < 6) (hp : p < 16) (f : fr (kS (16 * g + p)) S0' S) (hb : bd S) (hP : ∀ S2, fr (kS (16 * g + p)) S0' S2 → bd S2 → P S2) : wp_X11_takeStep_299 (nI g) (nI p) S v5 v6 v7 v8 P := by
  refine ts_end v7 v8 hg hp f hb.b (fun S2 f2 _ _ o2 => ?_)
  have b2 : bd S2 := by unfold bd; rw [o2 9 11 (by omega) (by omega)]; exact hb
  exact sm_check b2.b (fun z => by rw [b2] at z; exact absurd z (by decide)) (fun _ S3 f3 b3 => hP S3 ((f.trans f2).trans (frSB f3)) b3)
theorem ts77_bd {S0' S : St} {g p : Nat} {v3 v4 v5 v6 v7 v8 : Int32} {P : St → Prop} (hg : g < 6) (hp : p < 16) (f : fr (kS (16 * g + p)) S0' S) (hb : bd S) (hP : ∀ S2, fr (kS (16 * g + p)) S0' S2 → bd S2 → P S2) : wp_X11_takeStep_77 (nI g) (nI p) S v3 v4 v5 v6 v7 v8 P := by
  unfold wp_X11_takeStep_77
  have e : ∀ S' v5 v6, fr (kS (16 * g + p)) S0' S' → bd S' → wp_X11_takeStep_299 (nI g) (nI p) S' v5 v6 v7 v8 P := fun S' v5 v6 f' b' => ts_end_bd hg hp f' b' hP
  refine ⟨fun _ => ⟨fun _ => ⟨fun _ => ⟨fun _ => ⟨fun _ => ?_, fun _ => ?_⟩, fun _ x86 _ => ?_⟩, fun _ x90 _ x91 _ => e _ _ _ f hb⟩, fun _ x92 _ => e _ _ _ f hb⟩, fun _ x93 _ => e _ _ _ f hb⟩
  · exact sm_next_bd hb (fun S1 f1 b1 x73 _ => sm_next_bd b1 (fun S2 f2 b2 x76 _ => sm_next_bd b2 (fun S3 f3 b3 x79 _ => e _ _ _ (((f.trans (frSC f1)).trans (frSC f2)).trans (frSC f3)) b3)))
  · exact sm_next_bd hb (fun S1 f1 b1 x73 _ => sm_next_bd b1 (fun S2 f2 b2 x76 _ => e _ _ _ ((f.trans (frSC f1)).trans (frSC f2)) b2))
  · exact sm_next_bd hb (fun S1 f1 b1 x73 _ => e _ _ _ (f.trans (frSC f1)) b1)
theorem ts40_bd {S0' S : St} {g p : Nat} {v3 v4 v5 v6 v7 : Int32} {P : St → Prop} (hg : g < 6) (hp : p < 16) (f : fr (kS (16 * g + p)) S0' S) (hb : bd S) (hP : ∀ S2, fr (kS (16 * g + p)) S0' S2 → bd S2 → P S2) : wp_X11_takeStep_40 (nI g) (nI p) S v3 v4 v5 v6 v7 P := by
  unfold wp_X11_takeStep_40
  exact ⟨fun _ => ⟨fun _ => ts77_bd hg hp f hb hP, fun _ => ts77_bd hg hp f hb hP⟩, fun _ => ⟨fun _ => ts77_bd hg hp f hb hP, fun _ => ts77_bd hg hp f hb hP⟩⟩
theorem sm_takeStep_bd {S : St} {g p : Nat} {P : St → Prop} (hg : g < 6) (hp : p < 16) (hb : bd S) (hP : ∀ S2, fr (kS (16 * g + p)) S S2 → bd S2 → P S2) : wp_X11_takeStep S (nI g) (nI p) P := by
  refine ⟨by rw [i16]; exact pk_in _ _ (show _ < 96 by omega) rfl (by decide), fun x97 e97 => sm_next_bd hb (fun S98 f98 b98 => ⟨fun _ => ts40_bd hg hp (frSC f98) b98 hP, fun _ => ts40_bd hg hp (frSC f98) b98 hP⟩)⟩
theorem neg0 : -(0 : Int32) = 0 := by decide
theorem sgd_if {a b : Nat} (hb : b ≤ 1) : (if nI b = 0 then -(nI a) else nI a) = sgd a b := by
  unfold sgd
  rcases Nat.eq_zero_or_pos b with z | z
  · rw [z, if_pos (by rfl), if_neg (by omega)]
  · rw [show b = 1 by omega, if_neg (by decide), if_pos rfl]
theorem sgd_0 (v : Int32) : (if v = 0 then -(0 : Int32) else 0) = 0 := by split <;> decide
theorem sm_takeStep {S : St} {g p e pd sb : Nat} {L : List Int32} {x y : Int32} {P : St → Prop} (hg : g < 6) (hp : p < 16) (h : mu S L 1 e pd) (hb : ∀ b ∈ L, byt b) (hpd : pd ≤ e) (hs : S.2.1 24 (16 * g + p) = nI sb) (hsb : sb < 256) (hx : (if p = 0 then 0 else S.2.1 22 (16 * g + p - 1)) = x) (hy : (if p = 0 then 0 else S.2.1 23 (16 * g + p - 1)) = y)
    (h1 : ∀ dx dy pd' S2, rs L e (sb % 128) pd = some (dx, dy, pd') → nr (x + dx) ∧ nr (y + dy) → fr (kS (16 * g + p)) S S2 → mu S2 L 1 e pd' → S2.2.1 22 (16 * g + p) = x + dx → S2.2.1 23 (16 * g + p) = y + dy → P S2)
    (h0 : ∀ S2, (∀ dx dy pd', rs L e (sb % 128) pd = some (dx, dy, pd') → ¬ (nr (x + dx) ∧ nr (y + dy))) → fr (kS (16 * g + p)) S S2 → bd S2 → P S2) : wp_X11_takeStep S (nI g) (nI p) P := by
  refine ⟨by rw [i16]; exact pk_in _ _ (show _ < 96 by omega) rfl (by decide), fun x97 e97 => ?_⟩
  rw [i16, nI_clamp (by omega), hs, md128v hsb] at e97
  have hw : sb % 128 < 128 := Nat.mod_lt _ (by omega)
  generalize hwe : sb % 128 = w at *
  subst e97
  have v0 := vb_lt hb pd
  have v1 := vb_lt hb (pd + 1)
  have v2 := vb_lt hb (pd + 2)
  have v3 := vb_lt hb (pd + 3)
  -- the good end
  have fin : ∀ S' a b pd' r u dx dy, fr kC S S' → mu S' L 1 e pd' → rs L e w pd = some (dx, dy, pd') → (if r = 0 then -a else a) = dx → (if u = 0 then -b else b) = dy → wp_X11_takeStep_299 (nI g) (nI p) S' a b r u P := by
    intro S' a b pd' r u dx dy f' u' hrs ea eb
    have q22 : (if p = 0 then 0 else S'.2.1 22 (16 * g + p - 1)) = x := by rw [f'.2.2 22 _ (by unfold kC; omega)]; exact hx
    have q23 : (if p = 0 then 0 else S'.2.1 23 (16 * g + p - 1)) = y := by rw [f'.2.2 23 _ (by unfold kC; omega)]; exact hy
    refine ts_end (S0' := S) r u hg hp (frSC f') (Or.inl u'.b) (fun S2 f2 g22 g23 o2 => ?_)
    rw [q22, ea] at g22
    rw [q23, eb] at g23
    rw [g22, g23]
    have u2 : mu S2 L 1 e pd' := by
      obtain ⟨m1, m2, m3', m4, m5, m6, m7⟩ := u'
      exact ⟨by rw [o2 9 8 (by omega) (by omega)]; exact m1, by rw [o2 9 9 (by omega) (by omega)]; exact m2, by rw [o2 9 10 (by omega) (by omega)]; exact m3', by rw [o2 9 11 (by omega) (by omega)]; exact m4, fun k hk => by rw [o2 _ _ (by omega) (by omega)]; exact m5 k hk, m6, m7⟩
    by_cases hn : nr (x + dx) ∧ nr (y + dy)
    · rw [if_pos hn]
      exact sm_check (Or.inl u2.b) (fun _ _ => h1 _ _ _ _ hrs hn ((frSC f').trans f2) u2 g22 g23) (fun z => z.elim (fun y => by rw [u2.b] at y; exact absurd y (by decide)) (fun y => absurd y (by decide)))
    · rw [if_neg hn]
      refine sm_check (Or.inl u2.b) (fun _ z => absurd rfl z) (fun _ S3 f3 b3 => h0 _ (fun dx' dy' pd'' hh => ?_) (((frSC f').trans f2).trans (frSB f3)) b3)
      rw [hrs] at hh
      simp at hh
      rw [← hh.1, ← hh.2.1]; exact hn
  have bad : rs L e w pd = none → ∀ S2, fr (kS (16 * g + p)) S S2 → bd S2 → P S2 := fun hn S2 f b => h0 S2 (fun dx dy pd' hh => by rw [hn] at hh; simp at hh) f b
  have k77 : ∀ S' u, pd < e → fr kC S S' → mu S' L 1 e (pd + 1) → u ≤ 1 → (w < 10 → u = w % 2) → (10 ≤ w → u = w / 2 % 2) → wp_X11_takeStep_77 (nI g) (nI p) S' (nI w) (nI (vb L pd)) 0 0 (nI (w % 2)) (nI u) P := by
    intro S' u hpe f' u' hu hu1 hu2
    unfold wp_X11_takeStep_77
    have w2 : w % 2 ≤ 1 := by omega
    refine pk_le 10 w (fun w10 => pk_le 20 w (fun w20 => pk_le 84 w (fun w84 => pk_le 120 w (fun w120 => pk_le 124 w (fun w124 => ?_) (fun w124 => ?_) rfl) (fun w120 x86 e86 => ?_) rfl) (fun w84 x90 e90 x91 e91 => ?_) rfl) (fun w20 x92 e92 => ?_) rfl) (fun w10 x93 e93 => ?_) rfl
    · have er : rs L e w pd = if pd + 3 < e then some (sgd (vb L pd * 256 + vb L (pd + 1)) (w % 2), sgd (vb L (pd + 2) * 256 + vb L (pd + 3)) (w / 2 % 2), pd + 4) else none := by
        unfold rs; rw [if_neg (show ¬ w < 10 by omega), if_neg (show ¬ w < 20 by omega), if_neg (show ¬ w < 84 by omega), if_neg (show ¬ w < 120 by omega), if_neg (show ¬ w < 124 by omega)]
      refine sm_next u' hb (by omega) (fun S1 q1 f1 u1 x73 e73 => sm_next u1 hb (by omega) (fun S2 q2 f2 u2 x76 e76 => sm_next u2 hb (by omega) (fun S3 q3 f3 u3 x79 e79 => ?_) (fun S3 q3 f3 b3 x79 e79 => ?_)) (fun S2 q2 f2 b2 x76 e76 => ?_)) (fun S1 q1 f1 b1 x73 e73 => ?_)
      · rw [if_pos (by omega)] at er
        refine fin S3 x73 x79 (pd + 4) _ _ _ _ (((f'.trans f1).trans f2).trans f3) u3 er ?_ ?_
        · rw [e73, show (256 : Int32) * nI (vb L pd) + nI (vb L (pd + 1)) = nI (vb L pd * 256 + vb L (pd + 1)) by rw [show (256 : Int32) = nI 256 from rfl, pk_mul, nI_add, Nat.mul_comm]]
          exact sgd_if w2
        · rw [e79, e76, show (256 : Int32) * nI (vb L (pd + 1 + 1)) + nI (vb L (pd + 1 + 1 + 1)) = nI (vb L (pd + 2) * 256 + vb L (pd + 3)) by rw [show (256 : Int32) = nI 256 from rfl, pk_mul, nI_add, Nat.mul_comm], ← hu2 w10]
          exact sgd_if hu
      · rw [if_neg (by omega)] at er
        exact ts_end_bd hg hp (frSC (((f'.trans f1).trans f2).trans f3)) b3 (bad er)
      · rw [if_neg (by omega)] at er
        exact sm_next_bd b2 (fun S3 f3 b3 x79 e79 => ts_end_bd hg hp (frSC (((f'.trans f1).trans f2).trans f3)) b3 (bad er))
      · rw [if_neg (by omega)] at er
        exact sm_next_bd b1 (fun S2 f2 b2 x76 e76 => sm_next_bd b2 (fun S3 f3 b3 x79 e79 => ts_end_bd hg hp (frSC (((f'.trans f1).trans f2).trans f3)) b3 (bad er)))
    · have er : rs L e w pd = if pd + 2 < e then some (sgd (vb L pd * 16 + vb L (pd + 1) / 16) (w % 2), sgd (vb L (pd + 1) % 16 * 256 + vb L (pd + 2)) (w / 2 % 2), pd + 3) else none := by
        unfold rs; rw [if_neg (show ¬ w < 10 by omega), if_neg (show ¬ w < 20 by omega), if_neg (show ¬ w < 84 by omega), if_neg (show ¬ w < 120 by omega), if_pos w124]
      refine sm_next u' hb (by omega) (fun S1 q1 f1 u1 x82 e82 => sm_next u1 hb (by omega) (fun S2 q2 f2 u2 x85 e85 => ?_) (fun S2 q2 f2 b2 x85 e85 => ?_)) (fun S1 q1 f1 b1 x82 e82 => ?_)
      · rw [if_pos (by omega)] at er
        refine fin S2 x82 x85 (pd + 3) _ _ _ _ ((f'.trans f1).trans f2) u2 er ?_ ?_
        · rw [e82, dv16 (by omega), show (16 : Int32) * nI (vb L pd) + nI (vb L (pd + 1) / 16) = nI (vb L pd * 16 + vb L (pd + 1) / 16) by rw [show (16 : Int32) = nI 16 from rfl, pk_mul, nI_add, Nat.mul_comm]]
          exact sgd_if w2
        · rw [e85, md16 (by omega), show nI (vb L (pd + 1) % 16) * 256 + nI (vb L (pd + 1 + 1)) = nI (vb L (pd + 1) % 16 * 256 + vb L (pd + 2)) by rw [show (256 : Int32) = nI 256 from rfl, pk_mul, nI_add], ← hu2 w10]
          exact sgd_if hu
      · rw [if_neg (by omega)] at er
        exact ts_end_bd hg hp (frSC ((f'.trans f1).trans f2)) b2 (bad er)
      · rw [if_neg (by omega)] at er
        exact sm_next_bd b1 (fun S2 f2 b2 x76 e76 => ts_end_bd hg hp (frSC ((f'.trans f1).trans f2)) b2 (bad er))
    · have er : rs L e w pd = if pd + 1 < e then some (sgd (1 + (w - 84) / 12 * 256 + vb L pd) (w % 2), sgd (1 + (w - 84) % 12 / 4 * 256 + vb L (pd + 1)) (w / 2 % 2), pd + 2) else none := by
        unfold rs; rw [if_neg (show ¬ w < 10 by omega), if_neg (show ¬ w < 20 by omega), if_neg (show ¬ w < 84 by omega), if_pos w120]
      have m84 : nI w - 84 = nI (w - 84) := mi (k := 84) (by omega)
      refine sm_next u' hb (by omega) (fun S1 q1 f1 u1 x89 e89 => ?_) (fun S1 q1 f1 b1 x89 e89 => ?_)
      · rw [if_pos (by omega)] at er
        refine fin S1 x86 x89 (pd + 2) _ _ _ _ (f'.trans f1) u1 er ?_ ?_
        · rw [e86, m84, show nI (w - 84) / 12 = nI ((w - 84) / 12) from pk_div (d := 12) (by omega) (by omega) (by omega), show nI ((w - 84) / 12) * 256 + nI (vb L pd) + 1 = nI (1 + (w - 84) / 12 * 256 + vb L pd) by rw [show (256 : Int32) = nI 256 from rfl, show (1 : Int32) = nI 1 from rfl, pk_mul, nI_add, nI_add]; congr 1; omega]
          exact sgd_if w2
        · rw [e89, m84, show nI (w - 84) - nI (w - 84) / 12 * 12 = nI ((w - 84) % 12) from pk_rem (d := 12) (by omega) (by omega) (by omega), show nI ((w - 84) % 12) / 4 = nI ((w - 84) % 12 / 4) from pk_div (d := 4) (by omega) (by omega) (by omega), show nI ((w - 84) % 12 / 4) * 256 + nI (vb L (pd + 1)) + 1 = nI (1 + (w - 84) % 12 / 4 * 256 + vb L (pd + 1)) by rw [show (256 : Int32) = nI 256 from rfl, show (1 : Int32) = nI 1 from rfl, pk_mul, nI_add, nI_add]; congr 1; omega, ← hu2 w10]
          exact sgd_if hu
      · rw [if_neg (by omega)] at er
        exact ts_end_bd hg hp (frSC (f'.trans f1)) b1 (bad er)
    · have er : rs L e w pd = some (sgd (1 + (w - 20) / 16 * 16 + vb L pd / 16) (w % 2), sgd (1 + (w - 20) / 4 % 4 * 16 + vb L pd % 16) (w / 2 % 2), pd + 1) := by
        unfold rs; rw [if_neg (show ¬ w < 10 by omega), if_neg (show ¬ w < 20 by omega), if_pos w84, if_pos hpe]
      have m20 : nI w - 20 = nI (w - 20) := mi (k := 20) (by omega)
      refine fin S' x90 x91 (pd + 1) _ _ _ _ f' u' er ?_ ?_
      · rw [e90, m20, dv16 (by omega), dv16 (by omega), show nI ((w - 20) / 16) * 16 + nI (vb L pd / 16) + 1 = nI (1 + (w - 20) / 16 * 16 + vb L pd / 16) by rw [show (16 : Int32) = nI 16 from rfl, show (1 : Int32) = nI 1 from rfl, pk_mul, nI_add, nI_add]; congr 1; omega]
        exact sgd_if w2
      · rw [e91, m20, md16 (by omega), show nI (w - 20) / 4 = nI ((w - 20) / 4) from pk_div (d := 4) (by omega) (by omega) (by omega), show nI ((w - 20) / 4) - nI ((w - 20) / 4) / 4 * 4 = nI ((w - 20) / 4 % 4) from pk_rem (d := 4) (by omega) (by omega) (by omega), show nI ((w - 20) / 4 % 4) * 16 + nI (vb L pd % 16) + 1 = nI (1 + (w - 20) / 4 % 4 * 16 + vb L pd % 16) by rw [show (16 : Int32) = nI 16 from rfl, show (1 : Int32) = nI 1 from rfl, pk_mul, nI_add, nI_add]; congr 1; omega, ← hu2 w10]
        exact sgd_if hu
    · have er : rs L e w pd = some (sgd ((w - 10) / 2 * 256 + vb L pd) (w % 2), 0, pd + 1) := by
        unfold rs; rw [if_neg (show ¬ w < 10 by omega), if_pos w20, if_pos hpe]
      refine fin S' x92 0 (pd + 1) _ _ _ _ f' u' er ?_ (sgd_0 _)
      rw [e92, show nI w - 10 = nI (w - 10) from mi (k := 10) (by omega), dv2 (by omega), show nI ((w - 10) / 2) * 256 + nI (vb L pd) = nI ((w - 10) / 2 * 256 + vb L pd) by rw [show (256 : Int32) = nI 256 from rfl, pk_mul, nI_add]]
      exact sgd_if w2
    · have er : rs L e w pd = some (0, sgd (w / 2 * 256 + vb L pd) (w % 2), pd + 1) := by
        unfold rs; rw [if_pos w10, if_pos hpe]
      refine fin S' 0 x93 (pd + 1) _ _ _ _ f' u' er (sgd_0 _) ?_
      rw [e93, dv2 (by omega), show nI (w / 2) * 256 + nI (vb L pd) = nI (w / 2 * 256 + vb L pd) by rw [show (256 : Int32) = nI 256 from rfl, pk_mul, nI_add], ← hu1 w10]
      exact sgd_if hu
  have k40 : ∀ S', pd < e → fr kC S S' → mu S' L 1 e (pd + 1) → wp_X11_takeStep_40 (nI g) (nI p) S' (nI w) (nI (vb L pd)) 0 0 (nI (w % 2)) P := by
    intro S' hpe f' u'
    unfold wp_X11_takeStep_40
    rw [md2 (by omega), dv2 (by omega), md2 (by omega)]
    refine pk_le 10 w (fun w10 => And.symm (pk_eq (w / 2 % 2) 1 (fun z => k77 S' 1 hpe f' u' (by omega) (by omega) (by omega)) (fun z => k77 S' 0 hpe f' u' (by omega) (by omega) (by omega)) rfl)) (fun w10 => And.symm (pk_eq (w % 2) 1 (fun z => k77 S' 1 hpe f' u' (by omega) (by omega) (by omega)) (fun z => k77 S' 0 hpe f' u' (by omega) (by omega) (by omega)) rfl)) rfl
  refine sm_next h hb hpd (fun S98 hpe f98 u98 => ?_) (fun S98 hge f98 b98 => ?_)
  · rw [md2 (by omega)]
    refine And.symm (pk_eq (w % 2) 1 (fun z => ?_) (fun z => ?_) rfl)
    · have := k40 S98 hpe f98 u98
      rw [z] at this; exact this
    · have := k40 S98 hpe f98 u98
      rw [show w % 2 = 0 by omega] at this; exact this
  · have er : rs L e w pd = none := by
      unfold rs
      repeat' split
      all_goals first | rfl | omega
    exact ⟨fun _ => ts40_bd hg hp (frSC f98) b98 (bad er), fun _ => ts40_bd hg hp (frSC f98) b98 (bad er)⟩
