/-! the world as it is made, and as it is numbered -/
def stZ : St := (fun _ => [], fun k p => if k = 3 ∧ p = 2 then 1 else 0, [], 0)
theorem sim0 : Sim stZ := by
  refine ⟨(([], fun _ => []), [], 0), ⟨⟨by decide, fun g G h => by simp at h, fun g G h => by simp at h, fun _ _ => rfl, fun t _ => ⟨Nat.zero_le _, fun b hb => by cases hb⟩⟩, by decide, fun b hb => by cases hb⟩, ⟨fun r _ => Nat.zero_le _, by decide, ⟨rfl, fun g G h => by simp at h, fun _ _ _ => rfl⟩, rfl, rfl⟩, ⟨rfl, fun g G h => by simp at h, fun t _ => ⟨rfl, fun k hk => absurd hk (Nat.not_lt_zero k)⟩⟩, ⟨rfl, fun k hk => absurd hk (Nat.not_lt_zero k)⟩, rfl⟩
def adF (q : Nat) (e zw zr : Nat → Nat) (x y : Nat) (p : Nat → Nat) (z : Nat → Nat → Nat) (t : Nat → Nat) (x' y' : Nat) (p' : Nat → Nat) (z' : Nat → Nat → Nat) (t' : Nat → Nat) (mq : Nat) (m : Nat → Nat) (o i : Nat) : Nat :=
  if i < 24 then z (i / 4) (2 * (i % 4)) else if i < 48 then z' ((i - 24) / 4) (2 * (i % 4))
  else if i < 55 then t (2 * (i - 48)) else if i < 62 then t' (2 * (i - 55))
  else if i = 62 then e 0 else if i = 63 then zw 1 else if i = 64 then zw 3 else if i < 68 then zr (2 * (i - 65))
  else if i < 92 then z ((i - 68) / 4) (2 * (i % 4) + 1) else if i < 116 then z' ((i - 92) / 4) (2 * (i % 4) + 1)
  else if i < 123 then t (2 * (i - 116) + 1) else if i < 130 then t' (2 * (i - 123) + 1)
  else if i = 130 then e 1 else if i = 131 then zw 2 else if i = 132 then zw 4 else if i < 136 then zr (2 * (i - 133) + 1)
  else if i < 142 then p (i - 136) else if i < 148 then p' (i - 142)
  else if i = 148 then e 4 else if i = 149 then e 5 else if i = 150 then x else if i = 151 then x' else if i = 152 then y else if i = 153 then y'
  else if i = 154 then zw 0 else if i = 155 then e 2 else if i = 156 then e 3 else if i = 157 then q else if i = 158 then mq
  else if i < 183 then m (i - 159) else o
def ordL : List Nat := 157 :: 62 :: 130 :: 155 :: 154 :: 63 :: 131 :: 64 :: 132 :: 156 :: 65 :: 133 :: 66 :: 134 :: 67 :: 135 :: 148 :: 150 :: 152 :: 136 :: 0 :: 68 :: 1 :: 69 :: 2 :: 70 :: 3 :: 71 :: 137 :: 4 :: 72 :: 5 :: 73 :: 6 :: 74 :: 7 :: 75 :: 138 :: 8 :: 76 :: 9 :: 77 :: 10 :: 78 :: 11 :: 79 :: 139 :: 12 :: 80 :: 13 :: 81 :: 14 :: 82 :: 15 :: 83 :: 140 :: 16 :: 84 :: 17 :: 85 :: 18 :: 86 :: 19 :: 87 :: 141 :: 20 :: 88 :: 21 :: 89 :: 22 :: 90 :: 23 :: 91 :: 48 :: 116 :: 49 :: 117 :: 50 :: 118 :: 51 :: 119 :: 52 :: 120 :: 53 :: 121 :: 54 :: 122 :: 149 :: 151 :: 153 :: 142 :: 24 :: 92 :: 25 :: 93 :: 26 :: 94 :: 27 :: 95 :: 143 :: 28 :: 96 :: 29 :: 97 :: 30 :: 98 :: 31 :: 99 :: 144 :: 32 :: 100 :: 33 :: 101 :: 34 :: 102 :: 35 :: 103 :: 145 :: 36 :: 104 :: 37 :: 105 :: 38 :: 106 :: 39 :: 107 :: 146 :: 40 :: 108 :: 41 :: 109 :: 42 :: 110 :: 43 :: 111 :: 147 :: 44 :: 112 :: 45 :: 113 :: 46 :: 114 :: 47 :: 115 :: 55 :: 123 :: 56 :: 124 :: 57 :: 125 :: 58 :: 126 :: 59 :: 127 :: 60 :: 128 :: 61 :: 129 :: 158 :: 159 :: 160 :: 161 :: 162 :: 163 :: 164 :: 165 :: 166 :: 167 :: 168 :: 169 :: 170 :: 171 :: 172 :: 173 :: 174 :: 175 :: 176 :: 177 :: 178 :: 179 :: 180 :: 181 :: 182 :: 183 :: []
theorem ordL_all : ∀ i, i < 184 → i ∈ ordL := by decide +kernel
def mkL (g : Gx) (q : Nat) (e zw zr : Nat → Nat) (x y : Nat) (p : Nat → Nat) (z : Nat → Nat → Nat) (t : Nat → Nat) (x' y' : Nat) (p' : Nat → Nat) (z' : Nat → Nat → Nat) (t' : Nat → Nat) (mq : Nat) (m : Nat → Nat) (o : Nat) : va_W := pkC g q e zw zr x y p z t x' y' p' z' t' ++ mdC g mq m ++ [(o, .inl (g.2.1.2.2.1, (1, .inr (.inl fun _ => 0))))]
def rA (F : Nat → Option Nat) (n : Nat) : vp_A := (n, .inr (.inr (.inr (.inr F))))
set_option maxHeartbeats 4000000 in
set_option maxRecDepth 100000 in
theorem world_eq (D : va_G) (cs : ClassId × ClassId × ClassId × ClassId × ClassId) (B : Nat → Prop) (a0 : Nat → Nat) (q : Nat) (e zw zr : Nat → Nat) (x y : Nat) (p : Nat → Nat) (z : Nat → Nat → Nat) (t : Nat → Nat) (x' y' : Nat) (p' : Nat → Nat) (z' : Nat → Nat → Nat) (t' : Nat → Nat) (mq : Nat) (m : Nat → Nat) (o : Nat) (ad : Nat → Nat) (had : ad = adF q e zw zr x y p z t x' y' p' z' t' mq m o) :
    ((((mkL (D, cs, a0, B) q e zw zr x y p z t x' y' p' z' t' mq m o).set 17 (x, .inl (cs.2.2.2.1, rA (fun k => some (ad (136 + (6 * (150 - 150) + k)))) 6))).set 18 (y, .inl (cs.2.2.2.2, rA (fun k => some (ad (48 + 7 * (152 - 152) + k))) 7))).set 88 (x', .inl (cs.2.2.2.1, rA (fun k => some (ad (136 + (6 * (151 - 150) + k)))) 6))).set 89 (y', .inl (cs.2.2.2.2, rA (fun k => some (ad (48 + 7 * (153 - 152) + k))) 7)) = ordL.map (fun i => (ad i, gw_e (D, cs, ad, B) stZ (fun _ _ => 0) i)) := by
  subst had
  simp only [mkL, pkC, wrC, rdC, ftC, glC, mdC, rwC, ordL, List.append_assoc, List.cons_append, List.nil_append, List.map_cons, List.map_nil, List.set_cons_succ, List.set_cons_zero]
  rfl
