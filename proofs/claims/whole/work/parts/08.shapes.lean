/-! shapes of the classes -/
def fX0 : List (Nat × Nat × Nat × Nat) := [(1, 1, 14, 100), (2, 2, 14, 100), (3, 3, 14, 100), (4, 4, 14, 24)]
def fX1 : List (Nat × Nat × Nat × Nat) := [(1, 1, 14, 6), (2, 2, 14, 6), (4, 3, 14, 24), (5, 4, 14, 24)]
def fX2 : List (Nat × Nat × Nat × Nat) := [(3, 1, 14, 600), (4, 2, 14, 600), (5, 3, 14, 600), (6, 4, 14, 600), (7, 5, 14, 600), (8, 6, 14, 600), (9, 7, 14, 600), (10, 8, 14, 600), (11, 9, 14, 600), (12, 10, 14, 6), (13, 11, 14, 25), (14, 12, 14, 456), (15, 13, 14, 600), (16, 14, 14, 24), (17, 15, 14, 6), (18, 16, 14, 6)]
def fX3 : List (Nat × Nat × Nat × Nat) := [(5, 1, 14, 24), (6, 2, 14, 6), (7, 3, 14, 6), (8, 4, 14, 6), (9, 5, 14, 6), (10, 6, 14, 6), (11, 7, 14, 6), (12, 8, 14, 6), (13, 9, 14, 6), (14, 10, 14, 48), (15, 11, 14, 8), (16, 12, 14, 8), (17, 13, 14, 8)]
def fX4 : List (Nat × Nat × Nat × Nat) := [(2, 1, 14, 2400), (3, 2, 14, 100), (4, 3, 14, 24)]
def fX5 : List (Nat × Nat × Nat × Nat) := [(10, 20, 14, 11)]
def fX6 : List (Nat × Nat × Nat × Nat) := [(1, 1, 14, 10), (2, 2, 14, 10), (3, 3, 14, 10), (4, 4, 14, 10)]
def fX7 : List (Nat × Nat × Nat × Nat) := [(2, 1, 14, 60), (9, 2, 14, 1464), (10, 3, 14, 1464), (11, 4, 14, 61)]
def fX8 : List (Nat × Nat × Nat × Nat) := [(0, 1, 13, 600), (6, 2, 18, 2), (7, 3, 19, 2)]
def fX9 : List (Nat × Nat × Nat × Nat) := [(1, 1, 14, 6), (2, 2, 14, 6), (3, 3, 14, 6)]
def fX10 : List (Nat × Nat × Nat × Nat) := [(2, 1, 14, 10), (3, 2, 14, 10)]
def fX12 : List (Nat × Nat × Nat × Nat) := [(0, 1, 14, 3960), (1, 2, 16, 3), (11, 3, 14, 149), (26, 4, 14, 640), (27, 5, 14, 640), (28, 6, 14, 640), (29, 7, 14, 640), (30, 8, 14, 640), (31, 9, 14, 640), (32, 10, 14, 640), (33, 11, 14, 640), (34, 12, 14, 600), (35, 13, 14, 6), (36, 14, 14, 6), (37, 15, 14, 6), (38, 16, 14, 1464), (39, 17, 14, 1464), (42, 18, 14, 61), (43, 19, 14, 6), (46, 20, 14, 10), (47, 21, 15, 240), (48, 22, 15, 240)]
abbrev isX0 (K : mK) (R : mR) (o : Nat) : Prop := isO K R o 0 fX0
abbrev isX1 (K : mK) (R : mR) (o : Nat) : Prop := isO K R o 1 fX1
abbrev isX3 (K : mK) (R : mR) (o : Nat) : Prop := isO K R o 3 fX3
abbrev isX4 (K : mK) (R : mR) (o : Nat) : Prop := isO K R o 4 fX4
abbrev isX6 (K : mK) (R : mR) (o : Nat) : Prop := isO K R o 6 fX6
abbrev isX7 (K : mK) (R : mR) (o : Nat) : Prop := isO K R o 7 fX7
abbrev isX9 (K : mK) (R : mR) (o : Nat) : Prop := isO K R o 9 fX9
abbrev isX10 (K : mK) (R : mR) (o : Nat) : Prop := isO K R o 10 fX10
abbrev isX12 (K : mK) (R : mR) (o : Nat) : Prop := isO K R o 12 fX12
abbrev isX2 (K : mK) (R : mR) (e h : Nat) : Prop := isO K R e 2 fX2 ∧ R e 0 = some h ∧ isX3 K R h
/-- the house of an evening -/
def hE (e : Nat) : Nat := 5 + 19 * ((e - 94) / 17)
theorem hE_at (j : Nat) : hE (94 + 17 * j) = 5 + 19 * j := by simp [hE]
abbrev isX8 (K : mK) (R : mR) (t : Nat) : Prop := isO K R t 8 fX8 ∧ ∀ j, j < 2 → (R (t + 2) j = some (t + 4 + 19 * j) ∧ isX3 K R (t + 4 + 19 * j)) ∧ (R (t + 3) j = some (t + 18 + 19 * j) ∧ isX6 K R (t + 18 + 19 * j))
abbrev isX5 (K : mK) (R : mR) (o tp : Nat) : Prop := isO K R o 5 fX5 ∧ (R o 0 = some (o + 1) ∧ isX3 K R (o + 1)) ∧ (R o 1 = some (o + 15) ∧ isX6 K R (o + 15)) ∧ (R o 4 = some tp ∧ K tp = (13, 600))
theorem isO_up {K : mK} {R : mR} {o ci w k : Nat} {v : Option Nat} {fl : List (Nat × Nat × Nat × Nat)} (hw : (K w).1 = 10) (h : isO K R o ci fl) (hci : ci ≠ 10) : isO K (up2 R w k v) o ci fl := ⟨h.1, fun i q hq => ⟨by rw [up2_n _ _ _ (fun e => hci (by rw [← h.1, e]; exact hw))]; exact (h.2 i q hq).1, (h.2 i q hq).2⟩⟩
theorem isX3_up {K : mK} {R : mR} {o w k : Nat} {v : Option Nat} (hw : (K w).1 = 10) (h : isX3 K R o) : isX3 K (up2 R w k v) o := isO_up hw h (by decide)
theorem isX6_up {K : mK} {R : mR} {o w k : Nat} {v : Option Nat} (hw : (K w).1 = 10) (h : isX6 K R o) : isX6 K (up2 R w k v) o := isO_up hw h (by decide)
theorem isX10_up {K : mK} {R : mR} {o k : Nat} {v : Option Nat} (h : isX10 K R o) (hk : 4 ≤ k) : isX10 K (up2 R o k v) o := ⟨h.1, fun i q hq => ⟨by rw [up2_s]; match i, hq with | 0, hq => (cases hq; rw [up1_n _ _ (by simp; omega)]; exact (h.2 0 _ rfl).1) | 1, hq => (cases hq; rw [up1_n _ _ (by simp; omega)]; exact (h.2 1 _ rfl).1) | i + 2, hq => simp [fX10] at hq, (h.2 i q hq).2⟩⟩
/-- the evening j: made, or hidden -/
def isH (K : mK) (R : mR) (j : Nat) : Prop := (K (94 + 17 * j)).1 = 99 ∧ R (94 + 17 * j) 0 = some (5 + 19 * j) ∧ ∀ (i : Nat) (q : Nat × Nat × Nat × Nat), fX2[i]? = some q → R (94 + 17 * j) q.1 = some (94 + 17 * j + q.2.1)
def isE (K : mK) (R : mR) (j : Nat) : Prop := isX2 K R (94 + 17 * j) (5 + 19 * j) ∨ isH K R j
/-- the class's own object, number 0, all that hangs on it, its images apart -/
abbrev isX11 (K : mK) (R : mR) : Prop := (K 0).1 = 11 ∧ (R 0 0 = some 1 ∧ isX8 K R 1) ∧ (R 0 1 = some 43 ∧ K 43 = (20, 3)) ∧ (R 0 2 = some 44 ∧ isX5 K R 44 2) ∧ (R 0 3 = some 65 ∧ K 65 = (17, 2) ∧ ∀ j, j < 2 → R 65 j = some (94 + 17 * j) ∧ isE K R j) ∧ (R 0 4 = some 66 ∧ isX4 K R 66) ∧ (R 0 5 = some 70 ∧ isX7 K R 70) ∧ (R 0 6 = some 75 ∧ isX0 K R 75) ∧ (R 0 7 = some 80 ∧ isX9 K R 80) ∧ (R 0 8 = some 84 ∧ isX1 K R 84) ∧ (R 0 9 = some 89 ∧ isX10 K R 89)
