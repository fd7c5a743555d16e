/-! the class copies and takes a text -/
def lnH2 (i : Nat) : Nat := [0, 24, 6, 6, 6, 6, 6, 6, 6, 6, 48, 8, 8, 8].getD i 0
/-- the house at o has become what the one at a is -/
def CpH (J J1 : mJ) (o a : Nat) : Prop := (∀ j, j < 5 → J1 o j = J a j) ∧ (∀ i, 1 ≤ i → i < 14 → ∀ j, j < lnH2 i → J1 (o + i) j = J (a + i) j) ∧ (∀ c, (c < o ∨ o + 13 < c) → J1 c = J c)
set_option maxHeartbeats 4000000 in
theorem x_copyH {J : mJ} {o a : Nat} (hd : o + 13 < a ∨ a + 13 < o) {post' : mJ → Prop} (hq : ∀ J1, CpH J J1 o a → post' J1) : v_X3_copyFrom J o a post' := by
  unfold v_X3_copyFrom
  rintro J1 rfl J2 rfl J3 rfl J4 rfl J5 rfl
  have hne : a ≠ o := by omega
  simp only [show ∀ (J : mJ) (k : Nat) (v : Int), up2 J o k v a = J a from fun J k v => u2n hne]
  generalize hJ5 : up2 (up2 (up2 (up2 (up2 J o 0 (J a 0)) o 1 (J a 1)) o 2 (J a 2)) o 3 (J a 3)) o 4 (J a 4) = J5
  have f5 : ∀ c, c ≠ o → J5 c = J c := fun c hc => by rw [← hJ5, u2n hc, u2n hc, u2n hc, u2n hc, u2n hc]
  have v5 : ∀ j, j < 5 → J5 o j = J a j := fun j hj => by
    have : j = 0 ∨ j = 1 ∨ j = 2 ∨ j = 3 ∨ j = 4 := by omega
    rw [← hJ5]
    rcases this with rfl | rfl | rfl | rfl | rfl <;> simp [up2_s, up1]
  refine ⟨⟨by omega, by decide, by decide, by decide, by decide, by decide⟩, ?_⟩
  intro C1 e1
  have n1 : ∀ c, c ≠ o + 1 → C1 c = J5 c := fun c hc => by rw [e1]; exact cpyZ_n hc
  have g1 : ∀ j, j < 24 → C1 (o + 1) j = J5 (a + 1) j := fun j hj => by rw [e1, cpyZ_in (by omega), Nat.zero_add, Nat.sub_zero]
  refine ⟨⟨by omega, by decide, by decide, by decide, by decide, by decide⟩, ?_⟩
  intro C2 e2
  have n2 : ∀ c, c ≠ o + 2 → C2 c = C1 c := fun c hc => by rw [e2]; exact cpyZ_n hc
  have g2 : ∀ j, j < 6 → C2 (o + 2) j = C1 (a + 2) j := fun j hj => by rw [e2, cpyZ_in (by omega), Nat.zero_add, Nat.sub_zero]
  refine ⟨⟨by omega, by decide, by decide, by decide, by decide, by decide⟩, ?_⟩
  intro C3 e3
  have n3 : ∀ c, c ≠ o + 3 → C3 c = C2 c := fun c hc => by rw [e3]; exact cpyZ_n hc
  have g3 : ∀ j, j < 6 → C3 (o + 3) j = C2 (a + 3) j := fun j hj => by rw [e3, cpyZ_in (by omega), Nat.zero_add, Nat.sub_zero]
  refine ⟨⟨by omega, by decide, by decide, by decide, by decide, by decide⟩, ?_⟩
  intro C4 e4
  have n4 : ∀ c, c ≠ o + 4 → C4 c = C3 c := fun c hc => by rw [e4]; exact cpyZ_n hc
  have g4 : ∀ j, j < 6 → C4 (o + 4) j = C3 (a + 4) j := fun j hj => by rw [e4, cpyZ_in (by omega), Nat.zero_add, Nat.sub_zero]
  refine ⟨⟨by omega, by decide, by decide, by decide, by decide, by decide⟩, ?_⟩
  intro C5 e5
  have n5 : ∀ c, c ≠ o + 5 → C5 c = C4 c := fun c hc => by rw [e5]; exact cpyZ_n hc
  have g5 : ∀ j, j < 6 → C5 (o + 5) j = C4 (a + 5) j := fun j hj => by rw [e5, cpyZ_in (by omega), Nat.zero_add, Nat.sub_zero]
  refine ⟨⟨by omega, by decide, by decide, by decide, by decide, by decide⟩, ?_⟩
  intro C6 e6
  have n6 : ∀ c, c ≠ o + 6 → C6 c = C5 c := fun c hc => by rw [e6]; exact cpyZ_n hc
  have g6 : ∀ j, j < 6 → C6 (o + 6) j = C5 (a + 6) j := fun j hj => by rw [e6, cpyZ_in (by omega), Nat.zero_add, Nat.sub_zero]
  refine ⟨⟨by omega, by decide, by decide, by decide, by decide, by decide⟩, ?_⟩
  intro C7 e7
  have n7 : ∀ c, c ≠ o + 7 → C7 c = C6 c := fun c hc => by rw [e7]; exact cpyZ_n hc
  have g7 : ∀ j, j < 6 → C7 (o + 7) j = C6 (a + 7) j := fun j hj => by rw [e7, cpyZ_in (by omega), Nat.zero_add, Nat.sub_zero]
  refine ⟨⟨by omega, by decide, by decide, by decide, by decide, by decide⟩, ?_⟩
  intro C8 e8
  have n8 : ∀ c, c ≠ o + 8 → C8 c = C7 c := fun c hc => by rw [e8]; exact cpyZ_n hc
  have g8 : ∀ j, j < 6 → C8 (o + 8) j = C7 (a + 8) j := fun j hj => by rw [e8, cpyZ_in (by omega), Nat.zero_add, Nat.sub_zero]
  refine ⟨⟨by omega, by decide, by decide, by decide, by decide, by decide⟩, ?_⟩
  intro C9 e9
  have n9 : ∀ c, c ≠ o + 9 → C9 c = C8 c := fun c hc => by rw [e9]; exact cpyZ_n hc
  have g9 : ∀ j, j < 6 → C9 (o + 9) j = C8 (a + 9) j := fun j hj => by rw [e9, cpyZ_in (by omega), Nat.zero_add, Nat.sub_zero]
  refine ⟨⟨by omega, by decide, by decide, by decide, by decide, by decide⟩, ?_⟩
  intro C10 e10
  have n10 : ∀ c, c ≠ o + 10 → C10 c = C9 c := fun c hc => by rw [e10]; exact cpyZ_n hc
  have g10 : ∀ j, j < 48 → C10 (o + 10) j = C9 (a + 10) j := fun j hj => by rw [e10, cpyZ_in (by omega), Nat.zero_add, Nat.sub_zero]
  refine ⟨⟨by omega, by decide, by decide, by decide, by decide, by decide⟩, ?_⟩
  intro C11 e11
  have n11 : ∀ c, c ≠ o + 11 → C11 c = C10 c := fun c hc => by rw [e11]; exact cpyZ_n hc
  have g11 : ∀ j, j < 8 → C11 (o + 11) j = C10 (a + 11) j := fun j hj => by rw [e11, cpyZ_in (by omega), Nat.zero_add, Nat.sub_zero]
  refine ⟨⟨by omega, by decide, by decide, by decide, by decide, by decide⟩, ?_⟩
  intro C12 e12
  have n12 : ∀ c, c ≠ o + 12 → C12 c = C11 c := fun c hc => by rw [e12]; exact cpyZ_n hc
  have g12 : ∀ j, j < 8 → C12 (o + 12) j = C11 (a + 12) j := fun j hj => by rw [e12, cpyZ_in (by omega), Nat.zero_add, Nat.sub_zero]
  refine ⟨⟨by omega, by decide, by decide, by decide, by decide, by decide⟩, ?_⟩
  intro C13 e13
  have n13 : ∀ c, c ≠ o + 13 → C13 c = C12 c := fun c hc => by rw [e13]; exact cpyZ_n hc
  have g13 : ∀ j, j < 8 → C13 (o + 13) j = C12 (a + 13) j := fun j hj => by rw [e13, cpyZ_in (by omega), Nat.zero_add, Nat.sub_zero]
  refine hq C13 ⟨fun j hj => ?_, fun i h1 h2 j hj => ?_, fun c hc => ?_⟩
  · rw [n13 o (by omega), n12 o (by omega), n11 o (by omega), n10 o (by omega), n9 o (by omega), n8 o (by omega), n7 o (by omega), n6 o (by omega), n5 o (by omega), n4 o (by omega), n3 o (by omega), n2 o (by omega), n1 o (by omega)]; exact v5 j hj
  · have cases : i = 1 ∨ i = 2 ∨ i = 3 ∨ i = 4 ∨ i = 5 ∨ i = 6 ∨ i = 7 ∨ i = 8 ∨ i = 9 ∨ i = 10 ∨ i = 11 ∨ i = 12 ∨ i = 13 := by omega
    rcases cases with rfl | rfl | rfl | rfl | rfl | rfl | rfl | rfl | rfl | rfl | rfl | rfl | rfl
    · rw [n13 (o + 1) (by omega), n12 (o + 1) (by omega), n11 (o + 1) (by omega), n10 (o + 1) (by omega), n9 (o + 1) (by omega), n8 (o + 1) (by omega), n7 (o + 1) (by omega), n6 (o + 1) (by omega), n5 (o + 1) (by omega), n4 (o + 1) (by omega), n3 (o + 1) (by omega), n2 (o + 1) (by omega), g1 j hj, f5 (a + 1) (by omega)]
    · rw [n13 (o + 2) (by omega), n12 (o + 2) (by omega), n11 (o + 2) (by omega), n10 (o + 2) (by omega), n9 (o + 2) (by omega), n8 (o + 2) (by omega), n7 (o + 2) (by omega), n6 (o + 2) (by omega), n5 (o + 2) (by omega), n4 (o + 2) (by omega), n3 (o + 2) (by omega), g2 j hj, n1 (a + 2) (by omega), f5 (a + 2) (by omega)]
    · rw [n13 (o + 3) (by omega), n12 (o + 3) (by omega), n11 (o + 3) (by omega), n10 (o + 3) (by omega), n9 (o + 3) (by omega), n8 (o + 3) (by omega), n7 (o + 3) (by omega), n6 (o + 3) (by omega), n5 (o + 3) (by omega), n4 (o + 3) (by omega), g3 j hj, n2 (a + 3) (by omega), n1 (a + 3) (by omega), f5 (a + 3) (by omega)]
    · rw [n13 (o + 4) (by omega), n12 (o + 4) (by omega), n11 (o + 4) (by omega), n10 (o + 4) (by omega), n9 (o + 4) (by omega), n8 (o + 4) (by omega), n7 (o + 4) (by omega), n6 (o + 4) (by omega), n5 (o + 4) (by omega), g4 j hj, n3 (a + 4) (by omega), n2 (a + 4) (by omega), n1 (a + 4) (by omega), f5 (a + 4) (by omega)]
    · rw [n13 (o + 5) (by omega), n12 (o + 5) (by omega), n11 (o + 5) (by omega), n10 (o + 5) (by omega), n9 (o + 5) (by omega), n8 (o + 5) (by omega), n7 (o + 5) (by omega), n6 (o + 5) (by omega), g5 j hj, n4 (a + 5) (by omega), n3 (a + 5) (by omega), n2 (a + 5) (by omega), n1 (a + 5) (by omega), f5 (a + 5) (by omega)]
    · rw [n13 (o + 6) (by omega), n12 (o + 6) (by omega), n11 (o + 6) (by omega), n10 (o + 6) (by omega), n9 (o + 6) (by omega), n8 (o + 6) (by omega), n7 (o + 6) (by omega), g6 j hj, n5 (a + 6) (by omega), n4 (a + 6) (by omega), n3 (a + 6) (by omega), n2 (a + 6) (by omega), n1 (a + 6) (by omega), f5 (a + 6) (by omega)]
    · rw [n13 (o + 7) (by omega), n12 (o + 7) (by omega), n11 (o + 7) (by omega), n10 (o + 7) (by omega), n9 (o + 7) (by omega), n8 (o + 7) (by omega), g7 j hj, n6 (a + 7) (by omega), n5 (a + 7) (by omega), n4 (a + 7) (by omega), n3 (a + 7) (by omega), n2 (a + 7) (by omega), n1 (a + 7) (by omega), f5 (a + 7) (by omega)]
    · rw [n13 (o + 8) (by omega), n12 (o + 8) (by omega), n11 (o + 8) (by omega), n10 (o + 8) (by omega), n9 (o + 8) (by omega), g8 j hj, n7 (a + 8) (by omega), n6 (a + 8) (by omega), n5 (a + 8) (by omega), n4 (a + 8) (by omega), n3 (a + 8) (by omega), n2 (a + 8) (by omega), n1 (a + 8) (by omega), f5 (a + 8) (by omega)]
    · rw [n13 (o + 9) (by omega), n12 (o + 9) (by omega), n11 (o + 9) (by omega), n10 (o + 9) (by omega), g9 j hj, n8 (a + 9) (by omega), n7 (a + 9) (by omega), n6 (a + 9) (by omega), n5 (a + 9) (by omega), n4 (a + 9) (by omega), n3 (a + 9) (by omega), n2 (a + 9) (by omega), n1 (a + 9) (by omega), f5 (a + 9) (by omega)]
    · rw [n13 (o + 10) (by omega), n12 (o + 10) (by omega), n11 (o + 10) (by omega), g10 j hj, n9 (a + 10) (by omega), n8 (a + 10) (by omega), n7 (a + 10) (by omega), n6 (a + 10) (by omega), n5 (a + 10) (by omega), n4 (a + 10) (by omega), n3 (a + 10) (by omega), n2 (a + 10) (by omega), n1 (a + 10) (by omega), f5 (a + 10) (by omega)]
    · rw [n13 (o + 11) (by omega), n12 (o + 11) (by omega), g11 j hj, n10 (a + 11) (by omega), n9 (a + 11) (by omega), n8 (a + 11) (by omega), n7 (a + 11) (by omega), n6 (a + 11) (by omega), n5 (a + 11) (by omega), n4 (a + 11) (by omega), n3 (a + 11) (by omega), n2 (a + 11) (by omega), n1 (a + 11) (by omega), f5 (a + 11) (by omega)]
    · rw [n13 (o + 12) (by omega), g12 j hj, n11 (a + 12) (by omega), n10 (a + 12) (by omega), n9 (a + 12) (by omega), n8 (a + 12) (by omega), n7 (a + 12) (by omega), n6 (a + 12) (by omega), n5 (a + 12) (by omega), n4 (a + 12) (by omega), n3 (a + 12) (by omega), n2 (a + 12) (by omega), n1 (a + 12) (by omega), f5 (a + 12) (by omega)]
    · rw [g13 j hj, n12 (a + 13) (by omega), n11 (a + 13) (by omega), n10 (a + 13) (by omega), n9 (a + 13) (by omega), n8 (a + 13) (by omega), n7 (a + 13) (by omega), n6 (a + 13) (by omega), n5 (a + 13) (by omega), n4 (a + 13) (by omega), n3 (a + 13) (by omega), n2 (a + 13) (by omega), n1 (a + 13) (by omega), f5 (a + 13) (by omega)]
  · rw [n13 c (by omega), n12 c (by omega), n11 c (by omega), n10 c (by omega), n9 c (by omega), n8 c (by omega), n7 c (by omega), n6 c (by omega), n5 c (by omega), n4 c (by omega), n3 c (by omega), n2 c (by omega), n1 c (by omega), f5 c (by omega)]
def CpR (J J1 : mJ) (o a : Nat) : Prop := J1 o 0 = J a 0 ∧ (∀ i, 1 ≤ i → i < 5 → ∀ j, j < 10 → J1 (o + i) j = J (a + i) j) ∧ (∀ c, (c < o ∨ o + 4 < c) → J1 c = J c)
theorem x_copyR {J : mJ} {o a : Nat} (hd : o + 4 < a ∨ a + 4 < o) {post' : mJ → Prop} (hq : ∀ J1, CpR J J1 o a → post' J1) : v_X6_copyFrom J o a post' := by
  unfold v_X6_copyFrom
  rintro J1 rfl
  generalize hJ5 : up2 J o 0 (J a 0) = J5
  have f5 : ∀ c, c ≠ o → J5 c = J c := fun c hc => by rw [← hJ5, u2n hc]
  have v5 : J5 o 0 = J a 0 := by rw [← hJ5, up2_at]
  refine ⟨⟨by omega, by decide, by decide, by decide, by decide, by decide⟩, ?_⟩
  intro C1 e1
  have n1 : ∀ c, c ≠ o + 1 → C1 c = J5 c := fun c hc => by rw [e1]; exact cpyZ_n hc
  have g1 : ∀ j, j < 10 → C1 (o + 1) j = J5 (a + 1) j := fun j hj => by rw [e1, cpyZ_in (by omega), Nat.zero_add, Nat.sub_zero]
  refine ⟨⟨by omega, by decide, by decide, by decide, by decide, by decide⟩, ?_⟩
  intro C2 e2
  have n2 : ∀ c, c ≠ o + 2 → C2 c = C1 c := fun c hc => by rw [e2]; exact cpyZ_n hc
  have g2 : ∀ j, j < 10 → C2 (o + 2) j = C1 (a + 2) j := fun j hj => by rw [e2, cpyZ_in (by omega), Nat.zero_add, Nat.sub_zero]
  refine ⟨⟨by omega, by decide, by decide, by decide, by decide, by decide⟩, ?_⟩
  intro C3 e3
  have n3 : ∀ c, c ≠ o + 3 → C3 c = C2 c := fun c hc => by rw [e3]; exact cpyZ_n hc
  have g3 : ∀ j, j < 10 → C3 (o + 3) j = C2 (a + 3) j := fun j hj => by rw [e3, cpyZ_in (by omega), Nat.zero_add, Nat.sub_zero]
  refine ⟨⟨by omega, by decide, by decide, by decide, by decide, by decide⟩, ?_⟩
  intro C4 e4
  have n4 : ∀ c, c ≠ o + 4 → C4 c = C3 c := fun c hc => by rw [e4]; exact cpyZ_n hc
  have g4 : ∀ j, j < 10 → C4 (o + 4) j = C3 (a + 4) j := fun j hj => by rw [e4, cpyZ_in (by omega), Nat.zero_add, Nat.sub_zero]
  refine hq C4 ⟨?_, fun i h1 h2 j hj => ?_, fun c hc => ?_⟩
  · rw [n4 o (by omega), n3 o (by omega), n2 o (by omega), n1 o (by omega)]; exact v5
  · have cases : i = 1 ∨ i = 2 ∨ i = 3 ∨ i = 4 := by omega
    rcases cases with rfl | rfl | rfl | rfl
    · rw [n4 (o + 1) (by omega), n3 (o + 1) (by omega), n2 (o + 1) (by omega), g1 j hj, f5 (a + 1) (by omega)]
    · rw [n4 (o + 2) (by omega), n3 (o + 2) (by omega), g2 j hj, n1 (a + 2) (by omega), f5 (a + 2) (by omega)]
    · rw [n4 (o + 3) (by omega), g3 j hj, n2 (a + 3) (by omega), n1 (a + 3) (by omega), f5 (a + 3) (by omega)]
    · rw [g4 j hj, n3 (a + 4) (by omega), n2 (a + 4) (by omega), n1 (a + 4) (by omega), f5 (a + 4) (by omega)]
  · rw [n4 c (by omega), n3 c (by omega), n2 c (by omega), n1 c (by omega), f5 c (by omega)]
theorem HR_copy {J J1 : mJ} {o a : Nat} {g : Nat → Int} (hv : HV g) (hr : HR J a g) (h : CpH J J1 o a) : HR J1 o g := by
  obtain ⟨c0, c1, c2⟩ := h
  obtain ⟨⟨b0, b1, b2, b3, b4⟩, bc, bf, bp, bh⟩ := hr
  have v2 := hv.2.2.1
  have v3 := hv.2.2.2.1
  have v4 := hv.2.2.2.2.1
  have k : ∀ i, 1 ≤ i → i < 14 → ∀ j, j < lnH2 i → J1 (o + i) j = J (a + i) j := c1
  refine ⟨⟨by rw [c0 0 (by decide)]; exact b0, by rw [c0 1 (by decide)]; exact b1, by rw [c0 2 (by decide)]; exact b2, by rw [c0 3 (by decide)]; exact b3, by rw [c0 4 (by decide)]; exact b4⟩, fun s hs => by rw [k 1 (by decide) (by decide) s hs]; exact bc s hs, fun f hf => ?_, fun p hp => ?_, fun c hc => ?_⟩
  · rw [k 2 (by decide) (by decide) f (by show f < 6; omega), k 3 (by decide) (by decide) f (by show f < 6; omega)]; exact bf f hf
  · obtain ⟨p1, p2, p3, p4, p5, p6, p7⟩ := bp p hp
    obtain ⟨_, _, _, _, q5, _⟩ := hv.2.2.2.2.2.2.2.1 p hp
    rw [k 4 (by decide) (by decide) p (by show p < 6; omega), k 5 (by decide) (by decide) p (by show p < 6; omega), k 6 (by decide) (by decide) p (by show p < 6; omega), k 7 (by decide) (by decide) p (by show p < 6; omega), k 8 (by decide) (by decide) p (by show p < 6; omega), k 9 (by decide) (by decide) p (by show p < 6; omega)]
    exact ⟨p1, p2, p3, p4, p5, p6, fun q hq => by rw [k 10 (by decide) (by decide) (8 * p + q) (by show 8 * p + q < 48; omega)]; exact p7 q hq⟩
  · rw [k 11 (by decide) (by decide) c (by show c < 8; omega), k 12 (by decide) (by decide) c (by show c < 8; omega), k 13 (by decide) (by decide) c (by show c < 8; omega)]; exact bh c hc
theorem RdR_copy {J J1 : mJ} {o a : Nat} {r : Nat → Int} (hv : RdV r) (hr : RdR J a r) (h : CpR J J1 o a) : RdR J1 o r := by
  obtain ⟨c0, c1, c2⟩ := h
  have v0 := hv.1
  refine ⟨by rw [c0]; exact hr.1, fun k hk => ?_⟩
  rw [c1 1 (by decide) (by decide) k (by omega), c1 2 (by decide) (by decide) k (by omega), c1 3 (by decide) (by decide) k (by omega), c1 4 (by decide) (by decide) k (by omega)]; exact hr.2 k hk
theorem HV_cong {g g' : Nat → Int} (e : ∀ j, j < 149 → g' j = g j) (h : HV g) : HV g' := by
  obtain ⟨a0, a1, a2, a3, a4, a5, a6, a7, a8⟩ := h
  have e0 := e 0 (by decide)
  have e1 := e 1 (by decide)
  have e2 := e 2 (by decide)
  have e3 := e 3 (by decide)
  have e4 := e 4 (by decide)
  refine ⟨by rw [e0]; exact a0, by rw [e1]; exact a1, by rw [e2]; exact a2, by rw [e3]; exact a3, by rw [e4]; exact a4, fun s hs => by rw [e (5 + s) (by omega)]; exact a5 s hs, fun f hf => ?_, fun p hp => ?_, fun c hc => ?_⟩
  · rw [e2] at hf; rw [e (29 + 2 * f) (by omega), e (30 + 2 * f) (by omega), e0]; exact a6 f hf
  · rw [e3] at hp
    obtain ⟨p1, p2, p3, p4, p5, p6, p7, p8, p9⟩ := a7 p hp
    unfold PV
    rw [e (41 + 14 * p) (by omega), e (42 + 14 * p) (by omega), e (43 + 14 * p) (by omega), e (44 + 14 * p) (by omega), e (46 + 14 * p) (by omega), e (45 + 14 * p) (by omega), e0]
    exact ⟨p1, p2, p3, p4, p5, p6, p7, p8, fun k hk => by rw [e (47 + 14 * p + k) (by omega)]; exact p9 k hk⟩
  · rw [e4] at hc; rw [e (125 + 3 * c) (by omega), e (126 + 3 * c) (by omega), e (127 + 3 * c) (by omega), e3]; exact a8 c hc
theorem HR_cong {J : mJ} {h : Nat} {g g' : Nat → Int} (e : ∀ j, j < 149 → g' j = g j) (hv : HV g) (hr : HR J h g) : HR J h g' := by
  obtain ⟨⟨b0, b1, b2, b3, b4⟩, bc, bf, bp, bh⟩ := hr
  have v2 := hv.2.2.1
  have v3 := hv.2.2.2.1
  have v4 := hv.2.2.2.2.1
  have e2 := e 2 (by decide)
  have e3 := e 3 (by decide)
  have e4 := e 4 (by decide)
  refine ⟨by rw [e 0 (by decide), e 1 (by decide), e2, e3, e4]; exact ⟨b0, b1, b2, b3, b4⟩, fun s hs => by rw [e (5 + s) (by omega)]; exact bc s hs, fun f hf => ?_, fun p hp => ?_, fun c hc => ?_⟩
  · rw [e2] at hf; rw [e (29 + 2 * f) (by omega), e (30 + 2 * f) (by omega)]; exact bf f hf
  · rw [e3] at hp
    obtain ⟨p1, p2, p3, p4, p5, p6, p7⟩ := bp p hp
    obtain ⟨_, _, _, _, q5, _⟩ := hv.2.2.2.2.2.2.2.1 p hp
    rw [e (41 + 14 * p) (by omega), e (42 + 14 * p) (by omega), e (43 + 14 * p) (by omega), e (44 + 14 * p) (by omega), e (45 + 14 * p) (by omega), e (46 + 14 * p) (by omega)]
    exact ⟨p1, p2, p3, p4, p5, p6, fun k hk => by rw [e (47 + 14 * p + k) (by omega)]; exact p7 k hk⟩
  · rw [e4] at hc; rw [e (125 + 3 * c) (by omega), e (126 + 3 * c) (by omega), e (127 + 3 * c) (by omega)]; exact bh c hc
theorem RdV_cong {r r' : Nat → Int} (e : ∀ j, j < 41 → r' j = r j) (h : RdV r) : RdV r' := by
  have e0 := e 0 (by decide)
  have h0 := h.1
  refine ⟨by rw [e0]; exact h.1, fun k hk => ?_⟩
  rw [e0] at hk
  rw [e (1 + 4 * k) (by omega), e (2 + 4 * k) (by omega), e (3 + 4 * k) (by omega), e (4 + 4 * k) (by omega)]; exact h.2 k hk
theorem RdR_cong {J : mJ} {o : Nat} {r r' : Nat → Int} (e : ∀ j, j < 41 → r' j = r j) (hv : RdV r) (h : RdR J o r) : RdR J o r' := by
  have e0 := e 0 (by decide)
  have h0 := hv.1
  refine ⟨by rw [e0]; exact h.1, fun k hk => ?_⟩
  rw [e0] at hk
  rw [e (1 + 4 * k) (by omega), e (2 + 4 * k) (by omega), e (3 + 4 * k) (by omega), e (4 + 4 * k) (by omega)]; exact h.2 k hk
def InvEA (J : mJ) (A : Nat → Int) : Prop := ∀ k : Nat, k < 2 → ¬ J (94 + 17 * k) 1 = 0 → (k : Int) < A 0 → EvO J (94 + 17 * k) (gH A k)
def InvRA (J : mJ) (A : Nat → Int) : Prop := ∀ (k p f e mi : Nat) (fl : Int), k < 2 → J 70 3 = (k : Int) → J 70 4 = (p : Int) → J 70 5 = (f : Int) → J 70 6 = (e : Int) → J 70 7 = (mi : Int) → J 70 8 = fl → RtP J (qF (gH A k) p mi fl) (gH A k 0).toNat (gH A k (43 + 14 * p)).toNat f e
theorem InvEA_of {J J1 : mJ} {A A1 : Nat → Int} (h : InvEA J A) (h0 : A1 0 = A 0) (hg : ∀ k, k < 2 → gH A1 k = gH A k) (hf : ∀ c, 94 ≤ c → c < 128 → J1 c = J c) : InvEA J1 A1 := by
  intro k hk hfr hk0
  rw [h0] at hk0
  rw [hf _ (by omega) (by omega)] at hfr
  rw [hg k hk]
  exact EvO_frame (fun i hi => hf _ (by omega) (by omega)) (h k hk hfr hk0)
theorem InvRA_of {J J1 : mJ} {A A1 : Nat → Int} (h : InvRA J A) (hg : ∀ k, k < 2 → gH A1 k = gH A k) (h1 : J1 70 = J 70) (h2 : J1 71 = J 71) : InvRA J1 A1 := by
  intro k p f e mi fl hk a3 a4 a5 a6 a7 a8
  rw [h1] at a3 a4 a5 a6 a7 a8
  rw [hg k hk]
  exact RtP_frame (by rw [h1]) (by rw [h1]) h2 (h k p f e mi fl hk a3 a4 a5 a6 a7 a8)
theorem txH_g {A : Nat → Int} {F : Ft} (k : Nat) : gH (txH A F) k = gH A k ∧ rH (txH A F) k = rH A k := by
  refine ⟨?_, ?_⟩
  · exact gH_e (fun j _ => by unfold txH; rw [up1_rd (by omega), up1_rd (by omega), up1_rd (by omega)])
  · funext j; unfold rH txH; rw [up1_rd (by omega), up1_rd (by omega), up1_rd (by omega)]
theorem TI_hdr {J J1 : mJ} {A : Nat → Int} {F : Ft} (h : TI J 1 A) (h1 : J1 1 1 = 0) (h2 : J1 1 2 = F.1) (h3 : J1 1 3 = F.2) (h4 : J1 1 4 = J 1 4) (h5 : J1 1 5 = J 1 5) (hf : ∀ c, 2 ≤ c → c < 43 → J1 c = J c) : TI J1 1 (txH A F) := by
  obtain ⟨⟨b1, b2, b3, b4, b5⟩, a2, a3, a4, a5, a6, a7⟩ := h
  have k : ∀ j, j ≠ 2 → j ≠ 3 → j ≠ 4 → txH A F j = A j := fun j x y z => by unfold txH; rw [up1_rd z, up1_rd y, up1_rd x]
  have k2 : txH A F 2 = 0 := by unfold txH; rw [up1_rd (by decide), up1_rd (by decide), up1_s]
  have k3 : txH A F 3 = F.1 := by unfold txH; rw [up1_rd (by decide), up1_s]
  have k4 : txH A F 4 = F.2 := by unfold txH; rw [up1_s]
  have k0 := k 0 (by decide) (by decide) (by decide)
  have k1 := k 1 (by decide) (by decide) (by decide)
  refine ⟨⟨by rw [h4, k0]; exact b1, by rw [h5, k1]; exact b2, by rw [k2]; exact h1, by rw [k3]; exact h2, by rw [k4]; exact h3⟩, by rw [k0]; exact a2, by rw [k1]; exact a3, by rw [k2]; decide, fun i hi => ?_, fun q hq => ?_, fun q hq => ?_⟩
  · rw [k _ (by omega) (by omega) (by omega), hf _ (by decide) (by decide)]; exact a5 i hi
  · rw [k0] at hq
    rw [(txH_g q).1]
    exact ⟨(a6 q hq).1, HR_frame (fun i hi => hf _ (by omega) (by omega)) (a6 q hq).2⟩
  · rw [k1] at hq
    rw [(txH_g q).2]
    exact ⟨(a7 q hq).1, RdR_frame (fun i hi => hf _ (by omega) (by omega)) (a7 q hq).2⟩
/-- a reading taken -/
theorem TI_rd {J J1 : mJ} {B A : Nat → Int} {k : Nat} {r : Nat → Int} (hk : k ≤ 1) (h : TI J 1 B) (h5 : J1 1 5 = A 1) (hj : ∀ j, j ≠ 5 → J1 1 j = J 1 j) (hc : ∀ c, 2 ≤ c → c < 43 → (c < 19 + 19 * k ∨ 19 + 19 * k + 4 < c) → J1 c = J c) (rv : RdV r) (rr : RdR J1 (19 + 19 * k) r) (hA : ∀ j, ¬ (908 + 41 * k ≤ j ∧ j < 908 + 41 * k + 41) → j ≠ 1 → A j = B j) (hB : ∀ j, j < 41 → A (908 + 41 * k + j) = r j) (h1 : 0 ≤ A 1 ∧ A 1 ≤ 2) (h2 : ∀ q : Nat, (q : Int) < A 1 → q ≠ k → (q : Int) < B 1) : TI J1 1 A ∧ ∀ q, q < 2 → gH A q = gH B q := by
  obtain ⟨⟨b1, b2, b3, b4, b5⟩, a2, a3, a4, a5, a6, a7⟩ := h
  have gg : ∀ q, q < 2 → gH A q = gH B q := fun q hq => gH_e (fun j hj => hA _ (by omega) (by omega))
  have e0 := hA 0 (by omega) (by decide)
  have e2 := hA 2 (by omega) (by decide)
  have e3 := hA 3 (by omega) (by decide)
  have e4 := hA 4 (by omega) (by decide)
  refine ⟨⟨⟨by rw [hj 4 (by decide), e0]; exact b1, h5, by rw [hj 1 (by decide), e2]; exact b3, by rw [hj 2 (by decide), e3]; exact b4, by rw [hj 3 (by decide), e4]; exact b5⟩, by rw [e0]; exact a2, h1, by rw [e2]; exact a4, fun i hi => ?_, fun q hq => ?_, fun q hq => ?_⟩, gg⟩
  · rw [hA (10 + i) (by omega) (by omega), hc (1 + 1) (by decide) (by decide) (by omega)]; exact a5 i hi
  · rw [e0] at hq
    rw [gg q (by omega)]
    have := a6 q hq
    exact ⟨this.1, HR_frame (fun i hi => hc _ (by omega) (by omega) (by omega)) this.2⟩
  · by_cases hqk : q = k
    · subst hqk
      have e : ∀ j, j < 41 → rH A q j = r j := fun j hj => hB j hj
      refine ⟨RdV_cong e rv, ?_⟩
      have := RdR_cong e rv rr
      rw [show 1 + 18 + 19 * q = 19 + 19 * q by omega]; exact this
    · have := a7 q (h2 q hq hqk)
      have e : ∀ j, j < 41 → rH A q j = rH B q j := fun j hj => hA _ (by omega) (by omega)
      exact ⟨RdV_cong e this.1, RdR_cong e this.1 (RdR_frame (fun i hi => hc _ (by omega) (by omega) (by omega)) this.2)⟩
/-- a house taken -/
theorem TI_hs {J J1 : mJ} {B A : Nat → Int} {k : Nat} {g : Nat → Int} (hk : k ≤ 1) (h : TI J 1 B) (h4 : J1 1 4 = A 0) (hj : ∀ j, j ≠ 4 → J1 1 j = J 1 j) (hc : ∀ c, 2 ≤ c → c < 43 → (c < 5 + 19 * k ∨ 5 + 19 * k + 13 < c) → J1 c = J c) (rv : HV g) (rr : HR J1 (5 + 19 * k) g) (hA : ∀ j, ¬ (610 + 149 * k ≤ j ∧ j < 610 + 149 * k + 149) → j ≠ 0 → A j = B j) (hB : ∀ j, j < 149 → A (610 + 149 * k + j) = g j) (h1 : 0 ≤ A 0 ∧ A 0 ≤ 2) (h2 : ∀ q : Nat, (q : Int) < A 0 → q ≠ k → (q : Int) < B 0) : TI J1 1 A ∧ ∀ q, q < 2 → q ≠ k → gH A q = gH B q := by
  obtain ⟨⟨b1, b2, b3, b4, b5⟩, a2, a3, a4, a5, a6, a7⟩ := h
  have gg : ∀ q, q < 2 → q ≠ k → gH A q = gH B q := fun q hq hqk => gH_e (fun j hj => hA _ (by omega) (by omega))
  have e1 := hA 1 (by omega) (by decide)
  have e2 := hA 2 (by omega) (by decide)
  have e3 := hA 3 (by omega) (by decide)
  have e4 := hA 4 (by omega) (by decide)
  refine ⟨⟨⟨h4, by rw [hj 5 (by decide), e1]; exact b2, by rw [hj 1 (by decide), e2]; exact b3, by rw [hj 2 (by decide), e3]; exact b4, by rw [hj 3 (by decide), e4]; exact b5⟩, h1, by rw [e1]; exact a3, by rw [e2]; exact a4, fun i hi => ?_, fun q hq => ?_, fun q hq => ?_⟩, gg⟩
  · rw [hA (10 + i) (by omega) (by omega), hc (1 + 1) (by decide) (by decide) (by omega)]; exact a5 i hi
  · by_cases hqk : q = k
    · subst hqk
      have e : ∀ j, j < 149 → gH A q j = g j := fun j hj => by rw [gH_r hj]; exact hB j hj
      refine ⟨HV_cong e rv, ?_⟩
      have := HR_cong e rv rr
      rw [show 1 + 4 + 19 * q = 5 + 19 * q by omega]; exact this
    · rw [gg q (by omega) hqk]
      have := a6 q (h2 q hq hqk)
      exact ⟨this.1, HR_frame (fun i hi => hc _ (by omega) (by omega) (by omega)) this.2⟩
  · rw [e1] at hq
    have := a7 q hq
    have e : ∀ j, j < 41 → rH A q j = rH B q j := fun j hj => hA _ (by omega) (by omega)
    exact ⟨RdV_cong e this.1, RdR_cong e this.1 (RdR_frame (fun i hi => hc _ (by omega) (by omega) (by omega)) this.2)⟩
theorem x_placeFor {J : mJ} {A : Nat → Int} {a1 a2 : Int} (h : TI J 1 A) {post' : Int → Prop} (h0 : ¬ txOk A a1 a2 → post' (-1)) (h1 : txOk A a1 a2 → post' (txK A a1 a2)) : v_X11_placeFor J a1 a2 post' := by
  have b1 := h.1.1
  have b2 := h.1.2.1
  have a2' := h.2.1
  have a3' := h.2.2.1
  unfold v_X11_placeFor v_X11_howMany
  have go : (0 ≤ a1 ∧ a1 ≤ 1) → ∀ r1 : Int, r1 = A a1.toNat → 0 ≤ r1 → r1 ≤ 2 → (0 ≤ r1 → (¬ a2 = (-1) → (a2 < 0 → post' (-1)) ∧ (¬ a2 < 0 → (r1 ≤ a2 → post' (-1)) ∧ (¬ r1 ≤ a2 → post' a2))) ∧ (a2 = (-1) → (2 ≤ r1 → post' (-1)) ∧ (¬ 2 ≤ r1 → post' r1))) ∧ (¬ 0 ≤ r1 → post' (-1)) := by
    rintro ha r1 rfl p0 p2
    unfold txK at h1
    refine ⟨fun _ => ⟨fun c1 => ⟨fun c2 => h0 (fun h => by have := h.2.2 c1; omega), fun c2 => ⟨fun c3 => h0 (fun h => by have := h.2.2 c1; omega), fun c3 => ?_⟩⟩, fun c1 => ⟨fun c2 => h0 (fun h => by have := h.2.1 c1; omega), fun c2 => ?_⟩⟩, fun c => absurd p0 c⟩
    · rw [if_neg c1] at h1; exact h1 ⟨ha, fun h => absurd h c1, fun _ => by omega⟩
    · rw [if_pos c1] at h1; exact h1 ⟨ha, fun _ => by omega, fun h => absurd c1 h⟩
  refine ⟨fun c1 => ⟨fun c2 => ⟨fun c3 => absurd c3 (by decide), fun _ => h0 (fun h => by have := h.1; omega)⟩, fun c2 => ?_⟩, fun c1 => ?_⟩
  · subst c2; exact go (by decide) _ b2 (by rw [b2]; exact a3'.1) (by rw [b2]; exact a3'.2)
  · subst c1; exact go (by decide) _ b1 (by rw [b1]; exact a2'.1) (by rw [b1]; exact a2'.2)
theorem x_text {J : mJ} {a1 a2 : Int} (hI : TI J 1 (J 129)) (hE : InvE J) (hR : InvR J) (i1 : ir a1) {post' : Int → mJ → Prop} (hq : ∀ J1, TI J1 1 (txA (J 129) a1 a2) → InvEA J1 (txA (J 129) a1 a2) → InvRA J1 (txA (J 129) a1 a2) → (∀ c, (c = 43 ∨ 128 ≤ c) → J1 c = J c) → post' (txR (J 129) a1 a2) J1) : v_X11_text J a1 a2 post' := by
  have hE' : InvEA J (J 129) := hE
  have hR' : InvRA J (J 129) := hR
  have h2 := hI.2.2.2.1
  unfold v_X11_text
  rw [hI.1.2.2.1]
  rintro _ rfl J2 rfl J3 rfl J4 rfl
  generalize hJ4 : up2 (up2 (up2 J 1 1 0) 1 2 0) 1 3 (-1) = J4
  have f4 : ∀ c, c ≠ 1 → J4 c = J c := fun c hc => by rw [← hJ4, u2n hc, u2n hc, u2n hc]
  have v4 : J4 1 1 = 0 ∧ J4 1 2 = 0 ∧ J4 1 3 = -1 ∧ J4 1 4 = J 1 4 ∧ J4 1 5 = J 1 5 := by
    rw [← hJ4]; refine ⟨?_, ?_, ?_, ?_, ?_⟩ <;> simp [up2_s, up1]
  have t4 : TI J4 1 (txH (J 129) (0, -1)) := TI_hdr hI v4.1 v4.2.1 v4.2.2.1 v4.2.2.2.1 v4.2.2.2.2 (fun c x y => f4 c (by omega))
  have g0 : ∀ F : Ft, txH (J 129) F 0 = J 129 0 ∧ txH (J 129) F 1 = J 129 1 := fun F => by unfold txH; exact ⟨by rw [up1_rd (by decide), up1_rd (by decide), up1_rd (by decide)], by rw [up1_rd (by decide), up1_rd (by decide), up1_rd (by decide)]⟩
  have okH : txOk (txH (J 129) (0, -1)) a1 a2 ↔ txOk (J 129) a1 a2 := by
    have e : (0 ≤ a1 ∧ a1 ≤ 1) → txH (J 129) (0, -1) a1.toNat = J 129 a1.toNat := fun h => by
      have : a1 = 0 ∨ a1 = 1 := by omega
      rcases this with x | x
      · subst x; exact (g0 _).1
      · subst x; exact (g0 _).2
    constructor
    · rintro ⟨x, y, z⟩; rw [e x] at y z; exact ⟨x, y, z⟩
    · rintro ⟨x, y, z⟩; refine ⟨x, ?_, ?_⟩ <;> rw [e x] <;> assumption
  refine x_placeFor t4 (fun c => ⟨fun c1 => absurd rfl c1, fun _ => ?_⟩) (fun ok => ?_)
  · have c' : ¬ txOk (J 129) a1 a2 := fun h => c (okH.mpr h)
    unfold txA txR at hq
    rw [if_neg c', if_neg c'] at hq
    exact hq J4 t4 (InvEA_of hE' (g0 _).1 (fun k _ => (txH_g k).1) (fun c x y => f4 c (by omega))) (InvRA_of hR' (fun k _ => (txH_g k).1) (f4 70 (by decide)) (f4 71 (by decide))) (fun c hc => f4 c (by omega))
  · have ok' := okH.mp ok
    unfold txA txR at hq
    rw [if_pos ok', if_pos ok'] at hq
    have a01 : a1 = 0 ∨ a1 = 1 := by have := ok'.1; omega
    have jb : J 129 a1.toNat ≤ 2 ∧ 0 ≤ J 129 a1.toNat := by
      rcases a01 with e | e
      · subst e; exact ⟨hI.2.1.2, hI.2.1.1⟩
      · subst e; exact ⟨hI.2.2.1.2, hI.2.2.1.1⟩
    have eK : txK (txH (J 129) (0, -1)) a1 a2 = txK (J 129) a1 a2 := by
      unfold txK
      rcases a01 with e | e
      · subst e; rw [show (0 : Int).toNat = 0 from rfl, (g0 _).1]
      · subst e; rw [show (1 : Int).toNat = 1 from rfl, (g0 _).2]
    rw [eK]
    obtain ⟨k, ek⟩ : ∃ k : Nat, txK (J 129) a1 a2 = (k : Int) := ⟨(txK (J 129) a1 a2).toNat, by unfold txK; split; omega; next c => have := ok'.2.2 c; omega⟩
    have k1 : k ≤ 1 := by
      unfold txK at ek
      split at ek
      · next c => have := ok'.2.1 c; omega
      · next c => have := ok'.2.2 c; omega
    rw [ek] at hq ⊢
    rw [Int.toNat_natCast] at hq
    refine ⟨fun _ => ?_, fun c1 => by omega⟩
    rw [show J 129 2 = ((txN (J 129) : Nat) : Int) by unfold txN; omega]
    refine x_read (B := txB (J 129)) i1 (by unfold txN; omega) (fun i hi => ?_) (fun J6 rf rc fr6 => ?_)
    · have := hI.2.2.2.2.1 i hi
      rw [f4 2 (by decide)]
      unfold txB
      refine ⟨by omega, ?_⟩
      rw [show ((J 129 (10 + i)).toNat : Int) = J 129 (10 + i) by omega]; exact this.2
    rintro J7 rfl
    have e443 : up2 J6 1 2 (J6 44 2) 44 3 = J6 44 3 := by rw [u2n (by decide)]
    rw [e443]
    rintro J8 rfl
    change J6 44 2 = (txF (J 129) a1).1 ∧ J6 44 3 = (txF (J 129) a1).2 at rf
    change (txF (J 129) a1).1 = 0 → _ at rc
    generalize hJ8 : up2 (up2 J6 1 2 (J6 44 2)) 1 3 (J6 44 3) = J8
    have f8 : ∀ c, c ≠ 1 → J8 c = J6 c := fun c hc => by rw [← hJ8, u2n hc, u2n hc]
    have o8 : ∀ c, c ≠ 1 → (c < 44 ∨ 64 < c) → J8 c = J c := fun c hc hx => by rw [f8 c hc, fr6 c hx, f4 c hc]
    have v8 : J8 1 1 = 0 ∧ J8 1 2 = (txF (J 129) a1).1 ∧ J8 1 3 = (txF (J 129) a1).2 ∧ J8 1 4 = J 1 4 ∧ J8 1 5 = J 1 5 := by
      have e1 := fr6 1 (by omega)
      rw [← hJ8]
      refine ⟨?_, ?_, ?_, ?_, ?_⟩
      · rw [up2_off _ _ (Or.inr (by decide)), up2_off _ _ (Or.inr (by decide)), e1]; exact v4.1
      · rw [up2_off _ _ (Or.inr (by decide)), up2_at]; exact rf.1
      · rw [up2_at]; exact rf.2
      · rw [up2_off _ _ (Or.inr (by decide)), up2_off _ _ (Or.inr (by decide)), e1]; exact v4.2.2.2.1
      · rw [up2_off _ _ (Or.inr (by decide)), up2_off _ _ (Or.inr (by decide)), e1]; exact v4.2.2.2.2
    have t8 : TI J8 1 (txH (J 129) (txF (J 129) a1)) := TI_hdr hI v8.1 v8.2.1 v8.2.2.1 v8.2.2.2.1 v8.2.2.2.2 (fun c x y => o8 c (by omega) (by omega))
    rw [show J8 44 2 = (txF (J 129) a1).1 by rw [f8 44 (by decide)]; exact rf.1]
    refine ⟨fun z => ?_, fun z => ?_⟩
    · rw [if_pos z, if_pos z] at hq
      have cd := rc z
      have sV : StV (txB (J 129)) (txN (J 129)) a1 (stE (txB (J 129)) (txN (J 129)) a1) := it_V _ _ (st0_V _ _ a1)
      have zz := z
      unfold txF at zz
      unfold txG at hq
      generalize stE (txB (J 129)) (txN (J 129)) a1 = E at *
      have EF : (a1 = 0 → E.2.2.2.1 < E.2.2.1 0 ∧ E.2.2.2.2 < E.2.2.1 3) ∧ E.2.1.1 = 0 := by
        unfold stF at zz
        split at zz
        · exact absurd zz (blm_0 (by decide))
        · next c => exact ⟨fun h => ⟨by have := fun x => c ⟨h, Or.inl x⟩; omega, by have := fun x => c ⟨h, Or.inr x⟩; omega⟩, zz⟩
      have dV := sV.2.2 EF.2
      generalize txF (J 129) a1 = FF at *
      unfold v_X11_takeText
      rw [Int.toNat_natCast]
      have tt8 := t8
      obtain ⟨⟨b1, b2, b3, b4, b5⟩, t2, t3, t4', t5, t6, t7⟩ := t8
      refine ⟨fun c1 => ⟨⟨by omega, by omega⟩, x_copyR (by omega) (fun J9 cp => ⟨⟨by omega, by omega⟩, ?_⟩)⟩, fun c1 => ⟨⟨by omega, by omega⟩, x_copyH (by omega) (fun J9 cp => ⟨⟨by omega, by omega⟩, ?_⟩)⟩⟩
      · have e1 : a1 = 1 := by omega
        subst e1
        rintro J11 rfl
        have rV : RdV E.2.2.1 := dV.2 (by decide)
        have rR : RdR J8 59 E.2.2.1 := RdR_frame (fun i hi => f8 _ (by omega)) (cd.2 (by decide))
        have rN := RdR_copy rV rR cp
        have cpf := cp.2.2
        have e15 : J9 1 5 = J 129 1 := by rw [cpf 1 (by omega), b2]; exact (g0 _).2
        rw [e15]
        have mx : maxZ (J 129 1) ((k : Int) + 1) = if a2 = -1 then J 129 1 + 1 else J 129 1 := by
          unfold txK at ek
          rw [show (1 : Int).toNat = 1 from rfl] at *
          unfold maxZ
          by_cases c2 : a2 = -1
          · rw [if_pos c2] at ek; rw [if_pos c2]; rw [if_pos (by omega)]; omega
          · rw [if_neg c2] at ek; rw [if_neg c2]; have : a2 < J 129 1 := (ok'.2.2 c2).2; rw [if_neg (by omega)]
        rw [mx]
        generalize hA : (fun j => if txP 1 k ≤ j ∧ j < txP 1 k + txL 1 then E.2.2.1 (j - txP 1 k) else if a2 = -1 ∧ j = (1 : Int).toNat then J 129 j + 1 else txH (J 129) FF j) = A' at hq
        have aA : ∀ j, A' j = if txP 1 k ≤ j ∧ j < txP 1 k + txL 1 then E.2.2.1 (j - txP 1 k) else if a2 = -1 ∧ j = (1 : Int).toNat then J 129 j + 1 else txH (J 129) FF j := fun j => by rw [← hA]
        have P1 : txP 1 k = 908 + 41 * k := by unfold txP; rw [if_neg (by decide)]
        have L1 : txL 1 = 41 := by unfold txL; rw [if_neg (by decide)]
        rw [P1, L1, show (1 : Int).toNat = 1 from rfl] at aA
        have aH : ∀ j, ¬ (908 + 41 * k ≤ j ∧ j < 908 + 41 * k + 41) → j ≠ 1 → A' j = txH (J 129) FF j := fun j x y => by rw [aA, if_neg x, if_neg (fun h => y h.2)]
        have a1' : A' 1 = if a2 = -1 then J 129 1 + 1 else J 129 1 := by
          rw [aA, if_neg (by omega)]
          by_cases c2 : a2 = -1
          · rw [if_pos ⟨c2, rfl⟩, if_pos c2]
          · rw [if_neg (fun h => c2 h.1), if_neg c2]; exact (g0 _).2
        have b1' : J 129 1 = txH (J 129) FF 1 := (g0 _).2.symm
        have kq : txK (J 129) 1 a2 = (k : Int) := ek
        have n1' : (a2 = -1 → J 129 1 = (k : Int)) ∧ (¬ a2 = -1 → (k : Int) < J 129 1) := by
          unfold txK at kq
          rw [show (1 : Int).toNat = 1 from rfl] at kq
          constructor
          · intro c2; rw [if_pos c2] at kq; exact kq
          · intro c2; rw [if_neg c2] at kq; have := (ok'.2.2 c2).2; rw [show (1 : Int).toNat = 1 from rfl] at this; omega
        have jb1 : J 129 1 ≤ 2 ∧ 0 ≤ J 129 1 := jb
        obtain ⟨tN, gN⟩ := TI_rd (J1 := up2 J9 1 5 (if a2 = -1 then J 129 1 + 1 else J 129 1)) (A := A') (r := E.2.2.1) k1 tt8 (by rw [up2_at, a1']) (fun j hj => by rw [up2_off _ _ (Or.inr hj), cpf 1 (by omega)]) (fun c x y w => by rw [u2n (by omega)]; exact cpf c (by omega)) rV (RdR_frame (fun i hi => u2n (by omega)) rN) aH (fun j hj => by rw [aA, if_pos (by omega), show 908 + 41 * k + j - (908 + 41 * k) = j by omega]) (by rw [a1']; split <;> omega) (fun q hq1 hq2 => by rw [a1'] at hq1; rw [← b1']; split at hq1; have := n1'.1 (by assumption); omega; omega)
        refine hq _ tN (InvEA_of hE' (by rw [aH 0 (by omega) (by decide)]; exact (g0 _).1) (fun q hq => by rw [gN q hq]; exact (txH_g q).1) (fun c x y => ?_)) (InvRA_of hR' (fun q hq => by rw [gN q hq]; exact (txH_g q).1) ?_ ?_) (fun c hc => ?_)
        · rw [u2n (by omega), cpf c (by omega)]; exact o8 c (by omega) (by omega)
        · rw [u2n (by decide), cpf 70 (by omega)]; exact o8 70 (by decide) (by omega)
        · rw [u2n (by decide), cpf 71 (by omega)]; exact o8 71 (by decide) (by omega)
        · rw [u2n (by omega), cpf c (by omega)]; exact o8 c (by omega) (by omega)
      · subst c1
        rintro J11 rfl
        refine ⟨⟨by omega, by omega⟩, ?_⟩
        rintro J12 rfl
        unfold v_X7_forget
        rintro J13 rfl
        rw [Int.toNat_natCast k]
        have rV : HV E.2.2.1 := HVp_HV (dV.1 rfl) (EF.1 rfl).1 (EF.1 rfl).2
        have rR : HR J8 45 E.2.2.1 := HR_frame (fun i hi => f8 _ (by omega)) (HR6_HR rV.2.2.2.1.2 (cd.1 rfl).1)
        have rN := HR_copy rV rR cp
        have cpf := cp.2.2
        have e15 : J9 1 4 = J 129 0 := by rw [cpf 1 (by omega), b1]; exact (g0 _).1
        rw [e15]
        have n1' : (a2 = -1 → J 129 0 = (k : Int)) ∧ (¬ a2 = -1 → (k : Int) < J 129 0) := by
          unfold txK at ek
          rw [show (0 : Int).toNat = 0 from rfl] at ek
          constructor
          · intro c2; rw [if_pos c2] at ek; exact ek
          · intro c2; rw [if_neg c2] at ek; have := (ok'.2.2 c2).2; rw [show (0 : Int).toNat = 0 from rfl] at this; omega
        have jb1 : J 129 0 ≤ 2 ∧ 0 ≤ J 129 0 := jb
        have mx : maxZ (J 129 0) ((k : Int) + 1) = if a2 = -1 then J 129 0 + 1 else J 129 0 := by
          unfold maxZ
          by_cases c2 : a2 = -1
          · have := n1'.1 c2; rw [if_pos c2, if_pos (by omega)]; omega
          · have := n1'.2 c2; rw [if_neg c2, if_neg (by omega)]
        rw [mx]
        generalize hA : (fun j => if txP 0 k ≤ j ∧ j < txP 0 k + txL 0 then E.2.2.1 (j - txP 0 k) else if a2 = -1 ∧ j = (0 : Int).toNat then J 129 j + 1 else txH (J 129) FF j) = A' at hq
        have aA : ∀ j, A' j = if txP 0 k ≤ j ∧ j < txP 0 k + txL 0 then E.2.2.1 (j - txP 0 k) else if a2 = -1 ∧ j = (0 : Int).toNat then J 129 j + 1 else txH (J 129) FF j := fun j => by rw [← hA]
        have P1 : txP 0 k = 610 + 149 * k := by unfold txP; rw [if_pos rfl]
        have L1 : txL 0 = 149 := by unfold txL; rw [if_pos rfl]
        rw [P1, L1, show (0 : Int).toNat = 0 from rfl] at aA
        have aH : ∀ j, ¬ (610 + 149 * k ≤ j ∧ j < 610 + 149 * k + 149) → j ≠ 0 → A' j = txH (J 129) FF j := fun j x y => by rw [aA, if_neg x, if_neg (fun h => y h.2)]
        have a1' : A' 0 = if a2 = -1 then J 129 0 + 1 else J 129 0 := by
          rw [aA, if_neg (by omega)]
          by_cases c2 : a2 = -1
          · rw [if_pos ⟨c2, rfl⟩, if_pos c2]
          · rw [if_neg (fun h => c2 h.1), if_neg c2]; exact (g0 _).1
        have b1' : J 129 0 = txH (J 129) FF 0 := (g0 _).1.symm
        have v10 : ∀ j, j ≠ 4 → up2 (up2 (up2 J9 1 4 (if a2 = -1 then J 129 0 + 1 else J 129 0)) (94 + 17 * k) 1 0) 70 3 (-1) 1 j = J8 1 j := fun j hj => by
          rw [u2n (by decide), u2n (by omega), up2_off _ _ (Or.inr hj), cpf 1 (by omega)]
        have v14 : up2 (up2 (up2 J9 1 4 (if a2 = -1 then J 129 0 + 1 else J 129 0)) (94 + 17 * k) 1 0) 70 3 (-1) 1 4 = A' 0 := by
          rw [u2n (by decide), u2n (by omega), up2_at, a1']
        have vk : up2 (up2 (up2 J9 1 4 (if a2 = -1 then J 129 0 + 1 else J 129 0)) (94 + 17 * k) 1 0) 70 3 (-1) (94 + 17 * k) 1 = 0 := by
          rw [u2n (by omega), up2_at]
        have v70 : up2 (up2 (up2 J9 1 4 (if a2 = -1 then J 129 0 + 1 else J 129 0)) (94 + 17 * k) 1 0) 70 3 (-1) 70 3 = -1 := by
          rw [up2_at]
        have vc : ∀ c, c ≠ 1 → c ≠ 94 + 17 * k → c ≠ 70 → up2 (up2 (up2 J9 1 4 (if a2 = -1 then J 129 0 + 1 else J 129 0)) (94 + 17 * k) 1 0) 70 3 (-1) c = J9 c := fun c x y w => by
          rw [u2n w, u2n y, u2n x]
        generalize up2 (up2 (up2 J9 1 4 (if a2 = -1 then J 129 0 + 1 else J 129 0)) (94 + 17 * k) 1 0) 70 3 (-1) = JN at *
        obtain ⟨tN, gN⟩ := TI_hs (J1 := JN) (A := A') (g := E.2.2.1) k1 tt8 v14 v10 (fun c x y w => by rw [vc c (by omega) (by omega) (by omega)]; exact cpf c (by omega)) rV (HR_frame (fun i hi => vc _ (by omega) (by omega) (by omega)) rN) aH (fun j hj => by rw [aA, if_pos (by omega), show 610 + 149 * k + j - (610 + 149 * k) = j by omega]) (by rw [a1']; split <;> omega) (fun q hq1 hq2 => by rw [a1'] at hq1; rw [← b1']; split at hq1; have := n1'.1 (by assumption); omega; omega)
        have oc : ∀ c, c ≠ 1 → c ≠ 94 + 17 * k → c ≠ 70 → (c < 5 + 19 * k ∨ 5 + 19 * k + 13 < c) → (c < 44 ∨ 64 < c) → JN c = J c := fun c x y w q1 q2 => by rw [vc c x y w, cpf c (by omega), o8 c x q2]
        refine hq _ tN (fun q hq2 hfr hq0 => ?_) (fun q p f e mi fl hq2 hq3 _ _ _ _ _ => ?_) (fun c hc => oc c (by omega) (by omega) (by omega) (by omega) (by omega))
        · by_cases hqk : q = k
          · subst hqk; exact absurd vk hfr
          · rw [oc (94 + 17 * q) (by omega) (by omega) (by omega) (by omega) (by omega)] at hfr
            rw [gN q hq2 hqk, (txH_g q).1]
            refine EvO_frame (fun i hi => oc _ (by omega) (by omega) (by omega) (by omega) (by omega)) (hE' q hq2 hfr ?_)
            rw [a1'] at hq0
            split at hq0
            · have := n1'.1 (by assumption); omega
            · exact hq0
        · rw [v70] at hq3; omega
    · rw [if_neg z, if_neg z] at hq
      exact hq J8 t8 (InvEA_of hE' (g0 _).1 (fun k _ => (txH_g k).1) (fun c x y => o8 c (by omega) (by omega))) (InvRA_of hR' (fun k _ => (txH_g k).1) (o8 70 (by decide) (by omega)) (o8 71 (by decide) (by omega))) (fun c hc => o8 c (by omega) (by omega))

