/-! the house: its block of numbers g in the reference (g j at b + j of row 129), the reference's small methods over it -/
def gB (J : mJ) (b : Nat) : Nat → Int := fun j => if j < 149 then J 129 (b + j) else 0
theorem p_X12_of {J : mJ} {a : Int} {b j : Nat} (hb : J 128 12 = (b : Int)) (ha : a = (j : Int)) (h : b + j < 3960 ∧ j < 149) {post' : Int → Prop} (hp : post' (gB J b j)) : v_X12_of J 128 a post' := by
  rw [show gB J b j = J 129 (b + j) from if_pos h.2] at hp
  unfold v_X12_of
  rw [hb, ha]
  have e : ((b : Int) + (j : Int)).toNat = b + j := by omega
  rw [e]
  exact ⟨⟨by omega, by omega⟩, ⟨by omega, by omega⟩, hp⟩
theorem p_X12_told {J : mJ} {a1 a2 : Int} {b p w : Nat} (hb : J 128 12 = (b : Int)) (h1 : a1 = (p : Int)) (h2 : a2 = (w : Int)) (h : b + (41 + 14 * p + w) < 3960 ∧ 41 + 14 * p + w < 149) {post' : Int → Prop} (hp : post' (gB J b (41 + 14 * p + w))) : v_X12_told J 128 a1 a2 post' := by
  rw [show gB J b (41 + 14 * p + w) = J 129 (b + (41 + 14 * p + w)) from if_pos h.2] at hp
  unfold v_X12_told
  rw [hb, h1, h2]
  have e : ((((b : Int) + 41) + (14 * (p : Int))) + (w : Int)).toNat = b + (41 + 14 * p + w) := by omega
  rw [e]
  exact ⟨⟨by omega, by omega⟩, ⟨by omega, by omega⟩, ⟨by omega, by omega⟩, ⟨by omega, by omega⟩, ⟨by omega, by omega⟩, hp⟩
theorem p_X12_isIn {a l m : Int} {post' : Bool → Prop} (h : post' (decide (l ≤ a ∧ a ≤ m))) : v_X12_isIn a l m post' :=
  ⟨fun c => (pb h).2 (by omega), fun c => ⟨fun c2 => (pb h).2 (by omega), fun c2 => (pb h).1 (by omega)⟩⟩
theorem dec_eq {P Q : Prop} [Decidable P] [Decidable Q] (h : P ↔ Q) : decide P = decide Q := by
  by_cases hp : P
  · rw [decide_eq_true hp, decide_eq_true (h.mp hp)]
  · rw [decide_eq_false hp, decide_eq_false (fun q => hp (h.mpr q))]
theorem p_X12_isPerson {J : mJ} {a : Int} {b : Nat} (hb : J 128 12 = (b : Int)) (hb2 : b ≤ 800) (hg : 0 ≤ gB J b 3 ∧ gB J b 3 ≤ 6) {post' : Bool → Prop} (h : post' (decide (0 ≤ a ∧ a < gB J b 3))) : v_X12_isPerson J 128 a post' :=
  p_X12_of hb (j := 3) rfl (by omega) ⟨⟨by omega, by omega⟩, p_X12_isIn (by rw [dec_eq (Q := 0 ≤ a ∧ a < gB J b 3) (by omega)]; exact h)⟩
theorem p_X12_isStep {J : mJ} {a : Int} {b : Nat} (hb : J 128 12 = (b : Int)) (hb2 : b ≤ 800) (hg : 0 ≤ gB J b 0 ∧ gB J b 0 ≤ 24) {post' : Bool → Prop} (h : post' (decide (0 ≤ a ∧ a < gB J b 0))) : v_X12_isStep J 128 a post' :=
  p_X12_of hb (j := 0) rfl (by omega) ⟨⟨by omega, by omega⟩, p_X12_isIn (by rw [dec_eq (Q := 0 ≤ a ∧ a < gB J b 0) (by omega)]; exact h)⟩
theorem p_X12_isFlat {J : mJ} {a : Int} {b : Nat} (hb : J 128 12 = (b : Int)) (hb2 : b ≤ 800) (hg : 0 ≤ gB J b 2 ∧ gB J b 2 ≤ 6) {post' : Bool → Prop} (h : post' (decide (0 ≤ a ∧ a < gB J b 2))) : v_X12_isFlat J 128 a post' :=
  p_X12_of hb (j := 2) rfl (by omega) ⟨⟨by omega, by omega⟩, p_X12_isIn (by rw [dec_eq (Q := 0 ≤ a ∧ a < gB J b 2) (by omega)]; exact h)⟩
/-- what may stand in a person's place -/
def PV (g : Nat → Int) (p : Nat) : Prop := (0 ≤ g (41 + 14 * p) ∧ g (41 + 14 * p) ≤ 9) ∧ (1 ≤ g (42 + 14 * p) ∧ g (42 + 14 * p) ≤ 9) ∧ (1 ≤ g (43 + 14 * p) ∧ g (43 + 14 * p) ≤ 4) ∧ (-1 ≤ g (44 + 14 * p) ∧ g (44 + 14 * p) ≤ 60) ∧ (0 ≤ g (46 + 14 * p) ∧ g (46 + 14 * p) ≤ 8) ∧ (g (44 + 14 * p) = -1 ↔ g (46 + 14 * p) = 0) ∧ (0 < g (46 + 14 * p) → 0 ≤ g (45 + 14 * p) ∧ g (45 + 14 * p) < g 0) ∧ (g (46 + 14 * p) = 0 → g (45 + 14 * p) = -1) ∧ ∀ k : Nat, (k : Int) < g (46 + 14 * p) → 0 ≤ g (47 + 14 * p + k) ∧ g (47 + 14 * p + k) < g 0
/-- a house that can be -/
def HV (g : Nat → Int) : Prop := (2 ≤ g 0 ∧ g 0 ≤ 24) ∧ (0 ≤ g 1 ∧ g 1 ≤ 99) ∧ (0 ≤ g 2 ∧ g 2 ≤ 6) ∧ (0 ≤ g 3 ∧ g 3 ≤ 6) ∧ (0 ≤ g 4 ∧ g 4 ≤ 8) ∧ (∀ s : Nat, s < 24 → 0 ≤ g (5 + s) ∧ g (5 + s) ≤ 9) ∧ (∀ f : Nat, (f : Int) < g 2 → (0 ≤ g (29 + 2 * f) ∧ g (29 + 2 * f) < g 0) ∧ (0 ≤ g (30 + 2 * f) ∧ g (30 + 2 * f) ≤ 9)) ∧ (∀ p : Nat, (p : Int) < g 3 → PV g p) ∧ (∀ c : Nat, (c : Int) < g 4 → (0 ≤ g (125 + 3 * c) ∧ g (125 + 3 * c) < g 3) ∧ (0 ≤ g (126 + 3 * c) ∧ g (126 + 3 * c) ≤ 99) ∧ (0 ≤ g (127 + 3 * c) ∧ g (127 + 3 * c) ≤ 9))
/-- the class's house at h tells the same -/
def HR (J : mJ) (h : Nat) (g : Nat → Int) : Prop := (J h 0 = g 0 ∧ J h 1 = g 1 ∧ J h 2 = g 2 ∧ J h 3 = g 3 ∧ J h 4 = g 4) ∧ (∀ s : Nat, s < 24 → J (h + 1) s = g (5 + s)) ∧ (∀ f : Nat, (f : Int) < g 2 → J (h + 2) f = g (29 + 2 * f) ∧ J (h + 3) f = g (30 + 2 * f)) ∧ (∀ p : Nat, (p : Int) < g 3 → J (h + 4) p = g (41 + 14 * p) ∧ J (h + 5) p = g (42 + 14 * p) ∧ J (h + 6) p = g (43 + 14 * p) ∧ J (h + 7) p = g (44 + 14 * p) ∧ J (h + 8) p = g (45 + 14 * p) ∧ J (h + 9) p = g (46 + 14 * p) ∧ ∀ k : Nat, (k : Int) < g (46 + 14 * p) → J (h + 10) (8 * p + k) = g (47 + 14 * p + k)) ∧ (∀ c : Nat, (c : Int) < g 4 → J (h + 11) c = g (125 + 3 * c) ∧ J (h + 12) c = g (126 + 3 * c) ∧ J (h + 13) c = g (127 + 3 * c))
/-- the shoe that p wears in minute t -/
def gShoe (g : Nat → Int) (p : Nat) (t : Int) : Int := (shF (fun c => g (125 + 3 * c)) (fun c => g (126 + 3 * c)) (fun c => g (127 + 3 * c)) (p : Int) t (g (41 + 14 * p)) (g 4).toNat).2
theorem shF_cong {c m s c' m' s' : Nat → Int} {p t w : Int} : ∀ n, (∀ k, k < n → c k = c' k ∧ m k = m' k ∧ s k = s' k) → shF c m s p t w n = shF c' m' s' p t w n
  | 0, _ => rfl
  | n + 1, h => by
    have h1 := h n (by omega)
    rw [shF, shF, shF_cong n (fun k hk => h k (by omega)), h1.1, h1.2.1, h1.2.2]
theorem shF_rng {c m s : Nat → Int} {p t w : Int} (hw : 0 ≤ w ∧ w ≤ 9) : ∀ n, (∀ k, k < n → 0 ≤ s k ∧ s k ≤ 9) → 0 ≤ (shF c m s p t w n).2 ∧ (shF c m s p t w n).2 ≤ 9
  | 0, _ => hw
  | n + 1, h => by
    have ih := shF_rng (c := c) (m := m) (p := p) (t := t) hw n (fun k hk => h k (by omega))
    rw [shF]; split
    · exact h n (by omega)
    · exact ih
theorem gShoe_rng {g : Nat → Int} (hv : HV g) {p : Nat} (hp : (p : Int) < g 3) (t : Int) : 0 ≤ gShoe g p t ∧ gShoe g p t ≤ 9 :=
  shF_rng (hv.2.2.2.2.2.2.2.1 p hp).1 _ (fun k hk => (hv.2.2.2.2.2.2.2.2 k (by have := hv.2.2.2.2.1; omega)).2.2)
theorem x_shoeAt {J : mJ} {h : Nat} {g : Nat → Int} (hv : HV g) (hr : HR J h g) {p : Nat} (hp : (p : Int) < g 3) {t : Int} {post' : Int → Prop} (hq : post' (gShoe g p t)) : v_X3_shoeAt J h (p : Int) t post' := by
  have h4 := hv.2.2.2.2.1
  have h3 := hv.2.2.2.1
  refine p_X3_shoeAt (N := (g 4).toNat) (by rw [hr.1.2.2.2.2]; omega) (by omega) (by omega) ?_
  rw [Int.toNat_natCast, (hr.2.2.2.1 p hp).1, shF_cong (g 4).toNat (fun k hk => hr.2.2.2.2 k (by omega))]
  exact hq
theorem m_shoeOf {J : mJ} {b : Nat} (hb : J 128 12 = (b : Int)) (hb2 : b ≤ 800) (hv : HV (gB J b)) {p : Nat} (hp : (p : Int) < gB J b 3) {t : Int} {post' : Int → Prop} (hq : post' (if (p : Int) = J 128 13 then J 128 14 else gShoe (gB J b) p t)) : v_X12_shoeOf J 128 (p : Int) t post' := by
  have h4 := hv.2.2.2.2.1
  have h3 := hv.2.2.2.1
  refine ⟨fun c => ?_, fun c => (pif hq).1 c⟩
  refine p_X12_told hb rfl (w := 0) rfl (by omega) ?_
  have hq := (pif hq).2 c
  intro ZZ hZ
  have key : ∀ d k : Nat, k + d = (gB J b 4).toNat → ZZ (shF (fun c => gB J b (125 + 3 * c)) (fun c => gB J b (126 + 3 * c)) (fun c => gB J b (127 + 3 * c)) (p : Int) t (gB J b (41 + 14 * p)) k).2 (shF (fun c => gB J b (125 + 3 * c)) (fun c => gB J b (126 + 3 * c)) (fun c => gB J b (127 + 3 * c)) (p : Int) t (gB J b (41 + 14 * p)) k).1 (k : Int) := by
    intro d
    induction d with
    | zero =>
      intro k hk
      apply hZ
      refine p_X12_of hb (j := 4) rfl (by omega) ⟨fun _ => ?_, fun c => absurd (by omega) c⟩
      have hk : k = (gB J b 4).toNat := by omega
      subst hk
      exact hq
    | succ d ih =>
      intro k hk
      have ih := ih (k + 1) (by omega)
      have hi : ir ((k : Int) + 1) := ⟨by omega, by omega⟩
      rw [shF] at ih
      apply hZ
      refine p_X12_of hb (j := 4) rfl (by omega) ⟨fun c => absurd c (by omega), fun _ => ⟨⟨by omega, by omega⟩, ⟨by omega, by omega⟩, ?_⟩⟩
      rintro _ rfl
      refine p_X12_of hb (j := 125 + 3 * k) (by omega) (by omega) ⟨fun c1 => ⟨hi, ?_⟩, fun c1 => ⟨⟨by omega, by omega⟩, ?_⟩⟩
      · rintro _ rfl
        rw [if_neg (by omega)] at ih; exact ih
      refine p_X12_of hb (j := 126 + 3 * k) (by omega) (by omega) ⟨fun c2 => ⟨hi, ?_⟩, fun c2 => ⟨⟨by omega, by omega⟩, ?_⟩⟩
      · rintro _ rfl
        rw [if_neg (by omega)] at ih; exact ih
      refine p_X12_of hb (j := 126 + 3 * k) (by omega) (by omega) ⟨fun c3 => ⟨⟨by omega, by omega⟩, ?_⟩, fun c3 => ⟨hi, ?_⟩⟩
      · refine p_X12_of hb (j := 126 + 3 * k) (by omega) (by omega) ⟨⟨by omega, by omega⟩, ?_⟩
        refine p_X12_of hb (j := 127 + 3 * k) (by omega) (by omega) ⟨hi, ?_⟩
        rintro _ rfl
        rw [if_pos (by omega)] at ih; exact ih
      · rintro _ rfl
        rw [if_neg (by omega)] at ih; exact ih
  exact key _ 0 (Nat.zero_add _)
