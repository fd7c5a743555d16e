/-! the pure layer: what the methods answer -/
theorem pb {P : Prop} [Decidable P] {post : Bool → Prop} (h : post (decide P)) : (P → post true) ∧ (¬ P → post false) := ⟨fun c => by rw [decide_eq_true c] at h; exact h, fun c => by rw [decide_eq_false c] at h; exact h⟩
theorem pif {P : Prop} [Decidable P] {α : Type} {post : α → Prop} {x y : α} (h : post (if P then x else y)) : (P → post x) ∧ (¬ P → post y) := ⟨fun c => by rw [if_pos c] at h; exact h, fun c => by rw [if_neg c] at h; exact h⟩
/-- the latest change of shoes up to minute t, and the shoe worn -/
def shF (c m s : Nat → Int) (p t w0 : Int) : Nat → Int × Int
  | 0 => (-1, w0)
  | k + 1 => if c k = p ∧ m k ≤ t ∧ (shF c m s p t w0 k).1 ≤ m k then (m k, s k) else shF c m s p t w0 k
theorem p_X3_hasStep {J : mJ} {o : Nat} {a1 : Int} {post' : Bool → Prop} (h : post' (decide (0 ≤ a1 ∧ a1 < J o 0))) : v_X3_hasStep J o a1 post' :=
  ⟨fun c => (pb h).2 (by omega), fun c => ⟨fun c2 => (pb h).2 (by omega), fun c2 => (pb h).1 (by omega)⟩⟩
theorem p_X3_hasFlat {J : mJ} {o : Nat} {a1 : Int} {post' : Bool → Prop} (h : post' (decide (0 ≤ a1 ∧ a1 < J o 2))) : v_X3_hasFlat J o a1 post' :=
  ⟨fun c => (pb h).2 (by omega), fun c => ⟨fun c2 => (pb h).2 (by omega), fun c2 => (pb h).1 (by omega)⟩⟩
theorem p_X3_hasPerson {J : mJ} {o : Nat} {a1 : Int} {post' : Bool → Prop} (h : post' (decide (0 ≤ a1 ∧ a1 < J o 3))) : v_X3_hasPerson J o a1 post' :=
  ⟨fun c => (pb h).2 (by omega), fun c => ⟨fun c2 => (pb h).2 (by omega), fun c2 => (pb h).1 (by omega)⟩⟩
theorem p_X11_pick {J : mJ} {a n : Nat} {i s w : Int} (hn : n ≤ 100000) {post' : Int → Prop} (h : post' (if 0 ≤ i ∧ i < s ∧ i < (n : Int) then J a i.toNat else w)) : v_X11_pick J a n i s w post' :=
  ⟨fun c => (pif h).2 (by omega), fun c => ⟨fun c2 => (pif h).2 (by omega), fun c2 => ⟨⟨by omega, by omega⟩, fun c3 => (pif h).2 (by omega), fun c3 => ⟨⟨by omega, by omega⟩, (pif h).1 (by omega)⟩⟩⟩⟩
theorem p_X3_shoeAt {J : mJ} {o N : Nat} {a1 a2 : Int} (hN : J o 4 = (N : Int)) (hN8 : N ≤ 8) (hp : 0 ≤ a1 ∧ a1 < 6) {post' : Int → Prop} (h : post' (shF (J (o + 11)) (J (o + 12)) (J (o + 13)) a1 a2 (J (o + 4) a1.toNat) N).2) : v_X3_shoeAt J o a1 a2 post' := by
  refine ⟨hp, ?_⟩
  rintro _ rfl
  intro ZZ hZ
  generalize J (o + 4) a1.toNat = w0 at h
  have key : ∀ d k : Nat, k + d = N → ZZ (shF (J (o + 11)) (J (o + 12)) (J (o + 13)) a1 a2 w0 k).1 (shF (J (o + 11)) (J (o + 12)) (J (o + 13)) a1 a2 w0 k).2 (k : Int) := by
    intro d
    induction d with
    | zero =>
      intro k hk
      have hk : k = N := by omega
      subst hk
      exact hZ _ _ _ ⟨fun _ => h, fun c => absurd (by rw [hN]; exact Int.le_refl _) c⟩
    | succ d ih =>
      intro k hk
      have ih := ih (k + 1) (by omega)
      apply hZ
      rw [hN]
      simp only [Int.toNat_natCast]
      have hi : ir ((k : Int) + 1) := ⟨by omega, by omega⟩
      have hb : 0 ≤ (k : Int) ∧ (k : Int) < 8 := ⟨by omega, by omega⟩
      refine ⟨fun c => by omega, fun _ => ⟨hb, fun c1 => ⟨hi, ?_⟩, fun c1 => ⟨hb, fun c2 => ⟨hi, ?_⟩, fun c2 => ⟨hb, fun c3 => ⟨hi, ?_⟩, fun c3 => ⟨hb, ?_⟩⟩⟩⟩⟩
      · rintro _ rfl
        rw [shF, if_neg (by omega)] at ih
        exact ih
      · rintro _ rfl
        rw [shF, if_neg (by omega)] at ih
        exact ih
      · rintro _ rfl
        rw [shF, if_neg (by omega)] at ih
        exact ih
      · rintro _ rfl
        refine ⟨hb, ?_⟩
        rintro _ rfl
        refine ⟨hi, ?_⟩
        rintro _ rfl
        rw [shF, if_pos (by omega)] at ih
        exact ih
  exact key N 0 (by omega)
