/-! how loud, who hears -/
def gLoud (g : Nat → Int) (p s : Nat) (w : Int) : Int := maxZ 0 (g (42 + 14 * p) + w - g (5 + s))
def gHear (a e : Int) (s l : Int) : Bool := decide (0 < l ∧ absZ (a - s) ≤ e + l)
def earsF (P : Nat → Bool) : Nat → Nat
  | 0 => 0
  | n + 1 => if P n = true then earsF P n ||| 2 ^ n else earsF P n
theorem earsF_lt (P : Nat → Bool) : ∀ n, earsF P n < 2 ^ n
  | 0 => Nat.zero_lt_one
  | n + 1 => by
    have h := earsF_lt P n
    have h2 : 2 ^ (n + 1) = 2 * 2 ^ n := by rw [Nat.pow_succ]; omega
    rw [earsF]; split
    · exact Nat.or_lt_two_pow (by omega) (by omega)
    · omega
theorem earsF_bit (P : Nat → Bool) : ∀ n i, (earsF P n).testBit i = (decide (i < n) && P i)
  | 0, i => by simp [earsF]
  | n + 1, i => by
    have ih := earsF_bit P n i
    rw [earsF]
    by_cases hP : P n = true
    · rw [if_pos hP, bit_or, ih]
      by_cases hi : n = i
      · subst hi; simp [hP]
      · have : (i < n) ↔ (i < n + 1) := by omega
        simp [hi, dec_eq this]
    · rw [if_neg hP, ih]
      by_cases hi : n = i
      · subst hi; simp [hP]
      · have : (i < n) ↔ (i < n + 1) := by omega
        simp [dec_eq this]
theorem earsF_cong {P Q : Nat → Bool} : ∀ n, (∀ i, i < n → P i = Q i) → earsF P n = earsF Q n
  | 0, _ => rfl
  | n + 1, h => by rw [earsF, earsF, earsF_cong n (fun i hi => h i (by omega)), h n (by omega)]
/-- the flats that hear what is so loud on step s -/
def gEars (g : Nat → Int) (l s : Int) : Nat := earsF (fun f => gHear (g (29 + 2 * f)) (g (30 + 2 * f)) s l) (g 2).toNat
theorem x_loudOf {J : mJ} {h : Nat} {g : Nat → Int} (hv : HV g) (hr : HR J h g) {p s : Nat} (hp : (p : Int) < g 3) (hs : s < 24) {w : Int} (hw : 0 ≤ w ∧ w ≤ 9) {post' : Int → Prop} (hq : post' (gLoud g p s w)) : v_X3_loudOf J h (p : Int) (s : Int) w post' := by
  have h3 := hv.2.2.2.1
  have hP := (hv.2.2.2.2.2.2.2.1 p hp).2.1
  have hc := hv.2.2.2.2.2.1 s hs
  unfold v_X3_loudOf
  simp only [Int.toNat_natCast]
  rw [(hr.2.2.2.1 p hp).2.1, hr.2.1 s hs]
  exact ⟨⟨by omega, by omega⟩, ⟨by omega, by omega⟩, ⟨by omega, by omega⟩, ⟨by omega, by omega⟩, hq⟩
theorem gLoud_rng {g : Nat → Int} (hv : HV g) {p s : Nat} (hp : (p : Int) < g 3) (hs : s < 24) {w : Int} (hw : 0 ≤ w ∧ w ≤ 9) : 0 ≤ gLoud g p s w ∧ gLoud g p s w ≤ 18 := by
  have hP := (hv.2.2.2.2.2.2.2.1 p hp).2.1
  have hc := hv.2.2.2.2.2.1 s hs
  unfold gLoud maxZ; split <;> omega
theorem absZ_rng {a m : Int} (h : -m ≤ a ∧ a ≤ m) : 0 ≤ absZ a ∧ absZ a ≤ m := by unfold absZ; split <;> omega
theorem x_hears {J : mJ} {h : Nat} {g : Nat → Int} (hv : HV g) (hr : HR J h g) {f : Nat} (hf : (f : Int) < g 2) {s l : Int} (hs : 0 ≤ s ∧ s ≤ 24) (hl : 0 ≤ l ∧ l ≤ 18) {post' : Bool → Prop} (hq : post' (gHear (g (29 + 2 * f)) (g (30 + 2 * f)) s l)) : v_X3_hears J h (f : Int) s l post' := by
  have h2 := hv.2.2.1
  have h0 := hv.1
  have hF := hv.2.2.2.2.2.2.1 f hf
  unfold v_X3_hears
  simp only [Int.toNat_natCast]
  rw [(hr.2.2.1 f hf).1, (hr.2.2.1 f hf).2]
  have ha := absZ_rng (a := g (29 + 2 * f) - s) (m := 24) ⟨by omega, by omega⟩
  unfold gHear at hq
  exact ⟨fun c => (pb hq).2 (by omega), fun c => ⟨⟨by omega, by omega⟩, ⟨by omega, by omega⟩, ⟨by omega, by omega⟩, ⟨by omega, by omega⟩, ⟨by omega, by omega⟩, fun c2 => (pb hq).2 (by omega), fun c2 => (pb hq).1 (by omega)⟩⟩
/-! the reference, with its flags u: laid 18, thick 19, moved 20, movedTo 21 -/
def mCar (u g : Nat → Int) (s : Nat) : Int := if (s : Int) = u 18 then minZ 9 (g (5 + s) + u 19) else g (5 + s)
def mLoud (u g : Nat → Int) (p s : Nat) (w : Int) : Int := maxZ 0 (g (42 + 14 * p) + w - mCar u g s)
def mFlat (u g : Nat → Int) (f : Nat) : Int := if (f : Int) = u 20 then u 21 else g (29 + 2 * f)
def mEars (u g : Nat → Int) (l s : Int) : Nat := earsF (fun f => gHear (mFlat u g f) (g (30 + 2 * f)) s l) (g 2).toNat
/-- the flags stand in their ranges -/
def UV (u : Nat → Int) : Prop := (0 ≤ u 19 ∧ u 19 ≤ 9) ∧ (0 ≤ u 21 ∧ u 21 ≤ 24)
theorem m_carpetOf {J : mJ} {b : Nat} (hb : J 128 12 = (b : Int)) (hb2 : b ≤ 800) (hv : HV (gB J b)) (hu : UV (J 128)) {s : Nat} (hs : s < 24) {post' : Int → Prop} (hq : post' (mCar (J 128) (gB J b) s)) : v_X12_carpetOf J 128 (s : Int) post' := by
  have hc := hv.2.2.2.2.2.1 s hs
  have h19 := hu.1
  unfold mCar minZ at hq
  refine ⟨⟨by omega, by omega⟩, p_X12_of hb (j := 5 + s) (by omega) (by omega) ⟨fun c => ⟨⟨by omega, by omega⟩, ?_⟩, fun c => ⟨⟨by omega, by omega⟩, ?_⟩⟩⟩
  · rintro _ rfl
    rw [if_neg c] at hq
    rw [Int.add_zero]
    exact ⟨fun c2 => hq, fun c2 => by omega⟩
  · rintro _ rfl
    rw [if_pos c] at hq
    exact ⟨fun c2 => by
      by_cases h9 : gB J b (5 + s) + J 128 19 < 9
      · rw [if_pos h9] at hq; exact hq
      · rw [if_neg h9] at hq
        rw [show gB J b (5 + s) + J 128 19 = 9 by omega]; exact hq, fun c2 => by rw [if_neg (by omega)] at hq; exact hq⟩
theorem mCar_rng {u g : Nat → Int} (hv : HV g) (hu : UV u) {s : Nat} (hs : s < 24) : 0 ≤ mCar u g s ∧ mCar u g s ≤ 9 := by
  have hc := hv.2.2.2.2.2.1 s hs
  have h19 := hu.1
  unfold mCar minZ; split
  · split <;> omega
  · omega
theorem m_loudBy {J : mJ} {b : Nat} (hb : J 128 12 = (b : Int)) (hb2 : b ≤ 800) (hv : HV (gB J b)) (hu : UV (J 128)) {p s : Nat} (hp : (p : Int) < gB J b 3) (hs : s < 24) {w : Int} (hw : 0 ≤ w ∧ w ≤ 9) {post' : Int → Prop} (hq : post' (mLoud (J 128) (gB J b) p s w)) : v_X12_loudBy J 128 (p : Int) w (s : Int) post' := by
  have h3 := hv.2.2.2.1
  have hP := (hv.2.2.2.2.2.2.2.1 p hp).2.1
  have hc := mCar_rng hv hu hs
  refine p_X12_told hb rfl (w := 1) rfl (by omega) ?_
  rw [show 41 + 14 * p + 1 = 42 + 14 * p by omega]
  refine ⟨⟨by omega, by omega⟩, m_carpetOf hb hb2 hv hu hs ⟨⟨by omega, by omega⟩, ?_⟩⟩
  rintro _ rfl
  unfold mLoud maxZ at hq
  refine ⟨fun c => ?_, fun c => ?_⟩
  · by_cases h0 : 0 < gB J b (42 + 14 * p) + w - mCar (J 128) (gB J b) s
    · rw [if_pos h0] at hq; exact hq
    · rw [if_neg h0] at hq
      rw [show gB J b (42 + 14 * p) + w - mCar (J 128) (gB J b) s = 0 by omega]; exact hq
  · rw [if_neg (by omega)] at hq; exact hq
theorem mLoud_rng {u g : Nat → Int} (hv : HV g) (hu : UV u) {p s : Nat} (hp : (p : Int) < g 3) (hs : s < 24) {w : Int} (hw : 0 ≤ w ∧ w ≤ 9) : 0 ≤ mLoud u g p s w ∧ mLoud u g p s w ≤ 18 := by
  have hP := (hv.2.2.2.2.2.2.2.1 p hp).2.1
  have hc := mCar_rng hv hu hs
  unfold mLoud maxZ; split <;> omega
theorem m_flatAt {J : mJ} {b : Nat} (hb : J 128 12 = (b : Int)) (hb2 : b ≤ 800) {f : Nat} (hf : f < 6) {post' : Int → Prop} (hq : post' (mFlat (J 128) (gB J b) f)) : v_X12_flatAt J 128 (f : Int) post' := by
  unfold mFlat at hq
  exact ⟨fun c => ⟨⟨by omega, by omega⟩, ⟨by omega, by omega⟩, p_X12_of hb (j := 29 + 2 * f) (by omega) (by omega) ((pif hq).2 c)⟩, fun c => (pif hq).1 c⟩
theorem mFlat_rng {u g : Nat → Int} (hv : HV g) (hu : UV u) {f : Nat} (hf : (f : Int) < g 2) : 0 ≤ mFlat u g f ∧ mFlat u g f ≤ 24 := by
  have h0 := hv.1
  have hF := hv.2.2.2.2.2.2.1 f hf
  have h21 := hu.2
  unfold mFlat; split <;> omega
theorem m_isHeard {J : mJ} {b : Nat} (hb : J 128 12 = (b : Int)) (hb2 : b ≤ 800) (hv : HV (gB J b)) (hu : UV (J 128)) {f : Nat} (hf : (f : Int) < gB J b 2) {s l : Int} (hs : 0 ≤ s ∧ s ≤ 24) (hl : 0 ≤ l ∧ l ≤ 18) {post' : Bool → Prop} (hq : post' (gHear (mFlat (J 128) (gB J b) f) (gB J b (30 + 2 * f)) s l)) : v_X12_isHeard J 128 (f : Int) l s post' := by
  have h2 := hv.2.2.1
  have hF := hv.2.2.2.2.2.2.1 f hf
  have hm := mFlat_rng hv hu hf
  unfold gHear at hq
  have fin : ∀ d : Int, d = absZ (mFlat (J 128) (gB J b) f - s) → v_X12_isHeard_26 J 128 (f : Int) l s post' d := by
    intro d hd
    refine ⟨fun c => (pb hq).2 (by omega), fun c => ⟨⟨by omega, by omega⟩, ⟨by omega, by omega⟩, ⟨by omega, by omega⟩, p_X12_of hb (j := 30 + 2 * f) (by omega) (by omega) ⟨⟨by omega, by omega⟩, fun c2 => (pb hq).2 (by omega), fun c2 => (pb hq).1 (by omega)⟩⟩⟩
  refine m_flatAt hb hb2 (by omega) ⟨fun c => m_flatAt hb hb2 (by omega) ⟨⟨by omega, by omega⟩, fin _ ?_⟩, fun c => m_flatAt hb hb2 (by omega) ⟨⟨by omega, by omega⟩, fin _ ?_⟩⟩
  · unfold absZ; rw [if_pos (by omega)]
  · unfold absZ; rw [if_neg (by omega)]; omega
theorem orZ_zero {n : Nat} (h : n < 2 ^ 31) : orZ (n : Int) 0 = (n : Int) := by
  have := orZ_nat h (b := 0) (by decide)
  simpa using this
theorem m_ears {J : mJ} {b : Nat} (hb : J 128 12 = (b : Int)) (hb2 : b ≤ 800) (hv : HV (gB J b)) (hu : UV (J 128)) {s l : Int} (hs : 0 ≤ s ∧ s ≤ 24) (hl : 0 ≤ l ∧ l ≤ 18) {post' : Int → Prop} (hq : post' ((mEars (J 128) (gB J b) l s : Nat) : Int)) : v_X12_ears J 128 l s post' := by
  have h2 := hv.2.2.1
  unfold mEars at hq
  generalize hP : (fun f => gHear (mFlat (J 128) (gB J b) f) (gB J b (30 + 2 * f)) s l) = P at hq
  intro ZZ hZ
  have key : ∀ d k : Nat, k + d = (gB J b 2).toNat → ZZ ((earsF P k : Nat) : Int) (k : Int) := by
    intro d
    induction d with
    | zero =>
      intro k hk
      apply hZ
      refine p_X12_of hb (j := 2) rfl (by omega) ⟨fun _ => ?_, fun c => absurd (by omega) c⟩
      have hk : k = (gB J b 2).toNat := by omega
      subst hk
      exact hq
    | succ d ih =>
      intro k hk
      have ih := ih (k + 1) (by omega)
      have hi : ir ((k : Int) + 1) := ⟨by omega, by omega⟩
      have hlt := earsF_lt P k
      have hpw : 2 ^ k ≤ 2 ^ 6 := Nat.pow_le_pow_right (by decide) (by omega)
      rw [earsF] at ih
      apply hZ
      refine p_X12_of hb (j := 2) rfl (by omega) ⟨fun c => absurd c (by omega), fun _ => m_isHeard hb hb2 hv hu (by omega) hs hl ?_⟩
      have hPk : gHear (mFlat (J 128) (gB J b) k) (gB J b (30 + 2 * k)) s l = P k := congrFun hP k
      rw [hPk]
      refine ⟨fun c => ?_, fun c => ?_⟩
      · rintro _ rfl
        refine ⟨hi, ?_⟩
        rintro _ rfl
        rw [if_neg (by rw [c]; decide)] at ih
        rw [orZ_zero (by omega)]
        exact ih
      · rintro _ rfl
        refine ⟨hi, ?_⟩
        rintro _ rfl
        rw [if_pos c] at ih
        rw [shlZ_one (by omega), orZ_nat (by omega) (by omega)]
        exact ih
  exact key _ 0 (Nat.zero_add _)
