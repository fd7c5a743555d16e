/-! ends, ring, meet -/
def anyF (P : Nat → Bool) : Nat → Bool
  | 0 => false
  | n + 1 => anyF P n || P n
theorem anyF_iff {P : Nat → Bool} : ∀ n, anyF P n = true ↔ ∃ k, k < n ∧ P k = true
  | 0 => ⟨fun h => Bool.noConfusion h, fun ⟨k, h, _⟩ => absurd h (Nat.not_lt_zero _)⟩
  | n + 1 => by
    rw [anyF, Bool.or_eq_true, anyF_iff n]
    constructor
    · rintro (⟨k, h1, h2⟩ | h)
      · exact ⟨k, by omega, h2⟩
      · exact ⟨n, by omega, h⟩
    · rintro ⟨k, h1, h2⟩
      by_cases hk : k = n
      · subst hk; exact Or.inr h2
      · exact Or.inl ⟨k, by omega, h2⟩
theorem ears_ext {P : Nat → Bool} {n a : Nat} (h1 : a < 2 ^ n) (h2 : ∀ i, i < n → a.testBit i = P i) : a = earsF P n := by
  apply Nat.eq_of_testBit_eq
  intro i
  rw [earsF_bit]
  by_cases hi : i < n
  · rw [decide_eq_true hi, Bool.true_and]; exact h2 i hi
  · rw [decide_eq_false hi, Bool.false_and]
    exact Nat.testBit_lt_two_pow (Nat.lt_of_lt_of_le h1 (Nat.pow_le_pow_right (by decide) (by omega)))
theorem ears_or {P : Nat → Bool} {n : Nat} (hn : n < 31) : orZ ((earsF P n : Nat) : Int) (shlZ 1 (n : Int)) = (((earsF P n) ||| 2 ^ n : Nat) : Int) := by
  rw [shlZ_one hn]
  have h1 := earsF_lt P n
  have h2 : 2 ^ n ≤ 2 ^ 30 := Nat.pow_le_pow_right (by decide) (by omega)
  exact orZ_nat (by omega) (by omega)
/-- one more of a set; both ways in which the loops write it -/
theorem ears_t {P : Nat → Bool} {n : Nat} (hn : n < 31) (h : P n = true) : orZ ((earsF P n : Nat) : Int) (shlZ 1 (n : Int)) = ((earsF P (n + 1) : Nat) : Int) := by
  rw [ears_or hn, earsF, if_pos h]
theorem ears_f {P : Nat → Bool} {n : Nat} (h : ¬ P n = true) : ((earsF P n : Nat) : Int) = ((earsF P (n + 1) : Nat) : Int) := by
  rw [earsF, if_neg h]
theorem ears_f0 {P : Nat → Bool} {n : Nat} (hn : n < 31) (h : ¬ P n = true) : orZ ((earsF P n : Nat) : Int) 0 = ((earsF P (n + 1) : Nat) : Int) := by
  have h1 := earsF_lt P n
  have h2 : 2 ^ n ≤ 2 ^ 30 := Nat.pow_le_pow_right (by decide) (by omega)
  rw [orZ_zero (by omega), ears_f h]
theorem andNot : ∀ b, b < 64 → ∀ w, w < 6 → andZ ((b : Nat) : Int) (xorZ (shlZ 1 ((w : Nat) : Int)) (-1)) = (((b &&& (63 ^^^ 2 ^ w)) : Nat) : Int) := by decide +kernel
theorem b63 : ∀ w, w < 6 → ∀ i, i < 6 → (63 ^^^ 2 ^ w).testBit i = decide (i ≠ w) := by decide +kernel
theorem ears_all : ∀ n, n ≤ 6 → earsF (fun _ => true) n = 2 ^ n - 1 := by decide +kernel
/-- nobody's tread heard -/
def uB (T : Nat → Nat → Int) (n p : Nat) : Bool := ! anyF (fun k => decide (T 6 k ≠ 0) && decide (T 0 k = (p : Int))) n
theorem x_unheard {J : mJ} {e h : Nat} {g : Nat → Int} (hv : HV g) (hr : HR J h g) (hO : EvO J e g) {post' : Int → Prop} (hq : post' ((earsF (uB (gRun g).2 (gRun g).1) (g 3).toNat : Nat) : Int)) : v_X2_unheardPeople J e h post' := by
  have hn := gRun_le hv
  have h3 := hv.2.2.2.1
  unfold v_X2_unheardPeople
  rw [hr.1.2.2.2.1]
  obtain ⟨P, hP⟩ : ∃ P : Nat, g 3 = (P : Int) := ⟨(g 3).toNat, by omega⟩
  rw [hP] at hq ⊢
  rw [Int.toNat_natCast] at hq
  rw [shlZ_one (by omega)]
  have hp : 2 ^ P ≤ 2 ^ 6 := Nat.pow_le_pow_right (by decide) (by omega)
  have hp0 : 0 < 2 ^ P := Nat.two_pow_pos P
  refine ⟨⟨by omega, by omega⟩, ?_⟩
  rintro _ rfl
  unfold v_X2_unheardPeople_14
  intro ZZ hZ
  have e0 : ((2 ^ P : Nat) : Int) - 1 = ((earsF (uB (gRun g).2 0) P : Nat) : Int) := by
    rw [show uB (gRun g).2 0 = fun _ => true from rfl, ears_all P (by omega)]; omega
  rw [e0]
  refine lpN (S := fun k => ZZ ((earsF (uB (gRun g).2 k) P : Nat) : Int) (k : Int)) (N := (gRun g).1) (fun k hk ih => hZ _ _ ?_) (hZ _ _ ⟨fun _ => hq, fun c => absurd (Int.le_of_eq hO.1.1) c⟩)
  rw [hO.1.1]
  simp only [Int.toNat_natCast]
  rw [show J (e + 7) k = _ from hO.1.2.1 6 k (by decide) hk, show J (e + 1) k = _ from hO.1.2.1 0 k (by decide) hk]
  obtain ⟨t0, _⟩ := gRun_TV hv k hk
  refine ⟨fun c => by omega, fun _ => ⟨⟨by omega, by omega⟩, fun c => ⟨⟨by omega, by omega⟩, ?_⟩, fun c => ⟨⟨by omega, by omega⟩, ?_⟩⟩⟩
  · rintro _ rfl
    rw [show earsF (uB (gRun g).2 (k + 1)) P = earsF (uB (gRun g).2 k) P from earsF_cong P (fun i hi => by unfold uB; rw [anyF, decide_eq_false (fun c2 => c2 c), Bool.false_and, Bool.or_false])] at ih
    exact ih
  · rintro _ rfl
    refine ⟨⟨by omega, by omega⟩, ?_⟩
    rintro _ rfl
    obtain ⟨w, hw⟩ : ∃ w : Nat, (gRun g).2 0 k = (w : Int) := ⟨((gRun g).2 0 k).toNat, by omega⟩
    have hlt := earsF_lt (uB (gRun g).2 k) P
    rw [hw, andNot _ (by omega) w (by omega)]
    have ee : earsF (uB (gRun g).2 k) P &&& (63 ^^^ 2 ^ w) = earsF (uB (gRun g).2 (k + 1)) P := by
      refine ears_ext (Nat.lt_of_le_of_lt Nat.and_le_left hlt) (fun i hi => ?_)
      rw [Nat.testBit_and, earsF_bit, b63 w (by omega) i (by omega), decide_eq_true hi, Bool.true_and]
      unfold uB
      rw [anyF, decide_eq_true c, Bool.true_and, hw, Bool.not_or]
      congr 1
      by_cases hiw : i = w
      · subst hiw; simp
      · rw [decide_eq_true hiw, decide_eq_false (fun c2 => hiw (by omega))]; rfl
    rw [ee]; exact ih
/-- the reference: all that is heard of one -/
def orF (f : Nat → Nat) : Nat → Nat
  | 0 => 0
  | n + 1 => orF f n ||| f n
theorem orF_zero {f : Nat → Nat} : ∀ n, orF f n = 0 ↔ ∀ k, k < n → f k = 0
  | 0 => ⟨fun _ k h => absurd h (Nat.not_lt_zero _), fun _ => rfl⟩
  | n + 1 => by
    rw [orF, Nat.or_eq_zero_iff, orF_zero n]
    constructor
    · rintro ⟨h1, h2⟩ k hk
      by_cases hkn : k = n
      · subst hkn; exact h2
      · exact h1 k (by omega)
    · intro h; exact ⟨fun k hk => h k (by omega), h n (by omega)⟩
theorem orF_lt {f : Nat → Nat} {b : Nat} : ∀ n, (∀ k, k < n → f k < 2 ^ b) → orF f n < 2 ^ b
  | 0, _ => Nat.two_pow_pos b
  | n + 1, h => Nat.or_lt_two_pow (orF_lt n (fun k hk => h k (by omega))) (h n (by omega))
theorem orF_bit {f : Nat → Nat} {i : Nat} : ∀ n, (orF f n).testBit i = anyF (fun k => (f k).testBit i) n
  | 0 => Nat.zero_testBit i
  | n + 1 => by rw [orF, Nat.testBit_or, orF_bit n, anyF]
def hoF (T : Nat → Nat → Int) (n p : Nat) : Nat := orF (fun k => if T 0 k = (p : Int) then (T 6 k).toNat else 0) n
theorem hoF_lt {g : Nat → Int} {T : Nat → Nat → Int} {n p : Nat} (hV : TV g n T) : hoF T n p < 64 := orF_lt (b := 6) n (fun k hk => by
  obtain ⟨_, _, _, _, _, _, h6, _⟩ := hV k hk
  show (if T 0 k = (p : Int) then (T 6 k).toNat else 0) < 64
  split <;> omega)
theorem hoF_uB {g : Nat → Int} {T : Nat → Nat → Int} {n p : Nat} (hV : TV g n T) : hoF T n p = 0 ↔ uB T n p = true := by
  unfold hoF uB
  rw [orF_zero, Bool.not_eq_true', Bool.eq_false_iff, Ne, anyF_iff]
  constructor
  · rintro h ⟨k, hk, hb⟩
    rw [Bool.and_eq_true, decide_eq_true_eq, decide_eq_true_eq] at hb
    have := h k hk
    rw [if_pos hb.2] at this
    obtain ⟨_, _, _, _, _, _, h6, _⟩ := hV k hk
    omega
  · intro h k hk
    split
    · next c =>
      by_cases c6 : T 6 k = 0
      · rw [c6]; rfl
      · exact absurd ⟨k, hk, by rw [decide_eq_true c6, decide_eq_true c]; rfl⟩ h
    · rfl
theorem m_heardOf {J : mJ} {n : Nat} {g : Nat → Int} {T : Nat → Nat → Int} (hV : TV g n T) (hR : MR J n T) (hn : n ≤ 600) {p : Nat} {post' : Int → Prop} (hq : post' ((hoF T n p : Nat) : Int)) : v_X12_heardOf J 128 (p : Int) post' := by
  unfold v_X12_heardOf v_X12_heardOf_4
  intro ZZ hZ
  refine lpN (S := fun k => ZZ ((hoF T k p : Nat) : Int) (k : Int)) (N := n) (fun k hk ih => hZ _ _ ?_) (hZ _ _ ⟨fun _ => hq, fun c => absurd (Int.le_of_eq hR.1) c⟩)
  rw [hR.1]
  simp only [Int.toNat_natCast]
  rw [show J (128 + 4) k = _ from hR.2 0 k (by decide) hk, show J (128 + 10) k = _ from hR.2 6 k (by decide) hk]
  obtain ⟨_, _, _, _, _, _, h6, _⟩ := hV k hk
  have hl : hoF T k p < 64 := hoF_lt (fun i hi => hV i (by omega))
  have e1 : hoF T (k + 1) p = hoF T k p ||| (if T 0 k = (p : Int) then (T 6 k).toNat else 0) := rfl
  refine ⟨fun c => by omega, fun _ => ⟨⟨by omega, by omega⟩, fun c => ?_, fun c => ⟨⟨by omega, by omega⟩, ?_⟩⟩⟩
  · rintro _ rfl
    refine ⟨⟨by omega, by omega⟩, ?_⟩
    rintro _ rfl
    rw [e1, if_neg c, Nat.or_zero] at ih
    rw [orZ_zero (by omega)]; exact ih
  · rintro _ rfl
    refine ⟨⟨by omega, by omega⟩, ?_⟩
    rintro _ rfl
    rw [e1, if_pos c] at ih
    rw [orZ_Z ⟨by omega, by omega⟩ ⟨by omega, by omega⟩]; unfold oZ; rw [Int.toNat_natCast]; exact ih
/-- ends -/
def eB (g : Nat → Int) (w : Int) (p : Nat) : Bool := if w = 0 then decide (g (45 + 14 * p) < (goT (gGo g) p 99).2) else if w = 1 then decide ((goT (gGo g) p 99).2 < g (45 + 14 * p)) else uB (gRun g).2 (gRun g).1 p
def aEnds (A : Nat → Int) (a1 a2 : Int) : Int := if (0 ≤ a1 ∧ a1 < A 0) ∧ 0 ≤ a2 ∧ a2 ≤ 2 then ((earsF (eB (gH A a1.toNat) a2) (gH A a1.toNat 3).toNat : Nat) : Int) else -1
theorem x_ends {J : mJ} {a1 a2 : Int} (hI : TI J 1 (J 129)) (hE : InvE J) {post' : Int → mJ → Prop} (hq : ∀ J1, XF J J1 → InvE J1 → post' (aEnds (J 129) a1 a2) J1) : v_X11_ends J a1 a2 post' := by
  unfold v_X11_ends
  refine x_eveningAt hI hE (fun c => ⟨fun _ => lf (hq J XF_refl hE) ?_, fun q c2 => (by cases c2)⟩) (fun k J1 ek hk hk2 hv hr hO hX hE1 => ⟨fun c2 => (by cases c2), fun q eq => ?_⟩)
  · unfold aEnds; rw [if_neg (fun c2 => c c2.1)]
  · cases eq
    have h := hq J1 (XE_XF hX) hE1
    subst ek
    unfold aEnds at h
    rw [Int.toNat_natCast] at h
    generalize gH (J 129) k = g at hv hr hO h
    refine ⟨fun c => ?_, fun c => ⟨fun c2 => ⟨fun c3 => ?_, fun c3 => ?_⟩, fun c2 => ?_⟩⟩
    · rw [if_neg (by omega)] at h; exact h
    · rw [if_pos ⟨⟨by omega, hk⟩, ⟨by omega, by omega⟩⟩] at h
      have h3 := hv.2.2.2.1
      unfold v_X11_ends_37
      intro ZZ hZ
      refine lpN (S := fun p => ZZ J1 (94 + 17 * k) ((earsF (eB g a2) p : Nat) : Int) (p : Int)) (N := (g 3).toNat) (fun p hp ih => hZ _ _ _ _ ?_) (hZ _ _ _ _ ?_)
      · rw [hE_k, hr.1.2.2.2.1]
        simp only [Int.toNat_natCast]
        obtain ⟨_, _, _, _, r8, _⟩ := hr.2.2.2.1 p (by omega)
        rw [r8]
        refine ⟨fun c => by omega, fun _ => ⟨⟨by omega, by omega⟩, ?_⟩⟩
        rintro _ rfl
        refine x_spotAt (t := 99) hO (by omega) (by omega) (by decide) ?_
        have nx : eB g a2 p = true → v_X11_ends_92 (k : Int) a2 post' ZZ J1 (94 + 17 * k) ((earsF (eB g a2) p : Nat) : Int) (p : Int) := by
          intro hb
          unfold v_X11_ends_92
          rintro _ rfl
          refine ⟨⟨by omega, by omega⟩, ?_⟩
          rintro _ rfl
          rw [ears_t (by omega) hb]; exact ih
        have ny : ¬ eB g a2 p = true → ∀ y, y = (p : Int) + 1 → ZZ J1 (94 + 17 * k) ((earsF (eB g a2) p : Nat) : Int) y := by
          intro hb
          rintro _ rfl
          rw [ears_f hb]; exact ih
        unfold eB at nx ny
        refine ⟨fun c4 => ⟨fun c5 => ⟨⟨by omega, by omega⟩, ny ?_⟩, fun c5 => nx ?_⟩, fun c4 => ⟨fun c5 => ⟨⟨by omega, by omega⟩, ny ?_⟩, fun c5 => nx ?_⟩⟩
        · rw [if_neg c4, if_pos (by omega), decide_eq_true_eq]; omega
        · rw [if_neg c4, if_pos (by omega), decide_eq_true_eq]; omega
        · rw [if_pos c4, decide_eq_true_eq]; omega
        · rw [if_pos c4, decide_eq_true_eq]; omega
      · rw [hE_k, hr.1.2.2.2.1]
        exact ⟨fun _ => h, fun c => by omega⟩
    · rw [if_pos ⟨⟨by omega, hk⟩, ⟨by omega, by omega⟩⟩] at h
      rw [hE_k]
      refine x_unheard hv hr hO (lf h ?_)
      congr 1
      refine earsF_cong _ (fun i _ => ?_)
      unfold eB; rw [if_neg (by omega), if_neg (by omega)]
    · rw [if_neg (by omega)] at h; exact h
theorem n_goalsEnd {J : mJ} {g : Nat → Int} (hO : MP J g) {p : Nat} (hp : (p : Int) < g 3) (hp6 : p < 6) {post' : Int → Prop} (hq : post' (goT (gGo g) p 99).2) : v_X12_goalsEnd J 128 (p : Int) post' := by
  refine ⟨⟨by omega, by omega⟩, ⟨by omega, by omega⟩, ⟨by omega, by omega⟩, lf1 hq ?_⟩
  rw [show (100 * (p : Int) + 99).toNat = p * 100 + 99 by omega]
  exact hO.2.1 p 99 hp (by decide)
theorem m_ends {J : mJ} {a1 a2 : Int} {t : Nat} (hI : TI J t (J 129)) (hU : UV (J 128)) {post' : Int → mJ → Prop} (hq : ∀ J1, MF J J1 → post' (aEnds (J 129) a1 a2) J1) : v_X12_ends_ J 128 a1 a2 post' := by
  unfold v_X12_ends_
  refine n_isHouse hI hU (fun c => ⟨fun _ => lf (hq J (MF_refl hU)) ?_, fun c2 => Bool.noConfusion c2⟩) (fun k J1 ek hk hk2 hM hp f1 f2 => ⟨fun c2 => Bool.noConfusion c2, fun _ => n_isIn (fun c => ⟨fun c2 => Bool.noConfusion c2, fun _ => lf (hq J1 (MF_one f1 (UV_of hM))) ?_⟩) (fun c => ⟨fun _ => n_runs hM hp (fun J2 hR hM2 hp2 f3 f4 => ?_), fun c2 => Bool.noConfusion c2⟩)⟩)
  · unfold aEnds; rw [if_neg (fun c2 => c c2.1)]
  · unfold aEnds; rw [if_neg (fun c2 => c c2.2)]
  · have h := hq J2 (MF_run f1 f3 (UV_of hM2))
    subst ek
    have hv := hM.2.2.2.1
    unfold aEnds at h
    rw [Int.toNat_natCast, if_pos ⟨⟨by omega, hk⟩, c⟩] at h
    generalize gH (J 129) k = g at hv hR hM2 h
    have hn := gRun_le hv
    have h3 := hv.2.2.2.1
    unfold v_X12_ends__28
    intro ZZ hZ
    refine lpN (S := fun p => ZZ J2 ((earsF (eB g a2) p : Nat) : Int) (p : Int)) (N := (g 3).toNat) (fun p hp ih => hZ _ _ _ (n_people hM2 ?_)) (hZ _ _ _ (n_people hM2 ⟨fun _ => h, fun c => by omega⟩))
    refine ⟨fun c => by omega, fun _ => n_goalsEnd hR (by omega) (by omega) ?_⟩
    have nx : eB g a2 p = true → v_X12_ends__108 128 (k : Int) a2 post' ZZ J2 ((earsF (eB g a2) p : Nat) : Int) (p : Int) 1 := by
      intro hb
      refine ⟨fun c => absurd c (by decide), fun _ => ?_⟩
      rintro _ rfl
      refine ⟨⟨by omega, by omega⟩, ?_⟩
      rintro _ rfl
      rw [ears_t (by omega) hb]; exact ih
    have ny : ¬ eB g a2 p = true → v_X12_ends__108 128 (k : Int) a2 post' ZZ J2 ((earsF (eB g a2) p : Nat) : Int) (p : Int) 0 := by
      intro hb
      refine ⟨fun _ => ?_, fun c => absurd rfl c⟩
      rintro _ rfl
      refine ⟨⟨by omega, by omega⟩, ?_⟩
      rintro _ rfl
      rw [ears_f0 (by omega) hb]; exact ih
    unfold eB at nx ny
    refine ⟨fun c4 => ⟨fun c5 => m_heardOf (gRun_TV hv) hR.1 hn ⟨fun c6 => ny ?_, fun c6 => nx ?_⟩, fun c5 => n_told hM2 p 4 (45 + 14 * p) rfl rfl ⟨by omega, by omega⟩ (by omega) ⟨fun c6 => ny ?_, fun c6 => nx ?_⟩⟩, fun c4 => n_told hM2 p 4 (45 + 14 * p) rfl rfl ⟨by omega, by omega⟩ (by omega) ⟨fun c6 => ny ?_, fun c6 => nx ?_⟩⟩
    · rw [if_neg c4, if_neg c5, ← hoF_uB (gRun_TV hv)]; omega
    · rw [if_neg c4, if_neg c5, ← hoF_uB (gRun_TV hv)]; omega
    · rw [if_neg c4, if_pos c5, decide_eq_true_eq]; omega
    · rw [if_neg c4, if_pos c5, decide_eq_true_eq]; omega
    · rw [if_pos c4, decide_eq_true_eq]; omega
    · rw [if_pos c4, decide_eq_true_eq]; omega
/-- ring -/
def maxF (f : Nat → Int) : Nat → Int
  | 0 => 0
  | n + 1 => maxZ (maxF f n) (f n)
theorem maxF_rng {f : Nat → Int} {m : Int} (hm : 0 ≤ m) : ∀ n, (∀ k, k < n → f k ≤ m) → 0 ≤ maxF f n ∧ maxF f n ≤ m
  | 0, _ => ⟨Int.le_refl _, hm⟩
  | n + 1, h => by
    have ih := maxF_rng (f := f) hm n (fun k hk => h k (by omega))
    have := h n (by omega)
    rw [maxF]; unfold maxZ; split <;> omega
def aRing (A : Nat → Int) (a1 a2 : Int) : Int := if (0 ≤ a1 ∧ a1 < A 0) ∧ (gRun (gH A a1.toNat)).1 ≠ 0 then (if a2 = -1 then maxF ((gRun (gH A a1.toNat)).2 8) (gRun (gH A a1.toNat)).1 else pkF ((gRun (gH A a1.toNat)).2 8) a2 ((gRun (gH A a1.toNat)).1 : Int) (-1)) else -1
theorem x_ring {J : mJ} {a1 a2 : Int} (hI : TI J 1 (J 129)) (hE : InvE J) {post' : Int → mJ → Prop} (hq : ∀ J1, XF J J1 → InvE J1 → post' (aRing (J 129) a1 a2) J1) : v_X11_ring J a1 a2 post' := by
  unfold v_X11_ring
  refine x_eveningAt hI hE (fun c => ⟨fun _ => lf (hq J XF_refl hE) ?_, fun q c2 => (by cases c2)⟩) (fun k J1 ek hk hk2 hv hr hO hX hE1 => ⟨fun c2 => (by cases c2), fun q eq => ?_⟩)
  · unfold aRing; rw [if_neg (fun c2 => c c2.1)]
  · cases eq
    have h := hq J1 (XE_XF hX) hE1
    subst ek
    unfold aRing at h
    rw [Int.toNat_natCast] at h
    generalize gH (J 129) k = g at hv hr hO h
    have hn := gRun_le hv
    refine ⟨fun c => ?_, fun c => ?_⟩
    · rw [hO.1.1] at c
      rw [if_pos ⟨⟨by omega, hk⟩, by omega⟩] at h
      refine ⟨fun c2 => ?_, fun c2 => ?_⟩
      · rw [if_neg c2] at h; exact x_pickT hv hO 8 _ (by decide) rfl h
      · rw [if_pos c2] at h
        unfold v_X2_longestRing v_X2_longestRing_4
        intro ZZ hZ
        refine lpN (S := fun i => ZZ (maxF ((gRun g).2 8) i) (i : Int)) (N := (gRun g).1) (fun i hi ih => hZ _ _ ?_) (hZ _ _ ⟨fun _ => h, fun c => absurd (Int.le_of_eq hO.1.1) c⟩)
        rw [hO.1.1, Int.toNat_natCast, show J1 (94 + 17 * k + 9) i = _ from hO.1.2.1 8 i (by decide) hi]
        refine ⟨fun c => by omega, fun _ => ⟨⟨by omega, by omega⟩, ?_⟩⟩
        rintro _ rfl
        refine ⟨⟨by omega, by omega⟩, ?_⟩
        rintro _ rfl
        exact ih
    · rw [hO.1.1] at c
      rw [if_neg (fun c2 => c2.2 (by omega))] at h; exact h
theorem n_ringOf {J : mJ} {g : Nat → Int} (hv : HV g) (hO : MP J g) {k : Nat} (hk : k < (gRun g).1) {post' : Int → Prop} (hq : post' ((gRun g).2 8 k)) : v_X12_ringOf J 128 (k : Int) post' := by
  have hn := gRun_le hv
  unfold v_X12_ringOf v_X12_ringOf_4
  intro ZZ hZ
  have key : ∀ i : Nat, ∀ v : Int, 0 ≤ v → i < (gRun g).1 → v + (gRun g).2 8 i = (gRun g).2 8 k → ZZ v (i : Int) := by
    intro i
    induction i using Nat.strongRecOn with
    | ind i ih =>
      intro v h0 hi hv'
      apply hZ
      obtain ⟨_, _, _, _, _, h5, _, _, h8⟩ := gRun_TV hv i hi
      obtain ⟨_, _, _, _, _, _, _, _, h8k⟩ := gRun_TV hv k hk
      refine ⟨fun c => by omega, fun _ => ⟨⟨by omega, by omega⟩, ?_⟩⟩
      rintro _ rfl
      refine ⟨⟨by omega, by omega⟩, ?_⟩
      rintro _ rfl
      rw [Int.toNat_natCast, show J (128 + 9) i = _ from hO.1.2 5 i (by decide) hi]
      have e8 := (gTQ i hi).2.2.2.2.2
      by_cases c5 : (gRun g).2 5 i = -1
      · rw [c5]
        rw [if_pos c5] at e8
        refine hZ _ _ ⟨fun _ => ?_, fun c => absurd rfl c⟩
        rw [← hv', e8] at hq; exact hq
      · rw [if_neg c5] at e8
        obtain ⟨j, hj⟩ : ∃ j : Nat, (gRun g).2 5 i = (j : Int) := ⟨((gRun g).2 5 i).toNat, by omega⟩
        rw [hj] at h5 e8 ⊢
        rw [Int.toNat_natCast] at e8
        exact ih j (by omega) _ (by omega) (by omega) (by omega)
  exact key k 0 (Int.le_refl _) hk (by omega)
theorem m_ring {J : mJ} {a1 a2 : Int} {t : Nat} (hI : TI J t (J 129)) (hU : UV (J 128)) {post' : Int → mJ → Prop} (hq : ∀ J1, MF J J1 → post' (aRing (J 129) a1 a2) J1) : v_X12_ring J 128 a1 a2 post' := by
  unfold v_X12_ring
  refine n_isHouse hI hU (fun c => ⟨fun c2 => Bool.noConfusion c2, fun _ => lf (hq J (MF_refl hU)) ?_⟩) (fun k J1 ek hk hk2 hM hp f1 f2 => ⟨fun _ => n_runs hM hp (fun J2 hR hM2 hp2 f3 f4 => ?_), fun c2 => Bool.noConfusion c2⟩)
  · unfold aRing; rw [if_neg (fun c2 => c c2.1)]
  · have h := hq J2 (MF_run f1 f3 (UV_of hM2))
    subst ek
    have hv := hM.2.2.2.1
    unfold aRing at h
    rw [Int.toNat_natCast] at h
    generalize gH (J 129) k = g at hv hR hM2 h
    have hn := gRun_le hv
    have e25 := hR.1.1
    rw [e25]
    refine ⟨fun c => ?_, fun c => ⟨⟨by omega, by omega⟩, n_isIn (fun cb => ⟨fun c2 => Bool.noConfusion c2, fun _ => ?_⟩) (fun cb => ⟨fun _ => ⟨fun c2 => ?_, fun c2 => ?_⟩, fun c2 => Bool.noConfusion c2⟩)⟩⟩
    · rw [if_neg (fun c2 => c2.2 (by omega))] at h; exact h
    · rw [if_pos ⟨⟨by omega, hk⟩, by omega⟩, if_neg (by omega)] at h
      unfold pkF at h; rw [if_neg (by omega)] at h; exact h
    · rw [if_pos ⟨⟨by omega, hk⟩, by omega⟩, if_pos c2] at h
      unfold v_X12_ring_53
      intro ZZ hZ
      refine lpN (S := fun i => ZZ J2 (maxF ((gRun g).2 8) i) (i : Int)) (N := (gRun g).1) (fun i hi ih => hZ _ _ _ ?_) (hZ _ _ _ ⟨fun _ => h, fun c => absurd (Int.le_of_eq e25) c⟩)
      rw [e25]
      rw [maxF] at ih; unfold maxZ at ih
      refine ⟨fun c => by omega, fun _ => n_ringOf hv hR hi ⟨fun c3 => ⟨⟨by omega, by omega⟩, ?_⟩, fun c3 => n_ringOf hv hR hi ⟨⟨by omega, by omega⟩, ?_⟩⟩⟩
      · rintro _ rfl
        rw [if_neg (by omega)] at ih; exact ih
      · rintro _ rfl
        rw [if_pos (by omega)] at ih; exact ih
    · rw [if_pos ⟨⟨by omega, hk⟩, by omega⟩, if_neg c2] at h
      unfold pkF at h; rw [if_pos (by omega)] at h
      obtain ⟨i, rfl⟩ : ∃ i : Nat, a2 = (i : Int) := ⟨a2.toNat, by omega⟩
      exact n_ringOf hv hR (by omega) h
/-- meet -/
def sgnZ (a : Int) : Int := if 0 < a then 1 else if a < 0 then -1 else 0
theorem sgn_dec : ∀ k : Nat, k < 61 → (zi ((k : Int) - 30) >>> ((31 : Int32) &&& 31)) ||| (iushr (-(zi ((k : Int) - 30))) 31) = zi (sgnZ ((k : Int) - 30)) := by decide +kernel
theorem p_signum {a : Int} (ha : -30 ≤ a ∧ a ≤ 30) {post' : Int → Prop} (h : post' (sgnZ a)) : v_J6_signum_0f7a4 a post' := by
  intro post hp
  have := sgn_dec (a + 30).toNat (by omega)
  rw [show (((a + 30).toNat : Nat) : Int) - 30 = a by omega] at this
  refine hp _ (sgnZ a) this ?_ h
  unfold sgnZ; split
  · exact ⟨by omega, by omega⟩
  · split <;> exact ⟨by omega, by omega⟩
/-- the first that fits -/
def fstF (P : Nat → Bool) (k : Nat) : Nat → Int
  | 0 => -1
  | d + 1 => if P k = true then (k : Int) else fstF P (k + 1) d
def pos (g : Nat → Int) (p t : Nat) : Int := (goT (gGo g) p t).2
def mtB (g : Nat → Int) (a b t : Nat) : Bool := decide (pos g a t ≠ -1 ∧ pos g a t = pos g b t)
def psB (g : Nat → Int) (a b t : Nat) : Bool := decide (t ≠ 0 ∧ pos g a (t - 1) ≠ -1 ∧ pos g b (t - 1) ≠ -1 ∧ (pos g a (t - 1) ≤ pos g b (t - 1) ∧ pos g b t < pos g a t ∨ pos g b (t - 1) ≤ pos g a (t - 1) ∧ pos g a t < pos g b t))
theorem fst_up {P : Nat → Bool} {k : Nat} (hk : k < 100) (h : P k = false) : fstF P k (100 - k) = fstF P (k + 1) (100 - (k + 1)) := by
  rw [show 100 - k = (100 - (k + 1)) + 1 by omega, fstF, if_neg (by rw [h]; decide)]
theorem fst_at {P : Nat → Bool} {k : Nat} (hk : k < 100) (h : P k = true) : fstF P k (100 - k) = (k : Int) := by
  rw [show 100 - k = (100 - (k + 1)) + 1 by omega, fstF, if_pos h]
def aMeet (A : Nat → Int) (a1 a2 a3 a4 : Int) : Int := if (0 ≤ a1 ∧ a1 < A 0) ∧ a2 ≠ a3 ∧ (0 ≤ a2 ∧ a2 < gH A a1.toNat 3) ∧ (0 ≤ a3 ∧ a3 < gH A a1.toNat 3) then (if a4 = 0 then fstF (mtB (gH A a1.toNat) a2.toNat a3.toNat) 0 100 else ((cntF (psB (gH A a1.toNat) a2.toNat a3.toNat) 100 : Nat) : Int)) else -1
theorem pos_rng {g : Nat → Int} (hv : HV g) {p t : Nat} (hp : (p : Int) < g 3) : -1 ≤ pos g p t ∧ pos g p t < 24 := by
  have h1 := (gTrV hv p t hp).1
  have h0 := hv.1
  unfold pos; omega
theorem x_firstMeeting {J : mJ} {e h : Nat} {g : Nat → Int} (hO : EvO J e g) {a b : Nat} (ha : (a : Int) < g 3) (hb : (b : Int) < g 3) (ha6 : a < 6) (hb6 : b < 6) {post' : Int → Prop} (hq : post' (fstF (mtB g a b) 0 100)) : v_X2_firstMeeting J e h (a : Int) (b : Int) post' := by
  unfold v_X2_firstMeeting v_X2_firstMeeting_2
  intro ZZ hZ
  refine lpN (S := fun t => fstF (mtB g a b) 0 100 = fstF (mtB g a b) t (100 - t) → ZZ (t : Int)) (N := 100) (fun t ht ih hm => hZ _ ?_) (fun hm => hZ _ ⟨fun _ => by rw [hm] at hq; exact hq, fun c => absurd (Int.le_refl _) c⟩) rfl
  refine ⟨fun c => by omega, fun _ => x_spotAt hO ha ha6 ht ⟨fun c => ⟨⟨by omega, by omega⟩, ?_⟩, fun c => x_spotAt hO ha ha6 ht (x_spotAt hO hb hb6 ht ⟨fun c2 => ⟨⟨by omega, by omega⟩, ?_⟩, fun c2 => ?_⟩)⟩⟩
  · rintro _ rfl
    exact ih (by rw [hm]; exact fst_up ht (decide_eq_false (fun c3 => c3.1 c)))
  · rintro _ rfl
    exact ih (by rw [hm]; exact fst_up ht (decide_eq_false (fun c3 => c2 c3.2)))
  · rw [hm, fst_at ht (decide_eq_true ⟨c, c2⟩)] at hq; exact hq
theorem x_passes {J : mJ} {e h : Nat} {g : Nat → Int} (hv : HV g) (hO : EvO J e g) {a b : Nat} (ha : (a : Int) < g 3) (hb : (b : Int) < g 3) (ha6 : a < 6) (hb6 : b < 6) {post' : Int → Prop} (hq : post' ((cntF (psB g a b) 100 : Nat) : Int)) : v_X2_passes J e h (a : Int) (b : Int) post' := by
  unfold v_X2_passes v_X2_passes_5
  intro ZZ hZ
  have key := lpN (S := fun t => ZZ ((cntF (psB g a b) (t + 1) : Nat) : Int) ((t + 1 : Nat) : Int)) (N := 99) (fun t ht ih => hZ _ _ ?_) (hZ _ _ ⟨fun _ => hq, fun c => absurd (Int.le_refl _) c⟩)
  · rw [cntF_f (P := psB g a b) (n := 0) (decide_eq_false (fun c => c.1 rfl))] at key; exact key
  · have hcl := cntF_le (psB g a b) (t + 1)
    have ra := pos_rng hv (t := t) ha
    have rb := pos_rng hv (t := t) hb
    have ra1 := pos_rng hv (t := t + 1) ha
    have rb1 := pos_rng hv (t := t + 1) hb
    have nf : psB g a b (t + 1) = false → ∀ y, y = ((t + 1 : Nat) : Int) + 1 → ZZ ((cntF (psB g a b) (t + 1) : Nat) : Int) y := by
      intro hf
      rintro _ rfl
      rw [cntF_f hf] at ih; exact ih
    refine ⟨fun c => by omega, fun _ => ⟨⟨by omega, by omega⟩, ?_⟩⟩
    rw [show (((t + 1 : Nat) : Int) - 1) = (t : Int) by omega]
    refine x_spotAt hO ha ha6 (by omega) ⟨fun c => ⟨⟨by omega, by omega⟩, nf ?_⟩, fun c => ⟨⟨by omega, by omega⟩, x_spotAt hO hb hb6 (by omega) ⟨fun c2 => ⟨⟨by omega, by omega⟩, nf ?_⟩, fun c2 => ⟨⟨by omega, by omega⟩, x_spotAt hO ha ha6 (by omega) ⟨⟨by omega, by omega⟩, x_spotAt hO hb hb6 (by omega) ?_⟩⟩⟩⟩⟩
    · exact decide_eq_false (fun c3 => c3.2.1 c)
    · exact decide_eq_false (fun c3 => c3.2.2.1 c2)
    · show ir (pos g a t - pos g b t) ∧ _
      refine ⟨⟨by omega, by omega⟩, p_signum (a := pos g a t - pos g b t) ⟨by omega, by omega⟩ (x_spotAt hO ha ha6 (by omega) (x_spotAt hO hb hb6 (by omega) ?_))⟩
      show ir (pos g a (t + 1) - pos g b (t + 1)) ∧ _
      refine ⟨⟨by omega, by omega⟩, p_signum (a := pos g a (t + 1) - pos g b (t + 1)) ⟨by omega, by omega⟩ ⟨fun c3 => ⟨⟨by omega, by omega⟩, nf ?_⟩, fun c3 => ⟨fun c4 => ⟨⟨by omega, by omega⟩, nf ?_⟩, fun c4 => ⟨⟨by omega, by omega⟩, ?_⟩⟩⟩⟩
      · refine decide_eq_false (fun c5 => ?_)
        have c5 := c5.2.2.2
        rw [Nat.add_sub_cancel] at c5
        unfold sgnZ at c3; split at c3
        · omega
        · split at c3 <;> omega
      · refine decide_eq_false (fun c5 => ?_)
        have c5 := c5.2.2.2
        rw [Nat.add_sub_cancel] at c5
        unfold sgnZ at c3 c4
        (repeat' split at c4) <;> omega
      · rintro _ rfl
        refine ⟨⟨by omega, by omega⟩, ?_⟩
        rintro _ rfl
        have hb2 : psB g a b (t + 1) = true := by
          refine decide_eq_true ⟨by omega, by rw [Nat.add_sub_cancel]; exact c, by rw [Nat.add_sub_cancel]; exact c2, ?_⟩
          rw [Nat.add_sub_cancel]
          unfold sgnZ at c3 c4
          by_cases h1 : 0 < pos g a (t + 1) - pos g b (t + 1)
          · rw [if_pos h1] at c4
            by_cases h2 : 0 < pos g a t - pos g b t
            · rw [if_pos h2] at c4; omega
            · omega
          · rw [if_neg h1] at c4 c3
            by_cases h3 : pos g a (t + 1) - pos g b (t + 1) < 0
            · rw [if_pos h3] at c4
              by_cases h2 : 0 < pos g a t - pos g b t
              · omega
              · rw [if_neg h2] at c4
                by_cases h4 : pos g a t - pos g b t < 0
                · rw [if_pos h4] at c4; omega
                · omega
            · rw [if_neg h3] at c3; omega
        rw [cntF_t hb2] at ih; exact ih
theorem x_meet {J : mJ} {a1 a2 a3 a4 : Int} (hI : TI J 1 (J 129)) (hE : InvE J) {post' : Int → mJ → Prop} (hq : ∀ J1, XF J J1 → InvE J1 → post' (aMeet (J 129) a1 a2 a3 a4) J1) : v_X11_meet J a1 a2 a3 a4 post' := by
  unfold v_X11_meet
  refine x_eveningAt hI hE (fun c => ⟨fun _ => lf (hq J XF_refl hE) ?_, fun q c2 => (by cases c2)⟩) (fun k J1 ek hk hk2 hv hr hO hX hE1 => ⟨fun c2 => (by cases c2), fun q eq => ?_⟩)
  · unfold aMeet; rw [if_neg (fun c2 => c c2.1)]
  · cases eq
    have h := hq J1 (XE_XF hX) hE1
    subst ek
    unfold aMeet at h
    rw [Int.toNat_natCast] at h
    rw [hE_k]
    generalize gH (J 129) k = g at hv hr hO h
    refine ⟨fun c => ?_, fun c => x_hasP hv hr (fun cp => ⟨fun _ => ?_, fun c2 => Bool.noConfusion c2⟩) (fun a ea ha ha6 => ⟨fun c2 => Bool.noConfusion c2, fun _ => x_hasP hv hr (fun cp => ⟨fun c2 => Bool.noConfusion c2, fun _ => ?_⟩) (fun b eb hb hb6 => ⟨fun _ => ?_, fun c2 => Bool.noConfusion c2⟩)⟩)⟩
    · rw [if_neg (fun c2 => c2.2.1 c)] at h; exact h
    · rw [if_neg (fun c2 => cp c2.2.2.1)] at h; exact h
    · rw [if_neg (fun c2 => cp c2.2.2.2)] at h; exact h
    · subst ea; subst eb
      rw [if_pos ⟨⟨by omega, hk⟩, c, ⟨by omega, ha⟩, ⟨by omega, hb⟩⟩, Int.toNat_natCast, Int.toNat_natCast] at h
      refine ⟨fun c4 => ?_, fun c4 => ?_⟩
      · rw [if_pos c4] at h; exact x_firstMeeting hO ha hb ha6 hb6 h
      · rw [if_neg c4] at h; exact x_passes hv hO ha hb ha6 hb6 h
theorem n_at {J : mJ} {g : Nat → Int} (hO : MP J g) {p t : Nat} (hp : (p : Int) < g 3) (ht : t < 100) {i : Int} (hi : i = 100 * (p : Int) + (t : Int)) : J (128 + 12) i.toNat = pos g p t := by
  subst hi
  rw [show (100 * (p : Int) + (t : Int)).toNat = p * 100 + t by omega]
  exact hO.2.1 p t hp ht
theorem m_isPass {J : mJ} {g : Nat → Int} (hO : MP J g) {a b t : Nat} (ha : (a : Int) < g 3) (hb : (b : Int) < g 3) (ha6 : a < 6) (hb6 : b < 6) (ht : t < 100) (h0 : t ≠ 0) {post' : Bool → Prop} (hq : post' (psB g a b t)) : v_X12_isPass J 128 (a : Int) (b : Int) (t : Int) post' := by
  refine ⟨⟨by omega, by omega⟩, ⟨by omega, by omega⟩, ⟨by omega, by omega⟩, ⟨by omega, by omega⟩, ?_⟩
  rintro _ rfl
  refine ⟨⟨by omega, by omega⟩, ⟨by omega, by omega⟩, ⟨by omega, by omega⟩, ⟨by omega, by omega⟩, ?_⟩
  rintro _ rfl
  refine ⟨⟨by omega, by omega⟩, ⟨by omega, by omega⟩, ⟨by omega, by omega⟩, ?_⟩
  rintro _ rfl
  refine ⟨⟨by omega, by omega⟩, ⟨by omega, by omega⟩, ⟨by omega, by omega⟩, ?_⟩
  rintro _ rfl
  rw [n_at hO ha (t := t - 1) (by omega) (by omega), n_at hO hb (t := t - 1) (by omega) (by omega), n_at hO ha ht rfl, n_at hO hb ht rfl]
  unfold psB at hq
  unfold v_X12_isPass_82
  refine ⟨fun c => (pb hq).2 (fun c5 => c5.2.1 c), fun c => ⟨fun c2 => (pb hq).2 (fun c5 => c5.2.2.1 c2), fun c2 => ⟨fun c3 => ⟨fun c4 => by omega, fun c4 => ⟨fun c6 => (pb hq).2 (fun c5 => ?_), fun c6 => (pb hq).1 ⟨h0, c, c2, ?_⟩⟩⟩, fun c3 => ⟨fun c4 => (pb hq).1 ⟨h0, c, c2, ?_⟩, fun c4 => ⟨fun c6 => (pb hq).2 (fun c5 => ?_), fun c6 => ⟨fun c7 => (pb hq).2 (fun c5 => ?_), fun c7 => (pb hq).1 ⟨h0, c, c2, ?_⟩⟩⟩⟩⟩⟩⟩
  all_goals first | omega | (have c5 := c5.2.2.2; omega)
theorem m_meet {J : mJ} {a1 a2 a3 a4 : Int} {t : Nat} (hI : TI J t (J 129)) (hU : UV (J 128)) {post' : Int → mJ → Prop} (hq : ∀ J1, MF J J1 → post' (aMeet (J 129) a1 a2 a3 a4) J1) : v_X12_meet J 128 a1 a2 a3 a4 post' := by
  unfold v_X12_meet
  refine n_isHouse hI hU (fun c => ⟨fun _ => lf (hq J (MF_refl hU)) ?_, fun c2 => Bool.noConfusion c2⟩) (fun k J1 ek hk hk2 hM hp f1 f2 => ⟨fun c2 => Bool.noConfusion c2, fun _ => ?_⟩)
  · unfold aMeet; rw [if_neg (fun c2 => c c2.1)]
  · have h1 := hq J1 (MF_one f1 (UV_of hM))
    subst ek
    unfold aMeet at h1
    rw [Int.toNat_natCast] at h1
    refine n_isPerson hM (fun cp => ⟨fun _ => ?_, fun c2 => Bool.noConfusion c2⟩) (fun a ea ha ha6 => ⟨fun c2 => Bool.noConfusion c2, fun _ => n_isPerson hM (fun cp => ⟨fun _ => ?_, fun c2 => Bool.noConfusion c2⟩) (fun b eb hb hb6 => ⟨fun c2 => Bool.noConfusion c2, fun _ => ⟨fun c => n_runs hM hp (fun J2 hR hM2 hp2 f3 f4 => ?_), fun c => ?_⟩⟩)⟩)
    · rw [if_neg (fun c2 => cp c2.2.2.1)] at h1; exact h1
    · rw [if_neg (fun c2 => cp c2.2.2.2)] at h1; exact h1
    · have h := hq J2 (MF_run f1 f3 (UV_of hM2))
      subst ea; subst eb
      unfold aMeet at h
      rw [Int.toNat_natCast, if_pos ⟨⟨by omega, hk⟩, c, ⟨by omega, ha⟩, ⟨by omega, hb⟩⟩, Int.toNat_natCast, Int.toNat_natCast] at h
      generalize gH (J 129) k = g at ha hb hR hM2 h
      unfold v_X12_meet_41
      intro ZZ hZ
      by_cases c4 : a4 = 0
      · rw [if_pos c4] at h
        refine lpN (S := fun t => fstF (mtB g a b) 0 100 = fstF (mtB g a b) t (100 - t) → ZZ J2 0 (t : Int)) (N := 100) (fun t ht ih hm => hZ _ _ _ ?_) (fun hm => hZ _ _ _ ⟨fun _ => ?_, fun c => absurd (Int.le_refl _) c⟩) rfl
        · refine ⟨fun c => by omega, fun _ => ⟨fun c => absurd c4 c, fun _ => ⟨⟨by omega, by omega⟩, ⟨by omega, by omega⟩, ⟨by omega, by omega⟩, ?_⟩⟩⟩
          rw [n_at hR ha ht rfl, n_at hR hb ht rfl]
          have nx : mtB g a b t = false → v_X12_meet_99 128 (k : Int) (a : Int) (b : Int) a4 post' ZZ J2 0 (t : Int) := by
            intro hf
            refine ⟨fun _ => ⟨⟨by omega, by omega⟩, ?_⟩, fun c => absurd c4 c⟩
            rintro _ rfl
            refine ⟨⟨by omega, by omega⟩, ?_⟩
            rintro _ rfl
            exact ih (by rw [hm]; exact fst_up ht hf)
          refine ⟨fun c => nx (decide_eq_false (fun c3 => c3.1 c)), fun c => ⟨⟨by omega, by omega⟩, ⟨by omega, by omega⟩, ⟨by omega, by omega⟩, ⟨by omega, by omega⟩, ⟨by omega, by omega⟩, ⟨by omega, by omega⟩, fun c2 => nx (decide_eq_false (fun c3 => c2 c3.2)), fun c2 => ?_⟩⟩
          rw [hm, fst_at ht (decide_eq_true ⟨c, c2⟩)] at h; exact h
        · rw [hm] at h; exact ⟨fun _ => h, fun c => absurd c4 c⟩
      · rw [if_neg c4] at h
        refine lpN (S := fun t => ZZ J2 ((cntF (psB g a b) t : Nat) : Int) (t : Int)) (N := 100) (fun t ht ih => hZ _ _ _ ?_) (hZ _ _ _ ⟨fun _ => ⟨fun c => absurd c c4, fun _ => h⟩, fun c => absurd (Int.le_refl _) c⟩)
        have hcl := cntF_le (psB g a b) t
        refine ⟨fun c => by omega, fun _ => ⟨fun _ => ⟨fun c => absurd c c4, fun _ => ⟨fun c => ⟨⟨by omega, by omega⟩, ?_⟩, fun c => m_isPass hR ha hb ha6 hb6 ht (by omega) (cnt_stepR (ZZ := ZZ J2) (by omega) ih)⟩⟩, fun c => absurd c c4⟩⟩
        rintro _ rfl
        refine ⟨⟨by omega, by omega⟩, ?_⟩
        rintro _ rfl
        rw [cntF_f (P := psB g a b) (decide_eq_false (fun c3 => c3.1 (by omega)))] at ih
        rw [Int.add_zero]; exact ih
    · rw [if_neg (fun c2 => c2.2.1 c)] at h1; exact h1
