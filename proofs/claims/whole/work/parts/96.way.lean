/-! ways: the least cost forwards and backwards -/
def minF (P : Nat → Bool) (f : Nat → Nat) (W : Nat) : Nat → Nat
  | 0 => W
  | n + 1 => if P n = true then min (minF P f W n) (f n) else minF P f W n
theorem minF_W {P : Nat → Bool} {f : Nat → Nat} {W : Nat} : ∀ n, minF P f W n ≤ W
  | 0 => Nat.le_refl _
  | n + 1 => by
    have := minF_W (P := P) (f := f) (W := W) n
    rw [minF]; split <;> omega
theorem minF_le {P : Nat → Bool} {f : Nat → Nat} {W k : Nat} (hp : P k = true) : ∀ n, k < n → minF P f W n ≤ f k
  | 0, h => absurd h (Nat.not_lt_zero _)
  | n + 1, h => by
    rw [minF]
    by_cases e : k = n
    · subst e; rw [if_pos hp]; omega
    · have := minF_le (f := f) (W := W) hp n (by omega)
      split <;> omega
theorem minF_ex {P : Nat → Bool} {f : Nat → Nat} {W : Nat} : ∀ n, minF P f W n < W → ∃ k, k < n ∧ P k = true ∧ f k = minF P f W n
  | 0, h => absurd h (Nat.lt_irrefl _)
  | n + 1, h => by
    rw [minF] at h ⊢
    by_cases c : P n = true
    · rw [if_pos c] at h ⊢
      by_cases c2 : f n ≤ minF P f W n
      · exact ⟨n, by omega, c, by omega⟩
      · obtain ⟨k, hk, h1, h2⟩ := minF_ex (P := P) (f := f) (W := W) n (by omega)
        exact ⟨k, by omega, h1, by omega⟩
    · rw [if_neg c] at h ⊢
      obtain ⟨k, hk, h1, h2⟩ := minF_ex (P := P) (f := f) (W := W) n h
      exact ⟨k, by omega, h1, h2⟩
theorem minF_skip {P : Nat → Bool} {f : Nat → Nat} {W a : Nat} : ∀ d, (∀ k, a ≤ k → k < a + d → P k = false) → minF P f W (a + d) = minF P f W a
  | 0, _ => rfl
  | d + 1, h => by
    rw [← Nat.add_assoc, minF, if_neg (by rw [h (a + d) (by omega) (by omega)]; decide)]
    exact minF_skip d (fun k h1 h2 => h k h1 (by omega))
def rB (R s t : Nat) : Bool := decide (s ≤ t + R ∧ t ≤ s + R)
def pw (W x : Nat) : Nat := if x = 2 then W else x
def sc (W : Nat) (q : Nat → Nat → Nat) (i s t : Nat) : Nat := if s = t then 0 else pw W (q i t)
def lsF (q : Nat → Nat → Nat) (S R f : Nat) : Nat → Nat → Nat
  | 0, s => if s = f then 0 else 1000
  | i + 1, s => min (lsF q S R f i s) (min 1000 (minF (fun r => rB R r s && decide (r ≠ s)) (lsF q S R f i) 1000 S + pw 1000 (q (i + 1) s)))
def ahF (q : Nat → Nat → Nat) (S R e : Nat) : Nat → Nat → Nat → Nat
  | 0, _, s => if s = e then 0 else 1000000
  | d + 1, i, s => minF (rB R s) (fun t => sc 1000000 q (i + 1) s t + ahF q S R e d (i + 1) t) 1000000 S
theorem ls_1000 {q : Nat → Nat → Nat} {S R f : Nat} : ∀ i s, lsF q S R f i s ≤ 1000
  | 0, s => by rw [lsF]; split <;> omega
  | i + 1, s => by rw [lsF]; omega
theorem ah_M {q : Nat → Nat → Nat} {S R e : Nat} : ∀ d i s, ahF q S R e d i s ≤ 1000000
  | 0, i, s => by rw [ahF]; split <;> omega
  | d + 1, i, s => by rw [ahF]; exact minF_W S
theorem ls_A {q : Nat → Nat → Nat} {S R f i s r : Nat} (hs : s < S) (h : rB R s r = true) : lsF q S R f (i + 1) r ≤ lsF q S R f i s + sc 1000 q (i + 1) s r := by
  rw [lsF]; unfold sc
  by_cases c : s = r
  · subst c; rw [if_pos rfl]; omega
  · rw [if_neg c]
    have := minF_le (P := fun r' => rB R r' r && decide (r' ≠ r)) (f := lsF q S R f i) (W := 1000) (k := s) (by show (rB R s r && decide (s ≠ r)) = true; rw [h, decide_eq_true c]; rfl) S hs
    omega
theorem rB_self (R s : Nat) : rB R s s = true := by unfold rB; rw [decide_eq_true_eq]; omega
theorem ls_C {q : Nat → Nat → Nat} {S R f i s : Nat} (hs : s < S) (h : lsF q S R f (i + 1) s < 1000) : ∃ r, r < S ∧ rB R r s = true ∧ lsF q S R f i r + sc 1000 q (i + 1) r s = lsF q S R f (i + 1) s := by
  rw [lsF] at h ⊢
  by_cases c : lsF q S R f i s ≤ min 1000 (minF (fun r => rB R r s && decide (r ≠ s)) (lsF q S R f i) 1000 S + pw 1000 (q (i + 1) s))
  · exact ⟨s, hs, rB_self R s, by unfold sc; rw [if_pos rfl]; omega⟩
  · obtain ⟨r, hr, h1, h2⟩ := minF_ex (P := fun r => rB R r s && decide (r ≠ s)) (f := lsF q S R f i) (W := 1000) S (by omega)
    change (rB R r s && decide (r ≠ s)) = true at h1
    rw [Bool.and_eq_true, decide_eq_true_eq] at h1
    exact ⟨r, hr, h1.1, by unfold sc; rw [if_neg h1.2]; omega⟩
theorem ah_B {q : Nat → Nat → Nat} {S R e d i s r : Nat} (hr : r < S) (h : rB R s r = true) : ahF q S R e (d + 1) i s ≤ sc 1000000 q (i + 1) s r + ahF q S R e d (i + 1) r := by
  rw [ahF]
  exact minF_le (P := rB R s) (f := fun t => sc 1000000 q (i + 1) s t + ahF q S R e d (i + 1) t) h S hr
theorem ah_C {q : Nat → Nat → Nat} {S R e d i s : Nat} (h : ahF q S R e (d + 1) i s < 1000000) : ∃ r, r < S ∧ rB R s r = true ∧ sc 1000000 q (i + 1) s r + ahF q S R e d (i + 1) r = ahF q S R e (d + 1) i s := by
  rw [ahF] at h ⊢
  obtain ⟨r, hr, h1, h2⟩ := minF_ex S h
  exact ⟨r, hr, h1, h2⟩
theorem scq_eq {q : Nat → Nat → Nat} (hq : ∀ i s, q i s ≤ 2) {i s t : Nat} (h : sc 1000 q i s t < 1000 ∨ sc 1000000 q i s t < 1000000) : sc 1000 q i s t = sc 1000000 q i s t ∧ sc 1000 q i s t ≤ 1 := by
  have := hq i t
  unfold sc pw at h ⊢
  by_cases c : s = t
  · rw [if_pos c, if_pos c]; omega
  · rw [if_neg c, if_neg c] at h ⊢
    by_cases c2 : q i t = 2
    · rw [if_pos c2, if_pos c2] at h; omega
    · rw [if_neg c2, if_neg c2]; omega
theorem ah_E {q : Nat → Nat → Nat} (hq : ∀ i s, q i s ≤ 2) {S R e : Nat} : ∀ d i s, ahF q S R e d i s < 1000000 → ahF q S R e d i s ≤ d
  | 0, i, s, h => by
    rw [ahF] at h ⊢
    by_cases c : s = e
    · rw [if_pos c]; omega
    · rw [if_neg c] at h; omega
  | d + 1, i, s, h => by
    obtain ⟨r, hr, h1, h2⟩ := ah_C h
    have := ah_E hq (S := S) (R := R) (e := e) d (i + 1) r (by omega)
    have := scq_eq hq (i := i + 1) (s := s) (t := r) (Or.inr (by omega))
    omega
theorem way_D {q : Nat → Nat → Nat} (hq : ∀ i s, q i s ≤ 2) {S R f e : Nat} : ∀ d i s, s < S → ahF q S R e d i s < 1000 → lsF q S R f (i + d) e ≤ lsF q S R f i s + ahF q S R e d i s
  | 0, i, s, hs, h => by
    rw [ahF] at h
    by_cases c : s = e
    · subst c; exact Nat.le_add_right _ _
    · rw [if_neg c] at h; omega
  | d + 1, i, s, hs, h => by
    obtain ⟨r, hr, h1, h2⟩ := ah_C (by omega : ahF q S R e (d + 1) i s < 1000000)
    have ih := way_D hq (R := R) (f := f) (e := e) d (i + 1) r hr (by omega)
    rw [show i + 1 + d = i + (d + 1) by omega] at ih
    have a := ls_A (q := q) (f := f) (i := i) hs h1
    have := scq_eq hq (i := i + 1) (s := s) (t := r) (Or.inr (by omega))
    omega
theorem way_D' {q : Nat → Nat → Nat} (hq : ∀ i s, q i s ≤ 2) {S R f e : Nat} : ∀ i d s, s < S → lsF q S R f i s < 1000 → ahF q S R e (i + d) 0 f ≤ lsF q S R f i s + ahF q S R e d i s
  | 0, d, s, hs, h => by
    rw [lsF] at h
    by_cases c : s = f
    · subst c; rw [Nat.zero_add]; exact Nat.le_add_left _ _
    · rw [if_neg c] at h; omega
  | i + 1, d, s, hs, h => by
    obtain ⟨r, hr, h1, h2⟩ := ls_C hs h
    have ih := way_D' hq (R := R) (f := f) (e := e) i (d + 1) r hr (by omega)
    rw [show i + (d + 1) = i + 1 + d by omega] at ih
    have b := ah_B (q := q) (e := e) (d := d) (i := i) hs h1
    have := scq_eq hq (i := i + 1) (s := r) (t := s) (Or.inl (by omega))
    omega
theorem way_eq {q : Nat → Nat → Nat} (hq : ∀ i s, q i s ≤ 2) {S R f e n : Nat} (hf : f < S) (he : e < S) (hn : n ≤ 60) (h : lsF q S R f n e < 1000 ∨ ahF q S R e n 0 f < 1000000) : lsF q S R f n e = ahF q S R e n 0 f ∧ lsF q S R f n e ≤ 60 := by
  have d1 : ahF q S R e n 0 f < 1000 → lsF q S R f n e ≤ ahF q S R e n 0 f := fun h => by
    have := way_D hq (R := R) (f := f) (e := e) n 0 f hf h
    rw [Nat.zero_add, show lsF q S R f 0 f = 0 by rw [lsF, if_pos rfl], Nat.zero_add] at this; exact this
  have d2 : lsF q S R f n e < 1000 → ahF q S R e n 0 f ≤ lsF q S R f n e := fun h => by
    have := way_D' hq (R := R) (f := f) (e := e) n 0 e he h
    rw [Nat.add_zero, show ahF q S R e 0 n e = 0 by rw [ahF, if_pos rfl], Nat.add_zero] at this; exact this
  have d3 := ah_E hq (S := S) (R := R) (e := e) n 0 f
  rcases h with h | h
  · have := d2 h
    have := d3 (by omega)
    have := d1 (by omega)
    omega
  · have := d3 h
    have := d1 (by omega)
    have := d2 (by omega)
    omega
/-- of the steps that lie on a best way, the next ones -/
theorem way_K2 {q : Nat → Nat → Nat} (hq : ∀ i s, q i s ≤ 2) {S R f e n i s r : Nat} (hi : i < n) (hs : s < S) (hr : r < S) (hT : lsF q S R f n e < 1000) (hV : lsF q S R f i s + ahF q S R e (n - i) i s = lsF q S R f n e) (hR : rB R s r = true) : (lsF q S R f (i + 1) r + ahF q S R e (n - (i + 1)) (i + 1) r = lsF q S R f n e ∧ lsF q S R f i s + sc 1000 q (i + 1) s r = lsF q S R f (i + 1) r) ↔ sc 1000000 q (i + 1) s r + ahF q S R e (n - (i + 1)) (i + 1) r = ahF q S R e (n - i) i s := by
  constructor
  · rintro ⟨h1, h2⟩
    have := scq_eq hq (i := i + 1) (s := s) (t := r) (Or.inl (by omega))
    omega
  · intro h
    have e1 := scq_eq hq (i := i + 1) (s := s) (t := r) (Or.inr (by omega))
    have a := ls_A (q := q) (f := f) (i := i) hs hR
    have d := way_D hq (R := R) (f := f) (e := e) (n - (i + 1)) (i + 1) r hr (by omega)
    rw [show i + 1 + (n - (i + 1)) = n by omega] at d
    omega
theorem way_K {q : Nat → Nat → Nat} (hq : ∀ i s, q i s ≤ 2) {S R f e n i s : Nat} (hi : i < n) (hs : s < S) (hT : lsF q S R f n e < 1000) : (∃ r, r < S ∧ rB R s r = true ∧ lsF q S R f (i + 1) r + ahF q S R e (n - (i + 1)) (i + 1) r = lsF q S R f n e ∧ lsF q S R f i s + sc 1000 q (i + 1) s r = lsF q S R f (i + 1) r) ↔ lsF q S R f i s + ahF q S R e (n - i) i s = lsF q S R f n e := by
  constructor
  · rintro ⟨r, hr, h1, h2, h3⟩
    have e1 := scq_eq hq (i := i + 1) (s := s) (t := r) (Or.inl (by omega))
    have b := ah_B (q := q) (e := e) (d := n - (i + 1)) (i := i) hr h1
    rw [show n - (i + 1) + 1 = n - i by omega] at b
    have d := way_D hq (R := R) (f := f) (e := e) (n - i) i s hs (by omega)
    rw [show i + (n - i) = n by omega] at d
    omega
  · intro h
    obtain ⟨r, hr, h1, h2⟩ := ah_C (q := q) (S := S) (R := R) (e := e) (d := n - (i + 1)) (i := i) (s := s) (by rw [show n - (i + 1) + 1 = n - i by omega]; omega)
    rw [show n - (i + 1) + 1 = n - i by omega] at h2
    obtain ⟨h3, h4⟩ := (way_K2 hq hi hs hr hT h h1).mpr h2
    exact ⟨r, hr, h1, h3, h4⟩
/-- the best of all lengths -/
def bsF (a : Nat → Nat) : Nat → Nat × Nat
  | 0 => (1000000, 0)
  | n + 1 => if a n < (bsF a n).1 then (a n, n) else bsF a n
theorem bs_in (a : Nat → Nat) : ∀ n, (bsF a n).1 < 1000000 → (bsF a n).2 < n ∧ a (bsF a n).2 = (bsF a n).1
  | 0, h => absurd h (Nat.lt_irrefl _)
  | n + 1, h => by
    rw [bsF] at h ⊢
    by_cases c : a n < (bsF a n).1
    · rw [if_pos c]; exact ⟨by show n < n + 1; omega, rfl⟩
    · rw [if_neg c] at h ⊢
      have := bs_in a n h
      exact ⟨by omega, this.2⟩
theorem bs_le (a : Nat → Nat) : ∀ n, (bsF a n).1 ≤ 1000000
  | 0 => Nat.le_refl _
  | n + 1 => by
    have := bs_le a n
    rw [bsF]; split
    · show a n ≤ _; omega
    · exact this
theorem bs_stop {a : Nat → Nat} {n : Nat} (h : (bsF a n).1 = 0) : ∀ d, bsF a (n + d) = bsF a n
  | 0 => rfl
  | d + 1 => by
    rw [← Nat.add_assoc, bsF, bs_stop h d, if_neg (by omega)]
def wyP (q : Nat → Nat → Nat) (S R e n i s r : Nat) : Bool := rB R s r && decide (sc 1000000 q (i + 1) s r + ahF q S R e (n - (i + 1)) (i + 1) r = ahF q S R e (n - i) i s)
def wyF (q : Nat → Nat → Nat) (S R f e n : Nat) : Nat → Nat
  | 0 => f
  | i + 1 => (fstF (wyP q S R e n i (wyF q S R f e n i)) 0 S).toNat
theorem wy_step {q : Nat → Nat → Nat} (hq : ∀ i s, q i s ≤ 2) {S R f e n i s : Nat} (hi : i < n) (hs : s < S) (hT : lsF q S R f n e < 1000) (hV : lsF q S R f i s + ahF q S R e (n - i) i s = lsF q S R f n e) : ∃ r, isFs (wyP q S R e n i s) 0 S r ∧ r < S ∧ lsF q S R f (i + 1) r + ahF q S R e (n - (i + 1)) (i + 1) r = lsF q S R f n e := by
  rcases fst_cases (wyP q S R e n i s) 0 S with h | ⟨c, h⟩
  · obtain ⟨r, hr, h1, h2, h3⟩ := (way_K hq hi hs hT).mpr hV
    have := (way_K2 hq hi hs hr hT hV h1).mp ⟨h2, h3⟩
    have hf := h r (by omega) (by omega)
    unfold wyP at hf
    rw [h1, decide_eq_true this] at hf
    exact Bool.noConfusion hf
  · have hc : c < S := by have := h.2.1; omega
    have hP := h.2.2.1
    unfold wyP at hP
    rw [Bool.and_eq_true, decide_eq_true_eq] at hP
    exact ⟨c, h, hc, ((way_K2 hq hi hs hc hT hV hP.1).mpr hP.2).1⟩
theorem wy_in {q : Nat → Nat → Nat} (hq : ∀ i s, q i s ≤ 2) {S R f e n : Nat} (hf : f < S) (he : e < S) (hT : lsF q S R f n e < 1000) (hn : n ≤ 60) : ∀ i, i ≤ n → wyF q S R f e n i < S ∧ lsF q S R f i (wyF q S R f e n i) + ahF q S R e (n - i) i (wyF q S R f e n i) = lsF q S R f n e
  | 0, _ => by
    have := way_eq hq (n := n) hf he hn (Or.inl hT)
    refine ⟨hf, ?_⟩
    rw [wyF, lsF, if_pos rfl, Nat.sub_zero]; omega
  | i + 1, h => by
    obtain ⟨h1, h2⟩ := wy_in hq hf he hT hn i (by omega)
    obtain ⟨r, a1, a2, a3⟩ := wy_step hq (by omega : i < n) h1 hT h2
    rw [wyF, fst_isFs S a1, Int.toNat_natCast]
    exact ⟨a2, a3⟩
/-- the class's next step of a best way is the reference's -/
theorem wy_on {q : Nat → Nat → Nat} (hq : ∀ i s, q i s ≤ 2) {S R f e n i s : Nat} (hi : i < n) (hs : s < S) (hT : lsF q S R f n e < 1000) (hV : lsF q S R f i s + ahF q S R e (n - i) i s = lsF q S R f n e) {r : Nat} (hr : r < S) : (rB R s r && (decide (lsF q S R f (i + 1) r + ahF q S R e (n - (i + 1)) (i + 1) r = lsF q S R f n e) && decide (lsF q S R f i s + sc 1000 q (i + 1) s r = lsF q S R f (i + 1) r))) = wyP q S R e n i s r := by
  unfold wyP
  by_cases c : rB R s r = true
  · rw [c, Bool.true_and, Bool.true_and, ← Bool.decide_and]
    exact dec_eq (way_K2 hq hi hs hr hT hV c)
  · rw [Bool.eq_false_iff.mpr c, Bool.false_and, Bool.false_and]
