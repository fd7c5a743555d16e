/-! track: all ways that fit, counted forwards and backwards -/
def nrB (rc : Nat → Int) (i s t : Nat) : Bool := decide ((s : Int) - (t : Int) ≤ rc i ∧ (t : Int) - (s : Int) ≤ rc i)
def fwN (S : Nat) (st : Nat → Nat) (rc : Nat → Int) : Nat → Nat → Nat
  | 0, s => if (st 0).testBit s = true then 1 else 0
  | i + 1, s => if (st (i + 1)).testBit s = true then sumF (fun t => if nrB rc i t s = true then fwN S st rc i t else 0) S else 0
def bkD (S : Nat) (st : Nat → Nat) (rc : Nat → Int) : Nat → Nat → Nat → Nat
  | 0, i, s => if (st i).testBit s = true then 1 else 0
  | d + 1, i, s => if (st i).testBit s = true then sumF (fun t => if nrB rc i s t = true then bkD S st rc d (i + 1) t else 0) S else 0
def bxD (S : Nat) (st : Nat → Nat) (rc : Nat → Int) : Nat → Nat → Nat → Nat
  | 0, _, _ => 1
  | d + 1, i, s => sumF (fun t => if nrB rc i s t = true then (if (st (i + 1)).testBit t = true then bxD S st rc d (i + 1) t else 0) else 0) S
theorem bk_bx {S : Nat} {st : Nat → Nat} {rc : Nat → Int} : ∀ d i s, bkD S st rc d i s = if (st i).testBit s = true then bxD S st rc d i s else 0
  | 0, i, s => rfl
  | d + 1, i, s => by
    rw [bkD, bxD]
    split
    · exact sumF_cong S (fun t _ => by rw [bk_bx d (i + 1) t])
    · rfl
theorem sumF_mul (f : Nat → Nat) (c : Nat) : ∀ n, sumF f n * c = sumF (fun k => f k * c) n
  | 0 => Nat.zero_mul c
  | n + 1 => by rw [sumF, sumF, Nat.add_mul, sumF_mul f c n]
theorem sumF_mulL (f : Nat → Nat) (c : Nat) : ∀ n, c * sumF f n = sumF (fun k => c * f k) n
  | 0 => Nat.mul_zero c
  | n + 1 => by rw [sumF, sumF, Nat.mul_add, sumF_mulL f c n]
theorem sumF_swap (F : Nat → Nat → Nat) (n : Nat) : ∀ m, sumF (fun t => sumF (fun s => F s t) n) m = sumF (fun s => sumF (F s) m) n
  | 0 => (sumF_zero n).symm
  | m + 1 => by rw [sumF, sumF_swap F n m, ← sumF_add]; rfl
theorem fw_bx {S : Nat} {st : Nat → Nat} {rc : Nat → Int} : ∀ d i, sumF (fwN S st rc (i + d)) S = sumF (fun s => fwN S st rc i s * bxD S st rc d i s) S
  | 0, i => sumF_cong S (fun s _ => (Nat.mul_one _).symm)
  | d + 1, i => by
    rw [show i + (d + 1) = (i + 1) + d by omega, fw_bx d (i + 1)]
    have e1 : ∀ t, t < S → fwN S st rc (i + 1) t * bxD S st rc d (i + 1) t = sumF (fun s => fwN S st rc i s * (if nrB rc i s t = true then (if (st (i + 1)).testBit t = true then bxD S st rc d (i + 1) t else 0) else 0)) S := by
      intro t _
      rw [fwN]
      by_cases c : (st (i + 1)).testBit t = true
      · rw [if_pos c, sumF_mul]
        refine sumF_cong S (fun s _ => ?_)
        show (if nrB rc i s t = true then fwN S st rc i s else 0) * _ = _
        split
        · rfl
        · rw [Nat.zero_mul, Nat.mul_zero]
      · rw [if_neg c, Nat.zero_mul, sumF_cong (f' := fun _ => 0) S (fun s _ => by show fwN S st rc i s * (if nrB rc i s t = true then (if (st (i + 1)).testBit t = true then bxD S st rc d (i + 1) t else 0) else 0) = 0; rw [if_neg c]; split <;> rfl), sumF_zero]
    rw [sumF_cong S e1, sumF_swap (fun s t => fwN S st rc i s * (if nrB rc i s t = true then (if (st (i + 1)).testBit t = true then bxD S st rc d (i + 1) t else 0) else 0))]
    refine sumF_cong S (fun s _ => ?_)
    rw [bxD, sumF_mulL]
theorem fw_bk {S : Nat} {st : Nat → Nat} {rc : Nat → Int} (d : Nat) : sumF (fwN S st rc d) S = sumF (bkD S st rc d 0) S := by
  have := fw_bx (S := S) (st := st) (rc := rc) d 0
  rw [Nat.zero_add] at this
  rw [this]
  refine sumF_cong S (fun s _ => ?_)
  rw [bk_bx, fwN]
  split
  · rw [Nat.one_mul]
  · rw [Nat.zero_mul]
def nL (n : Nat) : Int64 := Int64.ofNat n
theorem nL_add (a b : Nat) : nL a + nL b = nL (a + b) := (Int64.ofNat_add a b).symm
/-- the steps of his i-th sound; how far he can go from it to the next -/
def stW (g r : Nat → Int) (p : Nat) (w : Nat → Nat) (i : Nat) : Nat := stepsF g r (w i) p
def rcW (g r : Nat → Int) (p : Nat) (w : Nat → Nat) (i : Nat) : Int := g (43 + 14 * p) * (r (2 + 4 * w (i + 1)) - r (2 + 4 * w i))
theorem rcW_rng {g r : Nat → Int} (hv : HV g) (rv : RdV r) {Q : Nat → Bool} {p len : Nat} {w : Nat → Nat} (hp : (p : Int) < g 3) (h : IsOr r Q (r 0).toNat len w) {i : Nat} (hi : i + 1 < len) : (0 ≤ rcW g r p w i ∧ rcW g r p w i ≤ 396) ∧ 0 ≤ r (2 + 4 * w (i + 1)) - r (2 + 4 * w i) ∧ r (2 + 4 * w (i + 1)) - r (2 + 4 * w i) ≤ 99 := by
  obtain ⟨_, _, h43, _⟩ := hv.2.2.2.2.2.2.2.1 p hp
  have a := (h.1 i (by omega)).1
  have b := (h.1 (i + 1) hi).1
  obtain ⟨_, v1, _⟩ := rv.2 (w i) (by omega)
  obtain ⟨_, v2, _⟩ := rv.2 (w (i + 1)) (by omega)
  have l := h.2.1 i (i + 1) (by omega) hi
  unfold lxS at l
  have d0 : 0 ≤ r (2 + 4 * w (i + 1)) - r (2 + 4 * w i) := by omega
  have d1 : r (2 + 4 * w (i + 1)) - r (2 + 4 * w i) ≤ 99 := by omega
  unfold rcW
  generalize r (2 + 4 * w (i + 1)) - r (2 + 4 * w i) = d at d0 d1
  generalize g (43 + 14 * p) = q at h43
  have m0 : 0 ≤ q * d := Int.mul_nonneg (by omega) d0
  have m1 : q * d ≤ 4 * 99 := Int.mul_le_mul h43.2 d1 d0 (by decide)
  exact ⟨⟨m0, by omega⟩, d0, d1⟩
theorem stepsF_lt {g r : Nat → Int} (hv : HV g) (k p : Nat) : stepsF g r k p < 2 ^ 24 := by
  have h0 := hv.1
  unfold stepsF; split
  · exact Nat.lt_of_lt_of_le (earsF_lt _ _) (Nat.pow_le_pow_right (by decide) (by omega))
  · decide
theorem stepsF_hi {g r : Nat → Int} {k p s : Nat} (h : (stepsF g r k p).testBit s = true) : (s : Int) < g 0 ∨ g 0 < 0 := by
  unfold stepsF at h
  split at h
  · rw [earsF_bit, Bool.and_eq_true, decide_eq_true_eq] at h; omega
  · rw [Nat.zero_testBit] at h; exact Bool.noConfusion h
theorem x_reachTo {J0 J : mJ} {o p len i : Nat} {g r : Nat → Int} {w : Nat → Nat} (hv : HV g) (rv : RdV r) (rr : RdR J0 o r) (ho : o ≤ 60) (hp : (p : Int) < g 3) (h0 : J 89 0 = g (43 + 14 * p)) (h1 : ∀ j, j < len → J 90 j = (w j : Int)) (hI : IsOr r (hsB g r p) (r 0).toNat len w) (hf : ∀ c, (c < 89 ∨ 91 < c) → J c = J0 c) (hi : i + 1 < len) {post' : Int → Prop} (hq : post' (rcW g r p w i)) : v_X10_reachTo J 89 o ((i + 1 : Nat) : Int) post' := by
  have r0 := rv.1
  have hl := or_len hI
  obtain ⟨q1, q2, q3⟩ := rcW_rng hv rv hp hI hi
  have a := (hI.1 i (by omega)).1
  have b := (hI.1 (i + 1) hi).1
  unfold v_X10_reachTo
  rw [show (((i + 1 : Nat) : Int) - 1).toNat = i by omega, Int.toNat_natCast, show J (89 + 1) (i + 1) = _ from h1 (i + 1) hi, show J (89 + 1) i = _ from h1 i (by omega), h0]
  simp only [Int.toNat_natCast]
  rw [show J (o + 2) (w (i + 1)) = r (2 + 4 * w (i + 1)) by rw [hf _ (by omega)]; exact (rr.2 _ (by omega)).2.1, show J (o + 2) (w i) = r (2 + 4 * w i) by rw [hf _ (by omega)]; exact (rr.2 _ (by omega)).2.1]
  change 0 ≤ g (43 + 14 * p) * (r (2 + 4 * w (i + 1)) - r (2 + 4 * w i)) ∧ g (43 + 14 * p) * (r (2 + 4 * w (i + 1)) - r (2 + 4 * w i)) ≤ 396 at q1
  refine ⟨⟨by omega, by omega⟩, ⟨by omega, by omega⟩, ⟨by omega, by omega⟩, ⟨by omega, by omega⟩, ⟨by omega, by omega⟩, ⟨by omega, by omega⟩, ⟨?_, ?_⟩, hq⟩
  · exact Int.le_trans (by decide) q1.1
  · exact Int.le_trans q1.2 (by decide)
/-- where the class keeps its ways -/
def RWw (R : mR) : Prop := (R 89 4 = some 92 ∧ R 89 5 = some 93) ∨ (R 89 4 = some 93 ∧ R 89 5 = some 92)
theorem x_waysWithin {K : mK} {R : mR} {J : mJ} {L : mL} {h a i s S : Nat} {g : Nat → Int} {st : Nat → Nat} {rc : Nat → Int} (hv : HV g) (hr : HR J h g) (hS : g 0 = (S : Int)) (hR : R 89 4 = some a) (hK : K a = (15, 24)) (hL : ∀ t, t < S → L a t = nL (fwN S st rc i t)) (hs : s < S) (hrc : 0 ≤ rc i ∧ rc i ≤ 396) {post' : Int64 → Prop} (hq : post' (nL (sumF (fun t => if nrB rc i t s = true then fwN S st rc i t else 0) S))) : v_X10_waysWithin K R J L 89 h (s : Int) (rc i) post' := by
  have h0 := hv.1
  unfold v_X10_waysWithin
  rintro _ rfl
  rw [hr.1.1, hS]
  refine ⟨⟨by omega, by omega⟩, ⟨by omega, by omega⟩, ?_⟩
  rintro _ rfl
  refine ⟨⟨by omega, by omega⟩, ?_⟩
  rintro _ rfl
  obtain ⟨lo, elo⟩ : ∃ lo : Nat, maxZ 0 ((s : Int) - rc i) = (lo : Int) := ⟨(maxZ 0 ((s : Int) - rc i)).toNat, by unfold maxZ; split <;> omega⟩
  obtain ⟨hi, ehi⟩ : ∃ hi : Nat, minZ ((S : Int) - 1) ((s : Int) + rc i) = (hi : Int) := ⟨(minZ ((S : Int) - 1) ((s : Int) + rc i)).toNat, by unfold minZ; split <;> omega⟩
  have b1 : lo ≤ s := by unfold maxZ at elo; split at elo <;> omega
  have b2 : s ≤ hi ∧ hi < S := by unfold minZ at ehi; split at ehi <;> omega
  have inr : ∀ t, t < S → (nrB rc i t s = true ↔ lo ≤ t ∧ t ≤ hi) := fun t ht => by
    unfold nrB; rw [decide_eq_true_eq]
    unfold maxZ at elo; unfold minZ at ehi
    split at elo <;> split at ehi <;> omega
  rw [elo, ehi]
  generalize hF : (fun t => if nrB rc i t s = true then fwN S st rc i t else 0) = F at hq
  have Fz : ∀ t, t < S → ¬ (lo ≤ t ∧ t ≤ hi) → F t = 0 := fun t ht hn => by rw [← hF]; exact if_neg (fun c => hn ((inr t ht).mp c))
  have Fp : ∀ t, t < S → (lo ≤ t ∧ t ≤ hi) → F t = fwN S st rc i t := fun t ht hn => by rw [← hF]; exact if_pos ((inr t ht).mpr hn)
  unfold v_X10_waysWithin_26
  intro ZZ hZ
  have z0 : sumF F lo = 0 := by
    have : ∀ k, k ≤ lo → sumF F k = 0 := by
      intro k
      induction k with
      | zero => intro _; rfl
      | succ k ih => intro hk; rw [sumF, ih (by omega), Fz k (by omega) (by omega)]
    exact this lo (Nat.le_refl _)
  have key := lpN (S := fun d => ZZ (nL (sumF F (lo + d))) (hi : Int) ((lo + d : Nat) : Int)) (N := hi + 1 - lo) (fun d hd ih => hZ _ _ _ ?_) (hZ _ _ _ ?_)
  · rw [Nat.add_zero, z0] at key; exact key
  · refine ⟨fun c => by omega, fun _ => ⟨a, hR, hK, ⟨by omega, by omega⟩, ?_⟩⟩
    rw [Int.toNat_natCast, hL _ (by omega), nL_add]
    rintro _ rfl
    refine ⟨⟨by omega, by omega⟩, ?_⟩
    rintro _ rfl
    rw [← Nat.add_assoc, sumF, Fp (lo + d) (by omega) (by omega)] at ih
    exact ih
  · refine ⟨fun _ => ?_, fun c => by omega⟩
    have e : sumF F S = sumF F (lo + (hi + 1 - lo)) := by
      rw [show S = (lo + (hi + 1 - lo)) + (S - (hi + 1)) by omega]
      exact sumF_tail (fun k h1 h2 => Fz k (by omega) (by omega))
    rw [e] at hq; exact hq
theorem x_waysOf {K : mK} {R : mR} {J0 J : mJ} {L : mL} {h o p len S : Nat} {g r : Nat → Int} {w : Nat → Nat} (hv : HV g) (hr : HR J0 h g) (rv : RdV r) (rr : RdR J0 o r) (hh : h ≤ 60) (ho : o ≤ 60) (hp : (p : Int) < g 3) (hS : g 0 = (S : Int)) (hF : FwS J0 J g r p len w) (hR : RWw R) (k92 : K 92 = (15, 24)) (k93 : K 93 = (15, 24)) {post' : Int64 → mR → mL → Prop} (hq : ∀ R1 L1, RWw R1 → (∀ c k, (c ≠ 89 ∨ k ≠ 4 ∧ k ≠ 5) → R1 c k = R c k) → post' (nL (if len = 0 then 1 else sumF (fwN S (stW g r p w) (rcW g r p w) (len - 1)) S)) R1 L1) : v_X10_waysOf K R J L 89 h o post' := by
  obtain ⟨⟨f0, f1, f2, f3, f4⟩, f5⟩ := hF
  have h0 := hv.1
  have hl := or_len f3
  have r0 := rv.1
  have hrJ : HR J h g := HR_frame (fun q hq => f4 _ (by omega)) hr
  have lt24 := fun i => stepsF_lt (r := r) hv (w i) p
  unfold v_X10_waysOf
  rw [f1]
  refine ⟨fun c => ?_, fun c => ?_⟩
  · rw [if_neg (by omega)] at hq
    obtain ⟨a, b, ha, hb, hab, ka, kb, na, nb⟩ : ∃ a b, R 89 4 = some a ∧ R 89 5 = some b ∧ a ≠ b ∧ K a = (15, 24) ∧ K b = (15, 24) ∧ (a = 92 ∨ a = 93) ∧ (b = 92 ∨ b = 93) := by
      rcases hR with h | h
      · exact ⟨92, 93, h.1, h.2, by decide, k92, k93, Or.inl rfl, Or.inr rfl⟩
      · exact ⟨93, 92, h.1, h.2, by decide, k93, k92, Or.inr rfl, Or.inl rfl⟩
    unfold v_X10_waysOf_11
    intro ZZ hZ
    refine lpN (S := fun s => ∀ L1 : mL, (∀ t, t < s → L1 a t = nL (fwN S (stW g r p w) (rcW g r p w) 0 t)) → ZZ R L1 (s : Int)) (N := S) (fun s hs ih L1 hL => hZ _ _ _ ?_) (fun L1 hL => hZ _ _ _ ?_) L (fun t ht => absurd ht (Nat.not_lt_zero _))
    · rw [hrJ.1.1, hS]
      have nx : ∀ x : Int64, x = nL (fwN S (stW g r p w) (rcW g r p w) 0 s) → v_X10_waysOf_42 K J 89 h o post' ZZ R L1 a (s : Int) (s : Int) x := by
        rintro x rfl
        unfold v_X10_waysOf_42
        rw [Int.toNat_natCast]
        refine ⟨⟨by omega, by omega⟩, ?_⟩
        rintro L2 rfl
        refine ⟨⟨by omega, by omega⟩, ?_⟩
        rintro _ rfl
        refine ih _ (fun t ht => ?_)
        rw [up2_s]
        by_cases e : t = s
        · rw [e, up1_s]
        · rw [up1_n _ _ e]; exact hL t (by omega)
      have l0 := lt24 0
      refine ⟨fun c2 => by omega, fun _ => ⟨a, ha, ka, ?_⟩⟩
      rw [show J (89 + 2) 0 = _ from f5 0 (by omega)]
      refine p_X11_has (by omega) (by omega) ⟨fun c2 => nx _ ?_, fun c2 => nx _ ?_⟩
      · rw [fwN, if_neg (by show ¬ (stepsF g r (w 0) p).testBit s = true; rw [c2]; decide)]; rfl
      · rw [fwN, if_pos (by show (stepsF g r (w 0) p).testBit s = true; exact c2)]; rfl
    · rw [hrJ.1.1, hS]
      refine ⟨fun _ => ?_, fun c2 => absurd (Int.le_refl _) c2⟩
      unfold v_X10_waysOf_51
      intro Z2 hZ2
      refine lpN (S := fun i => ∀ (R1 : mR) (L1 : mL) (a b : Nat), R1 89 4 = some a → R1 89 5 = some b → a ≠ b → K a = (15, 24) → K b = (15, 24) → (a = 92 ∨ a = 93) → (b = 92 ∨ b = 93) → (∀ c k, (c ≠ 89 ∨ k ≠ 4 ∧ k ≠ 5) → R1 c k = R c k) → (∀ t, t < S → L1 a t = nL (fwN S (stW g r p w) (rcW g r p w) i t)) → Z2 R1 L1 ((i + 1 : Nat) : Int)) (N := len - 1) (fun i hi ih R1 L1 a b ha hb hab ka kb na nb fr hL => hZ2 _ _ _ ?_) (fun R1 L1 a b ha hb hab ka kb na nb fr hL => hZ2 _ _ _ ?_) R L1 a b ha hb hab ka kb na nb (fun _ _ _ => rfl) hL
      · rw [f1]
        refine ⟨fun c2 => by omega, fun _ => ?_⟩
        unfold v_X10_waysOf_62
        intro Z3 hZ3
        obtain ⟨rc1, _⟩ := rcW_rng hv rv hp f3 (show i + 1 < len by omega)
        have li := lt24 (i + 1)
        refine lpN (S := fun s => ∀ L2 : mL, (∀ t, t < S → L2 a t = nL (fwN S (stW g r p w) (rcW g r p w) i t)) → (∀ t, t < s → L2 b t = nL (fwN S (stW g r p w) (rcW g r p w) (i + 1) t)) → Z3 R1 L2 ((i + 1 : Nat) : Int) (s : Int)) (N := S) (fun s hs ih3 L2 hA hB => hZ3 _ _ _ _ ?_) (fun L2 hA hB => hZ3 _ _ _ _ ?_) L1 hL (fun t ht => absurd ht (Nat.not_lt_zero _))
        · rw [hrJ.1.1, hS]
          have nx : ∀ x : Int64, x = nL (fwN S (stW g r p w) (rcW g r p w) (i + 1) s) → v_X10_waysOf_108 K J 89 h o post' Z3 R1 L2 b ((i + 1 : Nat) : Int) (s : Int) (s : Int) x := by
            rintro x rfl
            unfold v_X10_waysOf_108
            rw [Int.toNat_natCast]
            refine ⟨⟨by omega, by omega⟩, ?_⟩
            rintro L3 rfl
            refine ⟨⟨by omega, by omega⟩, ?_⟩
            rintro _ rfl
            refine ih3 _ (fun t ht => by rw [up2_n _ _ _ hab]; exact hA t ht) (fun t ht => ?_)
            rw [up2_s]
            by_cases e : t = s
            · rw [e, up1_s]
            · rw [up1_n _ _ e]; exact hB t (by omega)
          refine ⟨fun c2 => by omega, fun _ => ⟨b, hb, kb, ⟨by omega, by omega⟩, ?_⟩⟩
          rw [Int.toNat_natCast, show J (89 + 2) (i + 1) = _ from f5 (i + 1) (by omega)]
          refine p_X11_has (by omega) (by omega) ⟨fun c2 => nx _ ?_, fun c2 => x_reachTo hv rv rr ho hp f0 f2 f3 f4 (by omega) (x_waysWithin (i := i) (st := stW g r p w) (rc := rcW g r p w) hv hrJ hS ha ka hA hs rc1 (nx _ ?_))⟩
          · rw [fwN, if_neg (by show ¬ (stepsF g r (w (i + 1)) p).testBit s = true; rw [c2]; decide)]; rfl
          · rw [fwN, if_pos (by show (stepsF g r (w (i + 1)) p).testBit s = true; exact c2)]
        · rw [hrJ.1.1, hS]
          refine ⟨fun _ => ?_, fun c2 => absurd (Int.le_refl _) c2⟩
          unfold v_X10_waysOf_115
          refine ⟨a, ha, ka, b, hb, kb, ?_⟩
          rintro R2 rfl
          rintro R3 rfl
          refine ⟨⟨by omega, by omega⟩, ?_⟩
          rintro _ rfl
          refine ih _ L2 b a ?_ ?_ (Ne.symm hab) kb ka nb na (fun c k hc => ?_) hB
          · rw [up2_s, up1_n _ _ (by decide), up2_s, up1_s]
          · rw [up2_s, up1_s]
          · rw [← fr c k hc]
            by_cases e : c = 89
            · subst e
              have : k ≠ 4 ∧ k ≠ 5 := by rcases hc with h | h; exact absurd rfl h; exact h
              rw [up2_s, up1_n _ _ this.2, up2_s, up1_n _ _ this.1]
            · rw [up2_n _ _ _ e, up2_n _ _ _ e]
      · rw [f1]
        refine ⟨fun _ => ?_, fun c2 => by omega⟩
        rintro _ rfl
        unfold v_X10_waysOf_146
        intro Z3 hZ3
        have hRW : RWw R1 := by
          rcases na with na | na <;> rcases nb with nb | nb
          · exact absurd (na.trans nb.symm) hab
          · exact Or.inl ⟨by rw [ha, na], by rw [hb, nb]⟩
          · exact Or.inr ⟨by rw [ha, na], by rw [hb, nb]⟩
          · exact absurd (na.trans nb.symm) hab
        refine lpN (S := fun s => Z3 R1 L1 (nL (sumF (fwN S (stW g r p w) (rcW g r p w) (len - 1)) s)) (s : Int)) (N := S) (fun s hs ih3 => hZ3 _ _ _ _ ?_) (hZ3 _ _ _ _ ?_)
        · rw [hrJ.1.1, hS]
          refine ⟨fun c2 => by omega, fun _ => ⟨a, ha, ka, ⟨by omega, by omega⟩, ?_⟩⟩
          rw [Int.toNat_natCast, hL s hs, nL_add]
          rintro _ rfl
          refine ⟨⟨by omega, by omega⟩, ?_⟩
          rintro _ rfl
          exact ih3
        · rw [hrJ.1.1, hS]
          exact ⟨fun _ => hq R1 L1 hRW fr, fun c2 => absurd (Int.le_refl _) c2⟩
  · rw [if_pos (by omega)] at hq
    exact hq R L hR (fun _ _ _ => rfl)
def isTr (A : Nat → Int) (a1 a2 a3 : Int) (x : Int64) : Prop :=
  if (0 ≤ a1 ∧ a1 < A 0) ∧ (0 ≤ a2 ∧ a2 < A 1) ∧ 0 ≤ a3 ∧ a3 < gH A a1.toNat 3 then
    ∃ len w, IsOr (rH A a2.toNat) (hsB (gH A a1.toNat) (rH A a2.toNat) a3.toNat) (rH A a2.toNat 0).toNat len w ∧ x = nL (if len = 0 then 1 else sumF (fwN (gH A a1.toNat 0).toNat (stW (gH A a1.toNat) (rH A a2.toNat) a3.toNat w) (rcW (gH A a1.toNat) (rH A a2.toNat) a3.toNat w) (len - 1)) (gH A a1.toNat 0).toNat)
  else x = -1
theorem x_track {K : mK} {R : mR} {J : mJ} {L : mL} {a1 a2 a3 : Int} (hI : TI J 1 (J 129)) (hE : InvE J) (hR : RWw R) (k92 : K 92 = (15, 24)) (k93 : K 93 = (15, 24)) {post' : Int64 → mR → mJ → mL → Prop} (hq : ∀ x R1 J1 L1, isTr (J 129) a1 a2 a3 x → RWw R1 → (∀ c k, (c ≠ 89 ∨ k ≠ 4 ∧ k ≠ 5) → R1 c k = R c k) → XF J J1 → InvE J1 → post' x R1 J1 L1) : v_X11_track K R J L a1 a2 a3 post' := by
  have bad : ¬ ((0 ≤ a1 ∧ a1 < J 129 0) ∧ (0 ≤ a2 ∧ a2 < J 129 1) ∧ 0 ≤ a3 ∧ a3 < gH (J 129) a1.toNat 3) → post' (-1) R J L := fun c => hq _ R J L (by unfold isTr; rw [if_neg c]) hR (fun _ _ _ => rfl) XF_refl hE
  unfold v_X11_track
  refine x_houseAt hI (fun c => ⟨fun _ => x_readingAt hI (fun c2 => ⟨fun _ => bad (fun c3 => c c3.1), fun q c2 => (by cases c2)⟩) (fun l el hl hl2 rv rr => ⟨fun c2 => (by cases c2), fun q _ => bad (fun c3 => c c3.1)⟩), fun q c2 => (by cases c2)⟩) (fun k ek hk hk2 hv hr => ⟨fun c2 => (by cases c2), fun q eq => ?_⟩)
  cases eq
  refine x_readingAt hI (fun c => ⟨fun _ => bad (fun c3 => c c3.2.1), fun q c2 => (by cases c2)⟩) (fun l el hl hl2 rv rr => ⟨fun c2 => (by cases c2), fun q eq => ?_⟩)
  cases eq
  subst ek; subst el
  rw [Int.toNat_natCast] at bad
  refine x_hasP hv hr (fun c => ⟨fun c2 => Bool.noConfusion c2, fun _ => bad (fun c2 => c c2.2.2)⟩) (fun p ep hp hp6 => ⟨fun _ => ?_, fun c2 => Bool.noConfusion c2⟩)
  subst ep
  have h0 := hv.1
  refine x_follow hv hr rv rr (by omega) (by omega) hp (fun J8 len w hF => x_waysOf (S := (gH (J 129) k 0).toNat) hv hr rv rr (by omega) (by omega) hp (by omega) hF hR k92 k93 (fun R1 L1 hR1 fr => hq _ R1 J8 L1 ?_ hR1 fr (fun c hc => hF.1.2.2.2.2 c (by omega)) ?_))
  · unfold isTr
    rw [Int.toNat_natCast, Int.toNat_natCast, Int.toNat_natCast, if_pos ⟨⟨by omega, hk⟩, ⟨by omega, hl⟩, by omega, hp⟩]
    exact ⟨len, w, hF.1.2.2.2.1, rfl⟩
  · have f4 := hF.1.2.2.2.2
    intro k' hk' hf' hk0
    rw [f4 129 (by omega)] at hk0 ⊢
    rw [f4 (94 + 17 * k') (by omega)] at hf'
    exact EvO_frame (fun i hi => f4 _ (by omega)) (hE k' hk' hf' hk0)
