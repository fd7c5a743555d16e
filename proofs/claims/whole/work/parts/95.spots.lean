/-! spots -/
theorem sumF_pos {f : Nat → Nat} : ∀ n, 0 < sumF f n ↔ ∃ k, k < n ∧ 0 < f k
  | 0 => ⟨fun h => absurd h (Nat.lt_irrefl _), fun ⟨k, hk, _⟩ => absurd hk (Nat.not_lt_zero _)⟩
  | n + 1 => by
    have ih := sumF_pos (f := f) n
    rw [sumF]
    constructor
    · intro h
      by_cases c : 0 < f n
      · exact ⟨n, by omega, c⟩
      · obtain ⟨k, hk, hf⟩ := ih.mp (by omega)
        exact ⟨k, by omega, hf⟩
    · rintro ⟨k, hk, hf⟩
      by_cases e : k = n
      · subst e; omega
      · have := ih.mpr ⟨k, by omega, hf⟩
        omega
theorem fw_st {S : Nat} {st : Nat → Nat} {rc : Nat → Int} {i s : Nat} (h : 0 < fwN S st rc i s) : (st i).testBit s = true := by
  by_cases c : (st i).testBit s = true
  · exact c
  · rw [fw_z c] at h; exact absurd h (Nat.lt_irrefl _)
theorem bk_st {S : Nat} {st : Nat → Nat} {rc : Nat → Int} {d i s : Nat} (h : 0 < bkD S st rc d i s) : (st i).testBit s = true := by
  by_cases c : (st i).testBit s = true
  · exact c
  · rw [bk_z c] at h; exact absurd h (Nat.lt_irrefl _)
theorem fw_succ {S : Nat} {st : Nat → Nat} {rc : Nat → Int} {i s : Nat} : 0 < fwN S st rc (i + 1) s ↔ (st (i + 1)).testBit s = true ∧ ∃ t, t < S ∧ nrB rc i t s = true ∧ 0 < fwN S st rc i t := by
  rw [fwN]
  by_cases c : (st (i + 1)).testBit s = true
  · rw [if_pos c, sumF_pos]
    constructor
    · rintro ⟨t, ht, h⟩
      by_cases c2 : nrB rc i t s = true
      · rw [if_pos c2] at h; exact ⟨c, t, ht, c2, h⟩
      · rw [if_neg c2] at h; exact absurd h (Nat.lt_irrefl _)
    · rintro ⟨_, t, ht, h1, h2⟩
      exact ⟨t, ht, by rw [if_pos h1]; exact h2⟩
  · rw [if_neg c]
    exact ⟨fun h => absurd h (Nat.lt_irrefl _), fun h => absurd h.1 c⟩
theorem bk_succ {S : Nat} {st : Nat → Nat} {rc : Nat → Int} {d i s : Nat} : 0 < bkD S st rc (d + 1) i s ↔ (st i).testBit s = true ∧ ∃ t, t < S ∧ nrB rc i s t = true ∧ 0 < bkD S st rc d (i + 1) t := by
  rw [bkD]
  by_cases c : (st i).testBit s = true
  · rw [if_pos c, sumF_pos]
    constructor
    · rintro ⟨t, ht, h⟩
      by_cases c2 : nrB rc i s t = true
      · rw [if_pos c2] at h; exact ⟨c, t, ht, c2, h⟩
      · rw [if_neg c2] at h; exact absurd h (Nat.lt_irrefl _)
    · rintro ⟨_, t, ht, h1, h2⟩
      exact ⟨t, ht, by rw [if_pos h1]; exact h2⟩
  · rw [if_neg c]
    exact ⟨fun h => absurd h (Nat.lt_irrefl _), fun h => absurd h.1 c⟩
def FWn (S : Nat) (st : Nat → Nat) (rc : Nat → Int) (i : Nat) : Nat := earsF (fun s => decide (0 < fwN S st rc i s)) S
def SPn (S len : Nat) (st : Nat → Nat) (rc : Nat → Int) (i : Nat) : Nat := earsF (fun s => decide (0 < fwN S st rc i s) && decide (0 < bkD S st rc (len - 1 - i) i s)) S
theorem FWn_lt {S : Nat} (h : S ≤ 24) (st : Nat → Nat) (rc : Nat → Int) (i : Nat) : FWn S st rc i < 2 ^ 24 := Nat.lt_of_lt_of_le (earsF_lt _ _) (Nat.pow_le_pow_right (by decide) h)
theorem SPn_lt {S len : Nat} (h : S ≤ 24) (st : Nat → Nat) (rc : Nat → Int) (i : Nat) : SPn S len st rc i < 2 ^ 24 := Nat.lt_of_lt_of_le (earsF_lt _ _) (Nat.pow_le_pow_right (by decide) h)
theorem FWn_0 {S : Nat} {st : Nat → Nat} {rc : Nat → Int} (h : st 0 < 2 ^ S) : st 0 = FWn S st rc 0 := by
  refine ears_ext h (fun s hs => ?_)
  rw [fwN]
  by_cases c : (st 0).testBit s = true
  · rw [if_pos c, c]; rfl
  · rw [if_neg c]
    rw [show (st 0).testBit s = false from Bool.eq_false_iff.mpr c]; rfl
theorem SPn_last {S len : Nat} {st : Nat → Nat} {rc : Nat → Int} {i : Nat} (hi : i + 1 = len) : FWn S st rc i = SPn S len st rc i := by
  refine earsF_cong S (fun s _ => ?_)
  rw [show len - 1 - i = 0 by omega, bkD]
  by_cases c : 0 < fwN S st rc i s
  · rw [decide_eq_true c, if_pos (fw_st c)]; rfl
  · rw [decide_eq_false c, Bool.false_and]
/-- the bits of a number of 24 bits spread by d on both sides -/
def sprB (n : Nat) (d : Int) (s : Nat) : Bool := anyF (fun t => n.testBit t && decide ((s : Int) - (t : Int) ≤ d ∧ (t : Int) - (s : Int) ≤ d)) 24
theorem us32 : ∀ b, b < 32 → (((nI b).toUInt32 &&& Int32.toUInt32 31).toBitVec % 32).toNat = b := by decide
theorem bit_shl {n d s : Nat} (hd : d < 32) (hs : s < 32) : (zi (shlZ (n : Int) (d : Int))).toBitVec.getLsbD s = (decide (d ≤ s) && n.testBit (s - d)) := by
  unfold shlZ
  rw [zi_of, zi_nI, zi_nI, Int32.toBitVec_shiftLeft, BitVec.shiftLeft_eq', sm32 d hd, nI_bv, BitVec.getLsbD_shiftLeft, BitVec.getLsbD_ofNat, decide_eq_true hs]
  by_cases c : s < d
  · rw [decide_eq_true c, decide_eq_false (by omega : ¬ d ≤ s)]; rfl
  · rw [decide_eq_false c, decide_eq_true (by omega : d ≤ s), decide_eq_true (by omega : s - d < 32)]; rfl
theorem bit_ushr {n d s : Nat} (hn : n < 2 ^ 24) (hd : d < 32) (hs : s < 32) : (zi (ushrZ (n : Int) (d : Int))).toBitVec.getLsbD s = n.testBit (s + d) := by
  unfold ushrZ
  rw [zi_of, zi_nI, zi_nI, nI_ushr (by omega) (nI d) d (us32 d hd), nI_bv, BitVec.getLsbD_ofNat, decide_eq_true hs, Nat.testBit_div_two_pow, Bool.true_and]
theorem bit_or2 (a b : Int) (s : Nat) : (zi (orZ a b)).toBitVec.getLsbD s = ((zi a).toBitVec.getLsbD s || (zi b).toBitVec.getLsbD s) := by
  unfold orZ
  rw [zi_of, Int32.toBitVec_or, BitVec.getLsbD_or]
theorem sprB_succ {n d s : Nat} (hn : n < 2 ^ 24) (hs : s < 24) : sprB n ((d + 1 : Nat) : Int) s = (sprB n (d : Int) s || ((decide (d + 1 ≤ s) && n.testBit (s - (d + 1))) || n.testBit (s + (d + 1)))) := by
  apply Bool.eq_iff_iff.mpr
  unfold sprB
  rw [Bool.or_eq_true, Bool.or_eq_true, Bool.and_eq_true, decide_eq_true_eq, anyF_iff, anyF_iff]
  constructor
  · rintro ⟨t, ht, h⟩
    rw [Bool.and_eq_true, decide_eq_true_eq] at h
    by_cases c : (s : Int) - (t : Int) ≤ (d : Int) ∧ (t : Int) - (s : Int) ≤ (d : Int)
    · exact Or.inl ⟨t, ht, by rw [h.1, decide_eq_true c]; rfl⟩
    · by_cases c2 : t ≤ s
      · exact Or.inr (Or.inl ⟨by omega, by rw [show s - (d + 1) = t by omega]; exact h.1⟩)
      · exact Or.inr (Or.inr (by rw [show s + (d + 1) = t by omega]; exact h.1))
  · rintro (⟨t, ht, h⟩ | ⟨h1, h2⟩ | h)
    · rw [Bool.and_eq_true, decide_eq_true_eq] at h
      exact ⟨t, ht, by rw [h.1, decide_eq_true (by omega)]; rfl⟩
    · exact ⟨s - (d + 1), by omega, by rw [h2, decide_eq_true (by omega)]; rfl⟩
    · have hl : s + (d + 1) < 24 := by
        by_cases c : s + (d + 1) < 24
        · exact c
        · rw [Nat.testBit_lt_two_pow (Nat.lt_of_lt_of_le hn (Nat.pow_le_pow_right (by decide) (by omega)))] at h; exact Bool.noConfusion h
      exact ⟨s + (d + 1), hl, by rw [h, decide_eq_true (by omega)]; rfl⟩
theorem sprB_0 {n s : Nat} (hs : s < 24) : sprB n ((0 : Nat) : Int) s = n.testBit s := by
  apply Bool.eq_iff_iff.mpr
  unfold sprB
  rw [anyF_iff]
  constructor
  · rintro ⟨t, ht, h⟩
    rw [Bool.and_eq_true, decide_eq_true_eq] at h
    rw [show s = t by omega]; exact h.1
  · intro h
    exact ⟨s, hs, by rw [h, decide_eq_true (by omega)]; rfl⟩
theorem p_spread {n : Nat} {reach : Int} (hn : n < 2 ^ 24) (hr : 0 ≤ reach ∧ reach ≤ 1000) {post' : Int → Prop} (hq : ∀ x : Int, (∀ s, s < 24 → (zi x).toBitVec.getLsbD s = sprB n reach s) → post' x) : v_X10_spread (n : Int) reach post' := by
  unfold v_X10_spread v_X10_spread_4
  intro ZZ hZ
  have e0 : ∀ s, s < 24 → (zi (n : Int)).toBitVec.getLsbD s = sprB n ((0 : Nat) : Int) s := fun s hs => by
    rw [sprB_0 hs, zi_nI, nI_bv, BitVec.getLsbD_ofNat, decide_eq_true (by omega), Bool.true_and]
  refine lpN (S := fun k => ∀ x : Int, (∀ s, s < 24 → (zi x).toBitVec.getLsbD s = sprB n (k : Int) s) → ZZ x ((k + 1 : Nat) : Int)) (N := if reach < 23 then reach.toNat else 23) (fun k hk ih x hx => hZ _ _ ?_) (fun x hx => hZ _ _ ?_) _ e0
  · have hk2 : (k : Int) < reach ∧ k < 23 := by split at hk <;> omega
    refine ⟨fun c => by omega, fun _ => ⟨fun c => by omega, fun _ => ?_⟩⟩
    rintro _ rfl
    refine ⟨⟨by omega, by omega⟩, ?_⟩
    rintro _ rfl
    refine ih _ (fun s hs => ?_)
    rw [bit_or2, bit_or2, bit_shl (by omega) (by omega), bit_ushr hn (by omega) (by omega), hx s hs, sprB_succ hn hs]
  · by_cases c : reach < 23
    · rw [if_pos c] at hx ⊢
      rw [show ((reach.toNat : Nat) : Int) = reach by omega] at hx
      exact ⟨fun _ => hq x hx, fun c2 => by omega⟩
    · rw [if_neg c] at hx ⊢
      have e : ∀ s, s < 24 → sprB n ((23 : Nat) : Int) s = sprB n reach s := fun s hs => by
        unfold sprB
        refine anyF_cong 24 (fun t ht => ?_)
        rw [dec_eq (show ((s : Int) - (t : Int) ≤ ((23 : Nat) : Int) ∧ (t : Int) - (s : Int) ≤ ((23 : Nat) : Int)) ↔ ((s : Int) - (t : Int) ≤ reach ∧ (t : Int) - (s : Int) ≤ reach) by omega)]
      have hx' := fun s hs => (hx s hs).trans (e s hs)
      exact ⟨fun _ => hq x hx', fun _ => ⟨fun _ => hq x hx', fun c2 => by omega⟩⟩
theorem andZ_any {n : Nat} (hn : n < 2 ^ 24) (x : Int) : andZ (n : Int) x = ((n &&& (zi x).toBitVec.toNat : Nat) : Int) := by
  have hl : n &&& (zi x).toBitVec.toNat < 2 ^ 24 := Nat.lt_of_le_of_lt Nat.and_le_left hn
  unfold andZ
  rw [zi_nI]
  have e : nI n &&& zi x = nI (n &&& (zi x).toBitVec.toNat) := by
    apply Int32.toBitVec_inj.mp
    rw [Int32.toBitVec_and, nI_bv, nI_bv]
    apply BitVec.eq_of_toNat_eq
    rw [BitVec.toNat_and, BitVec.toNat_ofNat, BitVec.toNat_ofNat, Nat.mod_eq_of_lt (by omega), Nat.mod_eq_of_lt (by omega)]
  rw [e]
  exact nI_toI (by omega)
/-- what is left of one sound's steps by those of the next one or of the one ahead -/
theorem and_spr {m n S : Nat} {d x : Int} {P : Nat → Bool} (hm : m < 2 ^ S) (hS : S ≤ 24) (hx : ∀ s, s < 24 → (zi x).toBitVec.getLsbD s = sprB n d s) (hP : ∀ s, s < S → (m.testBit s && sprB n d s) = P s) : andZ (m : Int) x = ((earsF P S : Nat) : Int) := by
  have hm24 : m < 2 ^ 24 := Nat.lt_of_lt_of_le hm (Nat.pow_le_pow_right (by decide) hS)
  rw [andZ_any hm24]
  rw [ears_ext (P := P) (n := S) (a := m &&& (zi x).toBitVec.toNat) (Nat.lt_of_le_of_lt Nat.and_le_left hm) (fun s hs => ?_)]
  rw [Nat.testBit_and, BitVec.testBit_toNat, hx s (by omega)]
  exact hP s hs
theorem sprB_iff {S n : Nat} {P : Nat → Bool} {d : Int} {s : Nat} (hn : n = earsF P S) (hS : S ≤ 24) : sprB n d s = true ↔ ∃ t, t < S ∧ P t = true ∧ (s : Int) - (t : Int) ≤ d ∧ (t : Int) - (s : Int) ≤ d := by
  unfold sprB
  rw [anyF_iff]
  constructor
  · rintro ⟨t, ht, h⟩
    rw [Bool.and_eq_true, decide_eq_true_eq, hn, earsF_bit, Bool.and_eq_true, decide_eq_true_eq] at h
    exact ⟨t, h.1.1, h.1.2, h.2⟩
  · rintro ⟨t, ht, h1, h2⟩
    exact ⟨t, by omega, by rw [hn, earsF_bit, decide_eq_true ht, h1, decide_eq_true h2]; rfl⟩
theorem fw_nar {S : Nat} {st : Nat → Nat} {rc : Nat → Int} {i s : Nat} (hS : S ≤ 24) : ((st (i + 1)).testBit s && sprB (FWn S st rc i) (rc i) s) = decide (0 < fwN S st rc (i + 1) s) := by
  apply Bool.eq_iff_iff.mpr
  rw [Bool.and_eq_true, decide_eq_true_eq, sprB_iff (rfl : FWn S st rc i = earsF _ S) hS, fw_succ]
  constructor
  · rintro ⟨h1, t, ht, h2, h3⟩
    rw [decide_eq_true_eq] at h2
    exact ⟨h1, t, ht, by unfold nrB; rw [decide_eq_true_eq]; omega, h2⟩
  · rintro ⟨h1, t, ht, h2, h3⟩
    unfold nrB at h2; rw [decide_eq_true_eq] at h2
    exact ⟨h1, t, ht, by rw [decide_eq_true_eq]; exact h3, by omega⟩
theorem sp_nar {S len : Nat} {st : Nat → Nat} {rc : Nat → Int} {i s : Nat} (hS : S ≤ 24) (hi : i + 1 < len) (hs : s < S) : ((FWn S st rc i).testBit s && sprB (SPn S len st rc (i + 1)) (rc i) s) = (decide (0 < fwN S st rc i s) && decide (0 < bkD S st rc (len - 1 - i) i s)) := by
  apply Bool.eq_iff_iff.mpr
  rw [Bool.and_eq_true, Bool.and_eq_true, decide_eq_true_eq, decide_eq_true_eq, sprB_iff (rfl : SPn S len st rc (i + 1) = earsF _ S) hS, show (FWn S st rc i).testBit s = _ from earsF_bit _ _ _, decide_eq_true hs, Bool.true_and, decide_eq_true_eq, show len - 1 - i = (len - 1 - (i + 1)) + 1 by omega, bk_succ]
  constructor
  · rintro ⟨h1, t, ht, h2, h3⟩
    rw [Bool.and_eq_true, decide_eq_true_eq, decide_eq_true_eq] at h2
    exact ⟨h1, fw_st h1, t, ht, by unfold nrB; rw [decide_eq_true_eq]; omega, h2.2⟩
  · rintro ⟨h1, _, t, ht, h2, h3⟩
    have h4 : 0 < fwN S st rc (i + 1) t := fw_succ.mpr ⟨bk_st h3, s, hs, h2, h1⟩
    unfold nrB at h2; rw [decide_eq_true_eq] at h2
    exact ⟨h1, t, ht, by rw [decide_eq_true h4, decide_eq_true h3]; rfl, by omega⟩
theorem stepsF_ltS (g r : Nat → Int) (k p : Nat) : stepsF g r k p < 2 ^ (g 0).toNat := by
  unfold stepsF; split
  · exact earsF_lt _ _
  · exact Nat.two_pow_pos _
theorem x_narrow {J0 J : mJ} {o p len S : Nat} {g r : Nat → Int} {w : Nat → Nat} (hv : HV g) (rv : RdV r) (rr : RdR J0 o r) (ho : o ≤ 60) (hp : (p : Int) < g 3) (hS : (g 0).toNat = S) (hF : FwS J0 J g r p len w) {post' : mJ → Prop} (hq : ∀ J1, (∀ c, c ≠ 91 → J1 c = J c) → (∀ i, i < len → J1 91 i = ((SPn S len (stW g r p w) (rcW g r p w) i : Nat) : Int)) → post' J1) : v_X10_narrow J 89 o post' := by
  obtain ⟨⟨f0, f1, f2, f3, f4⟩, f5⟩ := hF
  have h0 := hv.1
  have hS24 : S ≤ 24 := by omega
  have hl := or_len f3
  have r0 := rv.1
  have st2 : ∀ i, stW g r p w i < 2 ^ S := fun i => by have := stepsF_ltS g r (w i) p; rw [hS] at this; exact this
  have reach : ∀ (J1 : mJ), (∀ c, c ≠ 91 → J1 c = J c) → ∀ i, i + 1 < len → ∀ post2 : Int → Prop, post2 (rcW g r p w i) → v_X10_reachTo J1 89 o ((i + 1 : Nat) : Int) post2 := fun J1 fr i hi post2 h2 => x_reachTo hv rv rr ho hp (by rw [fr 89 (by decide)]; exact f0) (fun j hj => by rw [fr 90 (by decide)]; exact f2 j hj) f3 (fun c hc => by rw [fr c (by omega)]; exact f4 c hc) hi h2
  unfold v_X10_narrow v_X10_narrow_2
  intro ZZ hZ
  refine lpN (S := fun k => ∀ J1 : mJ, (∀ c, c ≠ 91 → J1 c = J c) → (∀ j, j < len → J1 91 j = (((if j ≤ k then FWn S (stW g r p w) (rcW g r p w) j else stW g r p w j) : Nat) : Int)) → ZZ J1 ((k + 1 : Nat) : Int)) (N := len - 1) (fun k hk ih J1 fr hX => hZ _ _ ?_) (fun J1 fr hX => hZ _ _ ?_) J (fun _ _ => rfl) (fun j hj => ?_)
  · obtain ⟨q1, _⟩ := rcW_rng hv rv hp f3 (show k + 1 < len by omega)
    rw [show J1 89 1 = (len : Int) by rw [fr 89 (by decide)]; exact f1, show (((k + 1 : Nat) : Int) - 1).toNat = k by omega, Int.toNat_natCast, show J1 (89 + 2) k = _ from hX k (by omega), show J1 (89 + 2) (k + 1) = _ from hX (k + 1) (by omega), if_pos (Nat.le_refl _), if_neg (by omega)]
    refine ⟨fun c => by omega, fun _ => ⟨⟨by omega, by omega⟩, ⟨by omega, by omega⟩, ⟨by omega, by omega⟩, reach J1 fr k (by omega) _ (p_spread (FWn_lt hS24 _ _ _) (by omega) (fun x hx => ⟨⟨by omega, by omega⟩, ?_⟩))⟩⟩
    rintro J2 rfl
    refine ⟨⟨by omega, by omega⟩, ?_⟩
    rintro _ rfl
    refine ih _ (fun c hc => by rw [up2_n _ _ _ hc]; exact fr c hc) (fun j hj => ?_)
    show up2 J1 (89 + 2) (k + 1) _ (89 + 2) j = _
    by_cases e : j = k + 1
    · subst e
      rw [up2_at, if_pos (Nat.le_refl _)]
      exact and_spr (st2 _) hS24 hx (fun s hs => fw_nar hS24)
    · rw [up2_off _ _ (Or.inr e)]
      show J1 91 j = _
      rw [hX j hj]
      by_cases c : j ≤ k
      · rw [if_pos c, if_pos (by omega)]
      · rw [if_neg c, if_neg (by omega)]
  · rw [show J1 89 1 = (len : Int) by rw [fr 89 (by decide)]; exact f1]
    refine ⟨fun _ => ⟨⟨by omega, by omega⟩, ?_⟩, fun c => by omega⟩
    rintro _ rfl
    unfold v_X10_narrow_49
    intro Z2 hZ2
    have k0 := lpN (S := fun k => ∀ J2 : mJ, (∀ c, c ≠ 91 → J2 c = J c) → (∀ j, j < len → J2 91 j = (((if len ≤ j + 1 + k then SPn S len (stW g r p w) (rcW g r p w) j else FWn S (stW g r p w) (rcW g r p w) j) : Nat) : Int)) → ∀ v : Int, v = (len : Int) - 1 - (k : Int) → Z2 J2 v) (N := len - 1) (fun k hk ih J2 fr2 hY v ev => hZ2 _ _ ?_) (fun J2 fr2 hY v ev => hZ2 _ _ ⟨fun _ => hq J2 fr2 (fun i hi => by rw [hY i hi, if_pos (by omega)]), fun c => by omega⟩)
    · refine k0 J1 fr (fun j hj => ?_) _ (by omega)
      rw [hX j hj, if_pos (by omega)]
      by_cases c : len ≤ j + 1 + 0
      · rw [if_pos c, SPn_last (len := len) (by omega)]
      · rw [if_neg c]
    · obtain ⟨i, rfl⟩ : ∃ i : Nat, v = ((i + 1 : Nat) : Int) := ⟨(v - 1).toNat, by omega⟩
      obtain ⟨q1, _⟩ := rcW_rng hv rv hp f3 (show i + 1 < len by omega)
      rw [show (((i + 1 : Nat) : Int) - 1).toNat = i by omega, Int.toNat_natCast, show J2 (89 + 2) i = _ from hY i (by omega), show J2 (89 + 2) (i + 1) = _ from hY (i + 1) (by omega), if_pos (by omega), if_neg (by omega)]
      refine ⟨fun c => by omega, fun _ => ⟨⟨by omega, by omega⟩, ⟨by omega, by omega⟩, ⟨by omega, by omega⟩, reach J2 fr2 i (by omega) _ (p_spread (SPn_lt hS24 _ _ _) (by omega) (fun x hx => ⟨⟨by omega, by omega⟩, ?_⟩))⟩⟩
      rintro J3 rfl
      refine ⟨⟨by omega, by omega⟩, ?_⟩
      rintro _ rfl
      refine ih _ (fun c hc => by rw [up2_n _ _ _ hc]; exact fr2 c hc) (fun j hj => ?_) _ (by omega)
      show up2 J2 (89 + 2) i _ (89 + 2) j = _
      by_cases e : j = i
      · subst e
        rw [up2_at, if_pos (by omega)]
        exact and_spr (earsF_lt _ _) hS24 hx (fun s hs => sp_nar hS24 (by omega) hs)
      · rw [up2_off _ _ (Or.inr e)]
        show J2 91 j = _
        rw [hY j hj]
        by_cases c : len ≤ j + 1 + k
        · rw [if_pos c, if_pos (by omega)]
        · rw [if_neg c, if_neg (by omega)]
  · rw [show J 91 j = _ from f5 j hj]
    by_cases c : j ≤ 0
    · rw [if_pos c, show j = 0 by omega, ← FWn_0 (st2 0)]; rfl
    · rw [if_neg c]; rfl
def isSpV (S len : Nat) (st : Nat → Nat) (rc : Nat → Int) (w : Nat → Nat) (k x : Int) : Prop := if k = -1 then x = ((cntF (fun i => decide (popZ ((SPn S len st rc i : Nat) : Int) = 1)) len : Nat) : Int) else ((∀ i, i < len → (w i : Int) = k → x = ((SPn S len st rc i : Nat) : Int)) ∧ ((∀ i, i < len → (w i : Int) ≠ k) → x = 0))
def isSp (A : Nat → Int) (a1 a2 a3 a4 x : Int) : Prop :=
  if (0 ≤ a1 ∧ a1 < A 0) ∧ (0 ≤ a2 ∧ a2 < A 1) ∧ (0 ≤ a3 ∧ a3 < gH A a1.toNat 3) ∧ -1 ≤ a4 ∧ a4 < rH A a2.toNat 0 then
    ∃ len w, IsOr (rH A a2.toNat) (hsB (gH A a1.toNat) (rH A a2.toNat) a3.toNat) (rH A a2.toNat 0).toNat len w ∧ isSpV (gH A a1.toNat 0).toNat len (stW (gH A a1.toNat) (rH A a2.toNat) a3.toNat w) (rcW (gH A a1.toNat) (rH A a2.toNat) a3.toNat w) w a4 x
  else x = -2
theorem or_inj {r : Nat → Int} {Q : Nat → Bool} {N len : Nat} {w : Nat → Nat} (h : IsOr r Q N len w) {i j : Nat} (hi : i < len) (hj : j < len) (e : w i = w j) : i = j := by
  by_cases c : i < j
  · have := h.2.1 i j c hj
    unfold lxS at this; rw [e] at this; omega
  · by_cases c2 : j < i
    · have := h.2.1 j i c2 hi
      unfold lxS at this; rw [e] at this; omega
    · omega
theorem x_spots {J : mJ} {a1 a2 a3 a4 : Int} (hI : TI J 1 (J 129)) (hE : InvE J) {post' : Int → mJ → Prop} (hq : ∀ x J1, isSp (J 129) a1 a2 a3 a4 x → XF J J1 → InvE J1 → post' x J1) : v_X11_spots J a1 a2 a3 a4 post' := by
  have bad : ¬ ((0 ≤ a1 ∧ a1 < J 129 0) ∧ (0 ≤ a2 ∧ a2 < J 129 1) ∧ (0 ≤ a3 ∧ a3 < gH (J 129) a1.toNat 3) ∧ -1 ≤ a4 ∧ a4 < rH (J 129) a2.toNat 0) → post' (-2) J := fun c => hq _ J (by unfold isSp; rw [if_neg c]) XF_refl hE
  unfold v_X11_spots
  refine x_houseAt hI (fun c => ⟨fun _ => x_readingAt hI (fun c2 => ⟨fun _ => bad (fun c3 => c c3.1), fun q c2 => (by cases c2)⟩) (fun l el hl hl2 rv rr => ⟨fun c2 => (by cases c2), fun q _ => bad (fun c3 => c c3.1)⟩), fun q c2 => (by cases c2)⟩) (fun k ek hk hk2 hv hr => ⟨fun c2 => (by cases c2), fun q eq => ?_⟩)
  cases eq
  refine x_readingAt hI (fun c => ⟨fun _ => bad (fun c3 => c c3.2.1), fun q c2 => (by cases c2)⟩) (fun l el hl hl2 rv rr => ⟨fun c2 => (by cases c2), fun q eq => ?_⟩)
  cases eq
  subst ek; subst el
  rw [Int.toNat_natCast, Int.toNat_natCast] at bad
  refine x_hasP hv hr (fun c => ⟨fun _ => bad (fun c2 => c c2.2.2.1), fun c2 => Bool.noConfusion c2⟩) (fun p ep hp hp6 => ⟨fun c2 => Bool.noConfusion c2, fun _ => ?_⟩)
  subst ep
  have h0 := hv.1
  have r0 := rv.1
  have go : -1 ≤ a4 ∧ a4 < rH (J 129) l 0 → v_X11_spots_52 (k : Int) (l : Int) (p : Int) a4 post' J (19 + 19 * l) (5 + 19 * k) := by
    intro c4
    unfold v_X11_spots_52
    refine x_follow hv hr rv rr (by omega) (by omega) hp (fun J8 len w hF => x_narrow hv rv rr (by omega) hp rfl hF (fun J9 fr hY => ?_))
    have f4 := hF.1.2.2.2.2
    have fX : XF J J9 := fun c hc => by rw [fr c (by omega)]; exact f4 c (by omega)
    have fE : InvE J9 := by
      intro k' hk' hf' hk0
      have fq : ∀ c, 94 ≤ c → J9 c = J c := fun c hc => by rw [fr c (by omega)]; exact f4 c (by omega)
      rw [fq 129 (by omega)] at hk0 ⊢
      rw [fq (94 + 17 * k') (by omega)] at hf'
      exact EvO_frame (fun i hi => fq _ (by omega)) (hE k' hk' hf' hk0)
    have g1 : J9 89 1 = (len : Int) := by rw [fr 89 (by decide)]; exact hF.1.2.1
    have g2 : ∀ i, i < len → J9 90 i = (w i : Int) := fun i hi => by rw [fr 90 (by decide)]; exact hF.1.2.2.1 i hi
    have hOr := hF.1.2.2.2.1
    have hl' := or_len hOr
    have hq := fun x (hx : isSpV (gH (J 129) k 0).toNat len (stW (gH (J 129) k) (rH (J 129) l) p w) (rcW (gH (J 129) k) (rH (J 129) l) p w) w a4 x) => hq x J9 (by
      unfold isSp
      rw [Int.toNat_natCast, Int.toNat_natCast, Int.toNat_natCast, if_pos ⟨⟨by omega, hk⟩, ⟨by omega, hl⟩, ⟨by omega, hp⟩, c4⟩]
      exact ⟨len, w, hOr, hx⟩) fX fE
    unfold isSpV at hq
    refine ⟨fun c => ?_, fun c => ?_⟩
    · simp only [if_neg c] at hq
      unfold v_X10_spotsOf v_X10_spotsOf_2
      intro ZZ hZ
      refine lpN (S := fun i => (∀ j, j < i → (w j : Int) ≠ a4) → ZZ (i : Int)) (N := len) (fun i hi ih hn => hZ _ ?_) (fun hn => hZ _ ?_) (fun j hj => absurd hj (Nat.not_lt_zero _))
      · rw [g1, Int.toNat_natCast, show J9 (89 + 1) i = _ from g2 i hi]
        refine ⟨fun c => by omega, fun _ => ⟨⟨by omega, by omega⟩, fun c2 => ⟨⟨by omega, by omega⟩, ?_⟩, fun c2 => ⟨⟨by omega, by omega⟩, ?_⟩⟩⟩
        · rintro _ rfl
          refine ih (fun j hj => ?_)
          by_cases e : j = i
          · subst e; exact c2
          · exact hn j (by omega)
        · rw [show J9 (89 + 2) i = _ from hY i hi]
          exact hq _ ⟨fun j hj e => by rw [or_inj hOr hj hi (by omega)], fun h => absurd c2 (h i hi)⟩
      · rw [g1]
        exact ⟨fun _ => hq _ ⟨fun j hj e => absurd e (hn j hj), fun _ => rfl⟩, fun c => absurd (Int.le_refl _) c⟩
    · simp only [if_pos c] at hq
      unfold v_X10_sureCount v_X10_sureCount_4
      intro ZZ hZ
      refine lpN (S := fun i => ZZ ((cntF (fun i => decide (popZ ((SPn (gH (J 129) k 0).toNat len (stW (gH (J 129) k) (rH (J 129) l) p w) (rcW (gH (J 129) k) (rH (J 129) l) p w) i : Nat) : Int) = 1)) i : Nat) : Int) (i : Int)) (N := len) (fun i hi ih => hZ _ _ ?_) (hZ _ _ ?_)
      · have lt := SPn_lt (len := len) (show (gH (J 129) k 0).toNat ≤ 24 by omega) (stW (gH (J 129) k) (rH (J 129) l) p w) (rcW (gH (J 129) k) (rH (J 129) l) p w) i
        rw [g1, Int.toNat_natCast, show J9 (89 + 2) i = _ from hY i hi]
        have st := cnt_step (P := fun i => decide (popZ ((SPn (gH (J 129) k 0).toNat len (stW (gH (J 129) k) (rH (J 129) l) p w) (rcW (gH (J 129) k) (rH (J 129) l) p w) i : Nat) : Int) = 1)) (k := i) (ZZ := ZZ) (by omega) ih
        refine ⟨fun c => by omega, fun _ => ⟨⟨by omega, by omega⟩, p_bitCount (by omega) ⟨fun c2 => st.1 (decide_eq_false c2), fun c2 => st.2 (decide_eq_true c2)⟩⟩⟩
      · rw [g1]
        exact ⟨fun _ => hq _ rfl, fun c => absurd (Int.le_refl _) c⟩
  refine ⟨fun c => go (by omega), fun c => x_hasSound rr (fun c2 => ⟨fun c2 => Bool.noConfusion c2, fun _ => bad (by omega)⟩) (fun c2 => ⟨fun _ => go (by omega), fun c2 => Bool.noConfusion c2⟩)⟩
theorem fw_le {S : Nat} (hS : S ≤ 24) {st : Nat → Nat} {rc : Nat → Int} : ∀ i s, fwN S st rc i s ≤ 24 ^ i
  | 0, s => by rw [fwN]; split <;> decide
  | i + 1, s => by
    rw [fwN]; split
    · refine Nat.le_trans (sumF_le (m := 24 ^ i) S (fun t _ => ?_)) ?_
      · show (if _ then _ else 0) ≤ _
        split
        · exact fw_le hS i t
        · exact Nat.zero_le _
      · rw [Nat.pow_succ, Nat.mul_comm]; exact Nat.mul_le_mul_left _ hS
    · exact Nat.zero_le _
theorem bk_le {S : Nat} (hS : S ≤ 24) {st : Nat → Nat} {rc : Nat → Int} : ∀ d i s, bkD S st rc d i s ≤ 24 ^ d
  | 0, i, s => by rw [bkD]; split <;> decide
  | d + 1, i, s => by
    rw [bkD]; split
    · refine Nat.le_trans (sumF_le (m := 24 ^ d) S (fun t _ => ?_)) ?_
      · show (if _ then _ else 0) ≤ _
        split
        · exact bk_le hS d (i + 1) t
        · exact Nat.zero_le _
      · rw [Nat.pow_succ, Nat.mul_comm]; exact Nat.mul_le_mul_left _ hS
    · exact Nat.zero_le _
theorem cmp_nL {n : Nat} (h : n ≤ 24 ^ 9) : (lg_cmp (nL n) (0 : Int64)).toInt ≤ 0 ↔ ¬ 0 < n := by
  have h9 : (24 : Nat) ^ 9 < 2 ^ 63 := by decide
  have e : (nL n).toInt = (n : Int) := Int64.toInt_ofNat_of_lt (by omega)
  unfold lg_cmp
  by_cases c : 0 < n
  · have : nL n > 0 := by
      show (0 : Int64) < nL n
      rw [Int64.lt_iff_toInt_lt, e]
      show (0 : Int) < (n : Int)
      omega
    rw [if_pos this]
    exact ⟨fun h => absurd h (by decide), fun h => absurd c h⟩
  · have hn : n = 0 := by omega
    subst hn
    exact ⟨fun _ => c, fun _ => by decide⟩
theorem n_spotsOf {J : mJ} {L : mL} {b i len S : Nat} {g u : Nat → Int} {st : Nat → Nat} {rc : Nat → Int} (h : MH J b g u) (hS : g 0 = (S : Int)) (hT : TkL L S len st rc) (hi : i < len) (hl : len ≤ 10) {post' : Int → Prop} (hq : post' ((SPn S len st rc i : Nat) : Int)) : v_X12_spotsOf J L 128 (i : Int) post' := by
  have h0 := h.2.2.2.1.1
  have S24 : S ≤ 24 := by omega
  unfold v_X12_spotsOf v_X12_spotsOf_4
  intro ZZ hZ
  unfold SPn at hq
  refine lpN (S := fun s => ZZ ((earsF (fun s => decide (0 < fwN S st rc i s) && decide (0 < bkD S st rc (len - 1 - i) i s)) s : Nat) : Int) (s : Int)) (N := S) (fun s hs ih => hZ _ _ (n_of h (j := 0) rfl (by decide) ?_)) (hZ _ _ (n_of h (j := 0) rfl (by decide) ⟨fun _ => hq, fun c => by omega⟩))
  have e1 := Nat.le_trans (fw_le S24 (st := st) (rc := rc) i s) (Nat.pow_le_pow_right (by decide : 0 < 24) (show i ≤ 9 by omega))
  have e2 := Nat.le_trans (bk_le S24 (st := st) (rc := rc) (len - 1 - i) i s) (Nat.pow_le_pow_right (by decide : 0 < 24) (show len - 1 - i ≤ 9 by omega))
  rw [show (24 * (i : Int) + (s : Int)).toNat = 24 * i + s by omega, show L (128 + 21) (24 * i + s) = _ from hT.1 i hi s hs, show L (128 + 22) (24 * i + s) = _ from hT.2 i hi s hs, cmp_nL e1, cmp_nL e2]
  have nx : ¬ (decide (0 < fwN S st rc i s) && decide (0 < bkD S st rc (len - 1 - i) i s)) = true → ∀ y, y = orZ ((earsF (fun s => decide (0 < fwN S st rc i s) && decide (0 < bkD S st rc (len - 1 - i) i s)) s : Nat) : Int) 0 → ir ((s : Int) + 1) ∧ ∀ y', y' = (s : Int) + 1 → ZZ y y' := by
    intro hb
    rintro _ rfl
    refine ⟨⟨by omega, by omega⟩, ?_⟩
    rintro _ rfl
    rw [ears_f0 (P := fun s => decide (0 < fwN S st rc i s) && decide (0 < bkD S st rc (len - 1 - i) i s)) (by omega) hb]; exact ih
  refine ⟨fun c => by omega, fun _ => ⟨⟨by omega, by omega⟩, ⟨by omega, by omega⟩, ⟨by omega, by omega⟩, fun c => nx ?_, fun c => ⟨⟨by omega, by omega⟩, ⟨by omega, by omega⟩, ⟨by omega, by omega⟩, fun c2 => nx ?_, fun c2 => ?_⟩⟩⟩
  · rw [decide_eq_false c, Bool.false_and]; decide
  · rw [decide_eq_false c2, Bool.and_false]; decide
  · rintro _ rfl
    refine ⟨⟨by omega, by omega⟩, ?_⟩
    rintro _ rfl
    rw [ears_t (P := fun s => decide (0 < fwN S st rc i s) && decide (0 < bkD S st rc (len - 1 - i) i s)) (by omega) (by rw [decide_eq_true (Classical.not_not.mp c), decide_eq_true (Classical.not_not.mp c2)]; rfl)]; exact ih
theorem SPn_cong {S len : Nat} {g r : Nat → Int} {p i : Nat} {w w' : Nat → Nat} (hi : i < len) (hw : ∀ i, i < len → w i = w' i) : SPn S len (stW g r p w) (rcW g r p w) i = SPn S len (stW g r p w') (rcW g r p w') i := by
  unfold SPn
  rw [fwN_cong i (fun j hj => stW_eq (hw j (by omega))) (fun j hj => rcW_eq (hw j (by omega)) (hw (j + 1) (by omega))), bkD_cong (len - 1 - i) i (fun j hj => stW_eq (hw j (by omega))) (fun j hj => rcW_eq (hw j (by omega)) (hw (j + 1) (by omega)))]
theorem m_spots {J : mJ} {L : mL} {a1 a2 a3 a4 x : Int} {t : Nat} (hI : TI J t (J 129)) (hU : UV (J 128)) (hA : isSp (J 129) a1 a2 a3 a4 x) {post' : Int → mJ → mL → Prop} (hq : ∀ J1 L1, MF J J1 → post' x J1 L1) : v_X12_spots J L 128 a1 a2 a3 a4 post' := by
  have bad : ¬ ((0 ≤ a1 ∧ a1 < J 129 0) ∧ (0 ≤ a2 ∧ a2 < J 129 1) ∧ (0 ≤ a3 ∧ a3 < gH (J 129) a1.toNat 3) ∧ -1 ≤ a4 ∧ a4 < rH (J 129) a2.toNat 0) → x = -2 := fun c => by unfold isSp at hA; rw [if_neg c] at hA; exact hA
  unfold v_X12_spots
  refine n_areRead hI hU (fun c J1 hF => ⟨fun _ => ?_, fun c2 => Bool.noConfusion c2⟩) (fun k l J1 ek el hk hl hM hp hS f1 => ⟨fun c2 => Bool.noConfusion c2, fun _ => ?_⟩)
  · have := hq J1 L hF
    rw [bad (fun c2 => c ⟨c2.1, c2.2.1⟩)] at this; exact this
  · subst ek; subst el
    rw [Int.toNat_natCast, Int.toNat_natCast] at bad
    have hv := hM.2.2.2.1
    have h0 := hv.1
    have r0 := hS.2.2.2.1
    have q1 := hq J1 L (MF_one f1 (UV_of hM))
    refine n_isPerson hM (fun c => ⟨fun _ => ?_, fun c2 => Bool.noConfusion c2⟩) (fun p ep hp3 hp6 => ⟨fun c2 => Bool.noConfusion c2, fun _ => n_sounds hS ⟨⟨by omega, by omega⟩, n_isIn (fun c => ⟨fun c2 => Bool.noConfusion c2, fun _ => ?_⟩) (fun c => ⟨fun _ => ?_, fun c2 => Bool.noConfusion c2⟩)⟩⟩)
    · rw [bad (fun c2 => c c2.2.2.1)] at q1; exact q1
    · rw [bad (by omega)] at q1; exact q1
    · subst ep
      unfold isSp at hA
      rw [Int.toNat_natCast, Int.toNat_natCast, Int.toNat_natCast, if_pos ⟨⟨by omega, hk⟩, ⟨by omega, hl⟩, ⟨by omega, hp3⟩, by omega⟩] at hA
      obtain ⟨len', w', hI', hV⟩ := hA
      refine n_tracks (S := (gH (J 129) k 0).toNat) hM hp hS hp3 (by omega) (fun J2 L2 len w hMo hOr hT => ?_)
      have hMF : MF J J2 := ⟨fun c hc => by rw [hMo.2.2.2.2.2 c (by omega) (by omega), f1 c (by omega)], UV_of hMo.1⟩
      have hq := hq J2 L2 hMF
      obtain ⟨el, ew⟩ := or_uniq hOr hI'
      subst el
      have hl' := or_len hOr
      have esp := fun i (hi : i < len) => SPn_cong (S := (gH (J 129) k 0).toNat) (g := gH (J 129) k) (r := rH (J 129) l) (p := p) hi ew
      unfold isSpV at hV
      unfold v_X12_spots_46
      intro ZZ hZ
      generalize hSP : SPn (gH (J 129) k 0).toNat len (stW (gH (J 129) k) (rH (J 129) l) p w) (rcW (gH (J 129) k) (rH (J 129) l) p w) = SP at esp
      have hsp : ∀ i, i < len → ∀ post2 : Int → Prop, post2 ((SP i : Nat) : Int) → v_X12_spotsOf J2 L2 128 (i : Int) post2 := fun i hi post2 h2 => n_spotsOf hMo.1 (by omega) hT hi (by omega) (by rw [hSP]; exact h2)
      have lt : ∀ i, SP i < 2 ^ 24 := fun i => by rw [← hSP]; exact SPn_lt (by omega) _ _ _
      refine lpN (S := fun i => (∀ j, j < i → (w j : Int) ≠ a4) → ZZ J2 L2 ((cntF (fun i => decide (popZ ((SP i : Nat) : Int) = 1)) i : Nat) : Int) (i : Int)) (N := len) (fun i hi ih hn => hZ _ _ _ _ ?_) (fun hn => hZ _ _ _ _ ?_) (fun j hj => absurd hj (Nat.not_lt_zero _))
      · rw [hMo.2.2.2.1, Int.toNat_natCast, show J2 (128 + 20) i = _ from hMo.2.2.2.2.1 i hi]
        refine ⟨fun c => by omega, fun _ => ⟨⟨by omega, by omega⟩, fun c2 => hsp i hi _ ?_, fun c2 => ?_⟩⟩
        · have li := lt i
          have ih := ih (fun j hj => by
            by_cases e : j = i
            · subst e; exact c2
            · exact hn j (by omega))
          have st := cnt_stepR (P := fun i => decide (popZ ((SP i : Nat) : Int) = 1)) (k := i) (ZZ := fun a b => ZZ J2 L2 a b) (by omega) ih
          exact m_bits (by omega) ⟨fun c3 => st.1 (decide_eq_false c3), fun c3 => st.2 (decide_eq_true c3)⟩
        · unfold v_X12_spots_67
          refine hsp i hi _ ?_
          rw [if_neg (by omega)] at hV
          have := hV.1 i hi (by rw [← ew i hi]; exact c2)
          rw [this, ← esp i hi] at hq; exact hq
      · rw [hMo.2.2.2.1]
        refine ⟨fun _ => ?_, fun c => absurd (Int.le_refl _) c⟩
        unfold v_X12_spots_103
        refine ⟨fun c2 => ?_, fun c2 => ?_⟩
        · rw [if_neg c2] at hV
          rw [hV.2 (fun i hi => by rw [← ew i hi]; exact hn i hi)] at hq; exact hq
        · rw [if_pos c2] at hV
          rw [hV, cntF_cong (Q := fun i => decide (popZ ((SP i : Nat) : Int) = 1)) len (fun i hi => by rw [← esp i hi])] at hq; exact hq
