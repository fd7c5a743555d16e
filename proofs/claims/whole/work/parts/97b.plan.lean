/-! the class plans a way -/
theorem minZ_nat (a b : Nat) : minZ (a : Int) (b : Int) = ((min a b : Nat) : Int) := by unfold minZ; split <;> omega
theorem fst_cong {P Q : Nat → Bool} : ∀ d k, (∀ i, k ≤ i → i < k + d → P i = Q i) → fstF P k d = fstF Q k d
  | 0, k, _ => rfl
  | d + 1, k, h => by
    rw [fstF, fstF, h k (by omega) (by omega), fst_cong d (k + 1) (fun i h1 h2 => h i (by omega) (by omega))]
theorem fst_none {P : Nat → Bool} {n : Nat} : fstF P 0 n = -1 ↔ ∀ i, i < n → P i = false := by
  rcases fst_cases P 0 n with h | ⟨c, h⟩
  · exact ⟨fun _ i hi => h i (by omega) (by omega), fun _ => fst_isNo n h⟩
  · rw [fst_isFs n h]
    exact ⟨fun h2 => by omega, fun h2 => by have := h2 c (by have := h.2.1; omega); rw [h.2.2.1] at this; exact Bool.noConfusion this⟩
/-- the steps that one can be on next, from lo to hi -/
theorem reach_lh {S R s : Nat} (hs : s < S) : ∃ lo hi : Nat, maxZ 0 ((s : Int) - (R : Int)) = (lo : Int) ∧ minZ ((S : Int) - 1) ((s : Int) + (R : Int)) = (hi : Int) ∧ lo ≤ s ∧ s ≤ hi ∧ hi < S ∧ ∀ r, r < S → ((s ≤ r + R ∧ r ≤ s + R) ↔ lo ≤ r ∧ r ≤ hi) := by
  refine ⟨s - R, if s + R < S then s + R else S - 1, ?_, ?_, by omega, ?_, ?_, fun r hr => ?_⟩
  · unfold maxZ; split <;> omega
  · unfold minZ; split <;> split <;> omega
  · split <;> omega
  · split <;> omega
  · split <;> omega
theorem x_leastAt {J : mJ} {h p S R f i s : Nat} {g : Nat → Int} {q : Nat → Nat → Nat} (hv : HV g) (hr : HR J h g) (hp : (p : Int) < g 3) (hS : g 0 = (S : Int)) (hR : g (43 + 14 * p) = (R : Int)) (h4 : J 70 4 = (p : Int)) (hi : i < 60) (hs : s < S) (hL : ∀ r, r < S → J 73 (24 * i + r) = ((lsF q S R f i r : Nat) : Int)) (hP : J 72 (24 * (i + 1) + s) = ((pw 1000 (q (i + 1) s) : Nat) : Int)) (hq2 : q (i + 1) s ≤ 2) {post' : Int → Prop} (hq : post' ((lsF q S R f (i + 1) s : Nat) : Int)) : v_X7_leastAt J 70 h ((i + 1 : Nat) : Int) (s : Int) post' := by
  have h0 := hv.1
  have h3 := hv.2.2.2.1
  obtain ⟨_, _, r6, _⟩ := hr.2.2.2.1 p hp
  obtain ⟨_, _, h43, _⟩ := hv.2.2.2.2.2.2.2.1 p hp
  obtain ⟨lo, hi', elo, ehi, b1, b2, b3, rng⟩ := reach_lh (R := R) hs
  unfold v_X7_leastAt
  rw [h4, Int.toNat_natCast, r6, hR, hr.1.1, hS]
  refine ⟨⟨by omega, by omega⟩, ⟨by omega, by omega⟩, ?_⟩
  intro y3 e3
  refine ⟨⟨by omega, by omega⟩, ⟨by omega, by omega⟩, ?_⟩
  rintro _ rfl
  refine ⟨⟨by omega, by omega⟩, ⟨by omega, by omega⟩, ⟨by omega, by omega⟩, ?_⟩
  rintro _ rfl
  rw [elo, ehi]
  rw [show y3 = ((24 * i : Nat) : Int) by omega]
  have eP : ∀ r, r < S → ((rB R r s && decide (r ≠ s)) = true ↔ (lo ≤ r ∧ r ≤ hi') ∧ r ≠ s) := fun r hr' => by
    unfold rB
    rw [Bool.and_eq_true, decide_eq_true_eq, decide_eq_true_eq, ← rng r hr']
    exact ⟨fun h => ⟨⟨h.1.2, h.1.1⟩, h.2⟩, fun h => ⟨⟨h.1.2, h.1.1⟩, h.2⟩⟩
  have eN : ∀ r, r < S → ¬ ((lo ≤ r ∧ r ≤ hi') ∧ r ≠ s) → (rB R r s && decide (r ≠ s)) = false := fun r hr' hn => Bool.eq_false_iff.mpr (fun h => hn ((eP r hr').mp h))
  rw [lsF] at hq
  unfold v_X7_leastAt_56
  intro ZZ hZ
  have k0 := lpN (S := fun d => ZZ ((24 * i : Nat) : Int) ((minF (fun r => rB R r s && decide (r ≠ s)) (lsF q S R f i) 1000 (lo + d) : Nat) : Int) (hi' : Int) ((lo + d : Nat) : Int)) (N := hi' + 1 - lo) (fun d hd ih => hZ _ _ _ _ ?_) (hZ _ _ _ _ ?_)
  · have z := minF_skip (P := fun r => rB R r s && decide (r ≠ s)) (f := lsF q S R f i) (W := 1000) (a := 0) lo (fun k _ h2 => eN k (by omega) (by omega))
    rw [Nat.zero_add] at z
    rw [Nat.add_zero, z] at k0; exact k0
  · rw [← Nat.add_assoc, minF] at ih
    refine ⟨fun c => by omega, fun _ => ⟨fun c => ⟨⟨by omega, by omega⟩, ?_⟩, fun c => ⟨⟨by omega, by omega⟩, ⟨by omega, by omega⟩, ?_⟩⟩⟩
    · rintro _ rfl
      rw [if_neg (by show ¬ (rB R (lo + d) s && decide (lo + d ≠ s)) = true; rw [eN (lo + d) (by omega) (by omega)]; decide)] at ih
      exact ih
    · rw [show (((24 * i : Nat) : Int) + ((lo + d : Nat) : Int)).toNat = 24 * i + (lo + d) by omega, show J (70 + 3) (24 * i + (lo + d)) = _ from hL (lo + d) (by omega), minZ_nat]
      rintro _ rfl
      refine ⟨⟨by omega, by omega⟩, ?_⟩
      rintro _ rfl
      rw [if_pos (show (rB R (lo + d) s && decide (lo + d ≠ s)) = true from (eP (lo + d) (by omega)).mpr (by omega))] at ih
      exact ih
  · refine ⟨fun _ => ?_, fun c => by omega⟩
    have z := minF_skip (P := fun r => rB R r s && decide (r ≠ s)) (f := lsF q S R f i) (W := 1000) (a := lo + (hi' + 1 - lo)) (S - (hi' + 1)) (fun k h1 h2 => eN k (by omega) (by omega))
    rw [show lo + (hi' + 1 - lo) + (S - (hi' + 1)) = S by omega] at z
    rw [← z]
    have l1 := minF_W (P := fun r => rB R r s && decide (r ≠ s)) (f := lsF q S R f i) (W := 1000) S
    have l2 : pw 1000 (q (i + 1) s) ≤ 1000 := by unfold pw; split <;> omega
    have l3 := ls_1000 (q := q) (S := S) (R := R) (f := f) i s
    unfold v_X7_leastAt_92
    rw [show (((24 * i : Nat) : Int) + (s : Int)).toNat = 24 * i + s by omega, show J (70 + 3) (24 * i + s) = _ from hL s hs, show (((i + 1 : Nat) : Int) * 24 + (s : Int)).toNat = 24 * (i + 1) + s by omega, show J (70 + 2) (24 * (i + 1) + s) = _ from hP]
    refine ⟨⟨by omega, by omega⟩, ⟨by omega, by omega⟩, ?_⟩
    rintro _ rfl
    refine ⟨⟨by omega, by omega⟩, ⟨by omega, by omega⟩, ⟨by omega, by omega⟩, ⟨by omega, by omega⟩, ?_⟩
    rw [← Int.natCast_add, show (1000 : Int) = ((1000 : Nat) : Int) from rfl, minZ_nat, minZ_nat]
    exact hq
def onP (q : Nat → Nat → Nat) (S R f U i s r : Nat) : Bool := rB R s r && (U.testBit r && decide (lsF q S R f i s + sc 1000 q (i + 1) s r = lsF q S R f (i + 1) r))
theorem x_onward {J : mJ} {h p S R f i s U : Nat} {g : Nat → Int} {q : Nat → Nat → Nat} (hv : HV g) (hr : HR J h g) (hp : (p : Int) < g 3) (hS : g 0 = (S : Int)) (hR : g (43 + 14 * p) = (R : Int)) (h4 : J 70 4 = (p : Int)) (hi : i < 60) (hs : s < S) (hL0 : J 73 (24 * i + s) = ((lsF q S R f i s : Nat) : Int)) (hL : ∀ r, r < S → J 73 (24 * (i + 1) + r) = ((lsF q S R f (i + 1) r : Nat) : Int)) (hP : ∀ r, r < S → J 72 (24 * (i + 1) + r) = ((pw 1000 (q (i + 1) r) : Nat) : Int)) (hq2 : ∀ i s, q i s ≤ 2) (hU : J 74 (i + 1) = (U : Int)) (hUl : U < 2 ^ 24) {post' : Int → Prop} (hq : post' (fstF (onP q S R f U i s) 0 S)) : v_X7_onward J 70 h (i : Int) (s : Int) post' := by
  have h0 := hv.1
  have h3 := hv.2.2.2.1
  obtain ⟨_, _, r6, _⟩ := hr.2.2.2.1 p hp
  obtain ⟨_, _, h43, _⟩ := hv.2.2.2.2.2.2.2.1 p hp
  obtain ⟨lo, hi', elo, ehi, b1, b2, b3, rng⟩ := reach_lh (R := R) hs
  unfold v_X7_onward
  rw [h4, Int.toNat_natCast, r6, hR, hr.1.1, hS]
  refine ⟨⟨by omega, by omega⟩, ⟨by omega, by omega⟩, ?_⟩
  rintro _ rfl
  refine ⟨⟨by omega, by omega⟩, ⟨by omega, by omega⟩, ⟨by omega, by omega⟩, ?_⟩
  rintro _ rfl
  refine ⟨⟨by omega, by omega⟩, ⟨by omega, by omega⟩, ?_⟩
  intro y e
  rw [elo, ehi, show y = ((24 * (i + 1) : Nat) : Int) by omega]
  have eP : ∀ r, r < S → (rB R s r = true ↔ (lo ≤ r ∧ r ≤ hi')) := fun r hr' => by
    unfold rB
    rw [decide_eq_true_eq]; exact rng r hr'
  have eN : ∀ r, r < S → ¬ (lo ≤ r ∧ r ≤ hi') → onP q S R f U i s r = false := fun r hr' hn => by
    unfold onP; rw [Bool.eq_false_iff.mpr (fun h => hn ((eP r hr').mp h)), Bool.false_and]
  have l3 := ls_1000 (q := q) (S := S) (R := R) (f := f)
  unfold v_X7_onward_51
  intro ZZ hZ
  refine lpN (S := fun d => (∀ r, r < lo + d → onP q S R f U i s r = false) → ZZ (hi' : Int) ((24 * (i + 1) : Nat) : Int) ((lo + d : Nat) : Int)) (N := hi' + 1 - lo) (fun d hd ih hn => hZ _ _ _ ?_) (fun hn => hZ _ _ _ ?_) (fun r hr' => eN r (by omega) (by omega))
  · have hrS : lo + d < S := by omega
    rw [show ((i : Int) * 24 + (s : Int)).toNat = 24 * i + s by omega, show J (70 + 3) (24 * i + s) = _ from hL0, show (((24 * (i + 1) : Nat) : Int) + ((lo + d : Nat) : Int)).toNat = 24 * (i + 1) + (lo + d) by omega, show J (70 + 2) (24 * (i + 1) + (lo + d)) = _ from hP _ hrS]
    have hb := (eP (lo + d) hrS).mpr (by omega)
    have nx : onP q S R f U i s (lo + d) = false → ∀ y, y = ((lo + d : Nat) : Int) + 1 → ZZ (hi' : Int) ((24 * (i + 1) : Nat) : Int) y := by
      intro hf
      rintro _ rfl
      refine ih (fun r hr' => ?_)
      by_cases e : r = lo + d
      · rw [e]; exact hf
      · exact hn r (by omega)
    have go : ∀ s1 : Int, s1 = ((sc 1000 q (i + 1) s (lo + d) : Nat) : Int) → v_X7_onward_89 J 70 h (i : Int) (s : Int) post' ZZ (hi' : Int) ((24 * (i + 1) : Nat) : Int) ((lo + d : Nat) : Int) ((lsF q S R f i s : Nat) : Int) s1 := by
      rintro _ rfl
      unfold v_X7_onward_89
      have l2 : sc 1000 q (i + 1) s (lo + d) ≤ 1000 := by
        have := hq2 (i + 1) (lo + d)
        unfold sc pw; split
        · omega
        · split <;> omega
      have l4 := l3 i s
      rw [show ((i : Int) + 1).toNat = i + 1 by omega, show J (70 + 4) (i + 1) = _ from hU, show (((24 * (i + 1) : Nat) : Int) + ((lo + d : Nat) : Int)).toNat = 24 * (i + 1) + (lo + d) by omega, show J (70 + 3) (24 * (i + 1) + (lo + d)) = _ from hL _ hrS]
      refine ⟨⟨by omega, by omega⟩, ?_⟩
      rintro _ rfl
      refine ⟨⟨by omega, by omega⟩, ⟨by omega, by omega⟩, p_X11_has (by omega) (by omega) ⟨fun c => ⟨⟨by omega, by omega⟩, nx ?_⟩, fun c => ⟨⟨by omega, by omega⟩, ⟨by omega, by omega⟩, fun c2 => ⟨⟨by omega, by omega⟩, nx ?_⟩, fun c2 => ?_⟩⟩⟩
      · unfold onP; rw [c, Bool.false_and, Bool.and_false]
      · unfold onP; rw [decide_eq_false (by omega), Bool.and_false, Bool.and_false]
      · have hs1 : onP q S R f U i s (lo + d) = true := by unfold onP; rw [hb, c, decide_eq_true (by omega)]; rfl
        rw [fst_isFs S ⟨Nat.zero_le _, by omega, hs1, fun r _ hr' => hn r hr'⟩] at hq
        exact hq
    refine ⟨fun c => by omega, fun _ => ⟨⟨by omega, by omega⟩, ⟨by omega, by omega⟩, ⟨by omega, by omega⟩, fun c => ⟨⟨by omega, by omega⟩, ⟨by omega, by omega⟩, go _ ?_⟩, fun c => go _ ?_⟩⟩
    · unfold sc; rw [if_neg (by omega)]
    · unfold sc; rw [if_pos (by omega)]; rfl
  · refine ⟨fun _ => ?_, fun c => by omega⟩
    rw [fst_none.mpr (fun r hr' => ?_)] at hq
    · exact hq
    · by_cases c : r < lo + (hi' + 1 - lo)
      · exact hn r c
      · exact eN r hr' (by omega)
def uM (q : Nat → Nat → Nat) (S R f e n i : Nat) : Nat := earsF (fun s => decide (lsF q S R f i s + ahF q S R e (n - i) i s = lsF q S R f n e)) S
theorem uM_lt {q : Nat → Nat → Nat} {S R f e n i : Nat} (h : S ≤ 24) : uM q S R f e n i < 2 ^ 24 := Nat.lt_of_lt_of_le (earsF_lt _ _) (Nat.pow_le_pow_right (by decide) h)
theorem uM_n {q : Nat → Nat → Nat} {S R f e n : Nat} (he : e < S) : 2 ^ e = uM q S R f e n n := by
  refine ears_ext (Nat.pow_lt_pow_right (by decide) he) (fun s hs => ?_)
  rw [Nat.testBit_two_pow, Nat.sub_self, ahF]
  refine dec_eq ?_
  by_cases c : s = e
  · subst c; rw [if_pos rfl]; exact ⟨fun _ => rfl, fun _ => rfl⟩
  · rw [if_neg c]
    have := ls_1000 (q := q) (S := S) (R := R) (f := f) n e
    exact ⟨fun h => absurd h.symm c, fun h => by omega⟩
theorem on_uM {q : Nat → Nat → Nat} {S R f e n i s r : Nat} (hr : r < S) : onP q S R f (uM q S R f e n (i + 1)) i s r = (rB R s r && (decide (lsF q S R f (i + 1) r + ahF q S R e (n - (i + 1)) (i + 1) r = lsF q S R f n e) && decide (lsF q S R f i s + sc 1000 q (i + 1) s r = lsF q S R f (i + 1) r))) := by
  unfold onP
  rw [show (uM q S R f e n (i + 1)).testBit r = _ from earsF_bit _ _ _, decide_eq_true hr, Bool.true_and]
theorem on_V {q : Nat → Nat → Nat} (hq : ∀ i s, q i s ≤ 2) {S R f e n i s : Nat} (hi : i < n) (hs : s < S) (hT : lsF q S R f n e < 1000) : ¬ fstF (onP q S R f (uM q S R f e n (i + 1)) i s) 0 S = -1 ↔ lsF q S R f i s + ahF q S R e (n - i) i s = lsF q S R f n e := by
  rw [fst_none, ← way_K hq hi hs hT]
  constructor
  · intro h
    apply Classical.byContradiction
    intro h2
    refine h (fun r hr => Bool.eq_false_iff.mpr (fun h3 => h2 ?_))
    rw [on_uM hr, Bool.and_eq_true, Bool.and_eq_true, decide_eq_true_eq, decide_eq_true_eq] at h3
    exact ⟨r, hr, h3.1, h3.2.1, h3.2.2⟩
  · rintro ⟨r, hr, h1, h2, h3⟩ h
    have := h r hr
    rw [on_uM hr, h1, decide_eq_true h2, decide_eq_true h3] at this
    exact Bool.noConfusion this
/-- the rows of prices and of least costs up to n -/
def RwL (J : mJ) (q : Nat → Nat → Nat) (S R f n : Nat) : Prop := (∀ j s, j < n → s < S → J 73 (24 * j + s) = ((lsF q S R f j s : Nat) : Int)) ∧ (∀ j s, 1 ≤ j → j < n → s < S → J 72 (24 * j + s) = ((pw 1000 (q j s) : Nat) : Int))
theorem RwL_frame {J J1 : mJ} {q : Nat → Nat → Nat} {S R f n : Nat} (h1 : J1 72 = J 72) (h2 : J1 73 = J 73) (h : RwL J q S R f n) : RwL J1 q S R f n := by
  unfold RwL; rw [h1, h2]; exact h
theorem x_mark {J : mJ} {h p S R f e n : Nat} {g : Nat → Int} {q : Nat → Nat → Nat} (hv : HV g) (hr : HR J h g) (hh : h ≤ 40) (hp : (p : Int) < g 3) (hS : g 0 = (S : Int)) (hR : g (43 + 14 * p) = (R : Int)) (h4 : J 70 4 = (p : Int)) (h1 : J 70 1 = (n : Int)) (h6 : J 70 6 = (e : Int)) (hn : n ≤ 60) (he : e < S) (hq2 : ∀ i s, q i s ≤ 2) (hT : lsF q S R f n e < 1000) (hRw : RwL J q S R f (n + 1)) {post' : mJ → Prop} (hq : ∀ J1, (∀ c, c ≠ 74 → J1 c = J c) → (∀ i, i ≤ n → J1 74 i = ((uM q S R f e n i : Nat) : Int)) → post' J1) : v_X7_markUseful J 70 h post' := by
  have h0 := hv.1
  unfold v_X7_markUseful
  rw [h1, h6, Int.toNat_natCast, shlZ_one (by omega), uM_n (q := q) (R := R) (f := f) (n := n) he]
  refine ⟨⟨by omega, by omega⟩, ?_⟩
  rintro J2 rfl
  rw [show up2 J (70 + 4) n ((uM q S R f e n n : Nat) : Int) 70 1 = (n : Int) by rw [up2_n _ _ _ (by decide)]; exact h1]
  refine ⟨⟨by omega, by omega⟩, ?_⟩
  rintro _ rfl
  unfold v_X7_markUseful_22
  intro ZZ hZ
  have k0 := lpN (S := fun k => ∀ J2 : mJ, (∀ c, c ≠ 74 → J2 c = J c) → (∀ i, n ≤ i + k → i ≤ n → J2 74 i = ((uM q S R f e n i : Nat) : Int)) → ∀ v : Int, v = (n : Int) - 1 - (k : Int) → ZZ J2 v) (N := n) (fun k hk ih J2 fr hY v ev => hZ _ _ ?_) (fun J2 fr hY v ev => hZ _ _ ⟨fun _ => hq J2 fr (fun i hi => hY i (by omega) hi), fun c => by omega⟩)
  · refine k0 _ (fun c hc => up2_n _ _ _ hc) (fun i h1 h2 => ?_) _ (by omega)
    rw [show i = n by omega]
    exact up2_at J 74 n _
  · obtain ⟨i, rfl⟩ : ∃ i : Nat, v = (i : Int) := ⟨v.toNat, by omega⟩
    have hi : i < n := by omega
    refine ⟨fun c => by omega, fun _ => ⟨⟨by omega, by omega⟩, ?_⟩⟩
    rintro J3 rfl
    rw [Int.toNat_natCast]
    unfold v_X7_markUseful_35
    intro Z2 hZ2
    refine lpN (S := fun s => ∀ J3 : mJ, (∀ c, c ≠ 74 → J3 c = J c) → (∀ i', i < i' → i' ≤ n → J3 74 i' = ((uM q S R f e n i' : Nat) : Int)) → J3 74 i = ((earsF (fun s => decide (lsF q S R f i s + ahF q S R e (n - i) i s = lsF q S R f n e)) s : Nat) : Int) → Z2 J3 (i : Int) (s : Int)) (N := S) (fun s hs ih2 J3 fr3 hA hB => hZ2 _ _ _ ?_) (fun J3 fr3 hA hB => hZ2 _ _ _ ?_) _ (fun c hc => by rw [up2_n _ _ _ hc]; exact fr c hc) (fun i' h1 h2 => ?_) ?_
    · have hr3 : HR J3 h g := HR_frame (fun q hq => fr3 _ (by omega)) hr
      have hw3 : RwL J3 q S R f (n + 1) := RwL_frame (fr3 72 (by decide)) (fr3 73 (by decide)) hRw
      rw [hr3.1.1, hS, show ((i : Int) * 24 + (s : Int)).toNat = 24 * i + s by omega, show J3 (70 + 3) (24 * i + s) = _ from hw3.1 i s (by omega) hs, Int.toNat_natCast, show J3 (70 + 4) i = _ from hB]
      have nx : ¬ (lsF q S R f i s + ahF q S R e (n - i) i s = lsF q S R f n e) → ∀ y, y = (s : Int) + 1 → Z2 J3 (i : Int) y := by
        intro hf
        rintro _ rfl
        refine ih2 J3 fr3 hA ?_
        rw [hB]
        exact ears_f (P := fun s => decide (lsF q S R f i s + ahF q S R e (n - i) i s = lsF q S R f n e)) (by rw [decide_eq_true_eq]; exact hf)
      have oV := on_V hq2 (R := R) (f := f) (e := e) hi hs hT
      refine ⟨fun c => by omega, fun _ => ⟨⟨by omega, by omega⟩, ⟨by omega, by omega⟩, ⟨by omega, by omega⟩, fun c => ⟨⟨by omega, by omega⟩, nx (by omega)⟩, fun c => x_onward hv hr3 hp hS hR (by rw [fr3 70 (by decide)]; exact h4) (by omega) hs (hw3.1 i s (by omega) hs) (fun r hr' => hw3.1 (i + 1) r (by omega) hr') (fun r hr' => hw3.2 (i + 1) r (by omega) (by omega) hr') hq2 (hA (i + 1) (by omega) (by omega)) (uM_lt (by omega)) ⟨fun c2 => ⟨⟨by omega, by omega⟩, nx (fun h => oV.mpr h c2)⟩, fun c2 => ⟨⟨by omega, by omega⟩, ⟨by omega, by omega⟩, ?_⟩⟩⟩⟩
      rintro J4 rfl
      refine ⟨⟨by omega, by omega⟩, ?_⟩
      rintro _ rfl
      refine ih2 _ (fun c hc => by rw [up2_n _ _ _ hc]; exact fr3 c hc) (fun i' h1 h2 => ?_) ?_
      · show up2 J3 (70 + 4) i _ (70 + 4) i' = _
        rw [up2_off _ _ (Or.inr (by omega))]; exact hA i' h1 h2
      · show up2 J3 (70 + 4) i _ (70 + 4) i = _
        rw [up2_at]
        exact ears_t (P := fun s => decide (lsF q S R f i s + ahF q S R e (n - i) i s = lsF q S R f n e)) (by omega) (by rw [decide_eq_true_eq]; exact oV.mp c2)
    · have hr3 : HR J3 h g := HR_frame (fun q hq => fr3 _ (by omega)) hr
      rw [hr3.1.1, hS]
      refine ⟨fun _ => ⟨⟨by omega, by omega⟩, ?_⟩, fun c => absurd (Int.le_refl _) c⟩
      rintro _ rfl
      refine ih J3 fr3 (fun i' h1 h2 => ?_) _ (by omega)
      by_cases ee : i' = i
      · subst ee; exact hB
      · exact hA i' (by omega) h2
    · show up2 J2 (70 + 4) i _ (70 + 4) i' = _
      rw [up2_off _ _ (Or.inr (by omega))]; exact hY i' (by omega) h2
    · show up2 J2 (70 + 4) i _ (70 + 4) i = _
      rw [up2_at]; rfl
theorem x_lay {J : mJ} {h p S R f e n : Nat} {g : Nat → Int} {q : Nat → Nat → Nat} (hv : HV g) (hr : HR J h g) (hh : h ≤ 40) (hp : (p : Int) < g 3) (hS : g 0 = (S : Int)) (hR : g (43 + 14 * p) = (R : Int)) (h4 : J 70 4 = (p : Int)) (h1 : J 70 1 = (n : Int)) (h5 : J 70 5 = (f : Int)) (hn : n ≤ 60) (hf : f < S) (he : e < S) (hq2 : ∀ i s, q i s ≤ 2) (hT : lsF q S R f n e < 1000) (hRw : RwL J q S R f (n + 1)) (hU : ∀ i, i ≤ n → J 74 i = ((uM q S R f e n i : Nat) : Int)) {post' : mJ → Prop} (hq : ∀ J1, (∀ c, c ≠ 71 → J1 c = J c) → (∀ i, i < n → J1 71 i = ((wyF q S R f e n (i + 1) : Nat) : Int)) → post' J1) : v_X7_layRow J 70 h post' := by
  have h0 := hv.1
  unfold v_X7_layRow
  rw [h5]
  rintro _ rfl
  unfold v_X7_layRow_7
  intro ZZ hZ
  refine lpN (S := fun i => ∀ J1 : mJ, (∀ c, c ≠ 71 → J1 c = J c) → (∀ j, j < i → J1 71 j = ((wyF q S R f e n (j + 1) : Nat) : Int)) → ZZ J1 ((wyF q S R f e n i : Nat) : Int) (i : Int)) (N := n) (fun i hi ih J1 fr hX => hZ _ _ _ ?_) (fun J1 fr hX => hZ _ _ _ ?_) J (fun _ _ => rfl) (fun j hj => absurd hj (Nat.not_lt_zero _))
  · have hr1 : HR J1 h g := HR_frame (fun q hq => fr _ (by omega)) hr
    have hw1 : RwL J1 q S R f (n + 1) := RwL_frame (fr 72 (by decide)) (fr 73 (by decide)) hRw
    rw [show J1 70 1 = (n : Int) by rw [fr 70 (by decide)]; exact h1]
    obtain ⟨w1, w2⟩ := wy_in hq2 hf he hT hn i (by omega)
    obtain ⟨r, a1, a2, a3⟩ := wy_step hq2 hi w1 hT w2
    refine ⟨fun c => by omega, fun _ => x_onward hv hr1 hp hS hR (by rw [fr 70 (by decide)]; exact h4) (by omega) w1 (hw1.1 i _ (by omega) w1) (fun r hr' => hw1.1 (i + 1) r (by omega) hr') (fun r hr' => hw1.2 (i + 1) r (by omega) (by omega) hr') hq2 (by rw [fr 74 (by decide)]; exact hU (i + 1) (by omega)) (uM_lt (by omega)) ?_⟩
    have ef : fstF (onP q S R f (uM q S R f e n (i + 1)) i (wyF q S R f e n i)) 0 S = (r : Int) := by
      rw [fst_cong (Q := wyP q S R e n i (wyF q S R f e n i)) S 0 (fun k _ hk => by rw [on_uM (by omega)]; exact wy_on hq2 hi w1 hT w2 (by omega))]
      exact fst_isFs S a1
    have ew : wyF q S R f e n (i + 1) = r := by rw [wyF, fst_isFs S a1, Int.toNat_natCast]
    rw [ew] at ih
    rw [ef]
    refine ⟨fun _ => ?_, fun c => by omega⟩
    unfold v_X7_layRow_36
    rw [Int.toNat_natCast]
    refine ⟨⟨by omega, by omega⟩, ?_⟩
    rintro J2 rfl
    refine ⟨⟨by omega, by omega⟩, ?_⟩
    rintro _ rfl
    refine ih _ (fun c hc => by rw [up2_n _ _ _ hc]; exact fr c hc) (fun j hj => ?_)
    show up2 J1 (70 + 1) i _ (70 + 1) j = _
    by_cases ee : j = i
    · subst ee; rw [up2_at, ew]
    · rw [up2_off _ _ (Or.inr ee)]; exact hX j (by omega)
  · rw [show J1 70 1 = (n : Int) by rw [fr 70 (by decide)]; exact h1]
    exact ⟨fun _ => hq J1 fr hX, fun c => absurd (Int.le_refl _) c⟩
def clA (x : Nat × Nat) : Int × Int := if x.1 < 1000 then ((x.1 : Int), (x.2 : Int)) else (1000, -1)
def aN (q : Nat → Nat → Nat) (S R f e n : Nat) : Nat := ahF q S R e n 0 f
/-- the way that is planned -/
def RtP (J : mJ) (q : Nat → Nat → Nat) (S R f e : Nat) : Prop := (J 70 0 = (clA (bsF (aN q S R f e) 61)).1 ∧ J 70 1 = (clA (bsF (aN q S R f e) 61)).2) ∧ ((bsF (aN q S R f e) 61).1 < 1000 → ∀ i, i < (bsF (aN q S R f e) 61).2 → J 71 i = ((wyF q S R f e (bsF (aN q S R f e) 61).2 (i + 1) : Nat) : Int))
theorem cl_step {q : Nat → Nat → Nat} (hq2 : ∀ i s, q i s ≤ 2) {S R f e i : Nat} (hf : f < S) (he : e < S) (hi : i ≤ 60) : clA (bsF (aN q S R f e) (i + 1)) = if ((lsF q S R f i e : Nat) : Int) < (clA (bsF (aN q S R f e) i)).1 then (((lsF q S R f i e : Nat) : Int), (i : Int)) else clA (bsF (aN q S R f e) i) := by
  have w := way_eq hq2 (R := R) hf he hi
  have hl := ls_1000 (q := q) (S := S) (R := R) (f := f) i e
  have hb := bs_le (aN q S R f e) i
  rw [bsF]
  generalize bsF (aN q S R f e) i = x at hb
  obtain ⟨c, m⟩ := x
  change c ≤ 1000000 at hb
  show clA (if aN q S R f e i < c then _ else (c, m)) = _
  by_cases c1 : aN q S R f e i < c
  · have w := w (Or.inr (by unfold aN at c1; omega))
    have ea : aN q S R f e i = lsF q S R f i e := w.1.symm
    rw [if_pos c1, ea]
    unfold clA
    rw [if_pos (by show lsF q S R f i e < 1000; omega)]
    rw [if_pos]
    show ((lsF q S R f i e : Nat) : Int) < (if c < 1000 then _ else _ : Int × Int).1
    split
    · show ((lsF q S R f i e : Nat) : Int) < (c : Int); omega
    · show ((lsF q S R f i e : Nat) : Int) < 1000; omega
  · rw [if_neg c1, if_neg]
    unfold clA
    show ¬ ((lsF q S R f i e : Nat) : Int) < (if c < 1000 then _ else _ : Int × Int).1
    by_cases c2 : lsF q S R f i e < 1000
    · have w := w (Or.inl c2)
      have ea : aN q S R f e i = lsF q S R f i e := w.1.symm
      rw [if_pos (show c < 1000 by omega)]
      show ¬ ((lsF q S R f i e : Nat) : Int) < (c : Int); omega
    · split
      · show ¬ ((lsF q S R f i e : Nat) : Int) < (c : Int); omega
      · show ¬ ((lsF q S R f i e : Nat) : Int) < 1000; omega
theorem x_plan {J : mJ} {e' h p S R f e mi : Nat} {g : Nat → Int} {fl : Int} (hv : HV g) (hr : HR J h g) (hh : h ≤ 40) (he' : 90 ≤ e') (hO : EvO J e' g) (hW : WO J 66 (gRun g).1 (gRun g).2 p (mi + 1) 60) (hp : (p : Int) < g 3) (hm : mi ≤ 99) (hS : g 0 = (S : Int)) (hR : g (43 + 14 * p) = (R : Int)) (h4 : J 70 4 = (p : Int)) (h5 : J 70 5 = (f : Int)) (h6 : J 70 6 = (e : Int)) (h7 : J 70 7 = (mi : Int)) (h8 : J 70 8 = fl) (hfl : fl = -1 ∨ 0 ≤ fl ∧ fl < 64) (hf : f < S) (he : e < S) {post' : mJ → Prop} (hq : ∀ J1, RtP J1 (qF g p mi fl) S R f e → (∀ k, 3 ≤ k → J1 70 k = J 70 k) → (∀ c, (c < 70 ∨ 74 < c) → J1 c = J c) → post' J1) : v_X7_plan J 70 e' h 66 post' := by
  have h0 := hv.1
  have hq2 := qF_2 g p mi fl
  generalize hQ : qF g p mi fl = q at hq hq2
  -- the state of the loop
  have loop : ∀ J1 : mJ, (J1 70 0 = (clA (bsF (aN q S R f e) 1)).1 ∧ J1 70 1 = (clA (bsF (aN q S R f e) 1)).2) → RwL J1 q S R f 1 → (∀ k, 3 ≤ k → J1 70 k = J 70 k) → (∀ c, c ≠ 70 → c ≠ 73 → J1 c = J c) → v_X7_plan_91 70 e' h 66 post' (v_X7_plan_206 70 e' h 66 post') J1 1 := by
    intro J1 s1 s2 s3 s4
    have out : ∀ (i : Nat) (J2 : mJ), 1 ≤ i → i ≤ 61 → bsF (aN q S R f e) i = bsF (aN q S R f e) 61 → (J2 70 0 = (clA (bsF (aN q S R f e) i)).1 ∧ J2 70 1 = (clA (bsF (aN q S R f e) i)).2) → RwL J2 q S R f i → (∀ k, 3 ≤ k → J2 70 k = J 70 k) → (∀ c, c ≠ 70 → c ≠ 72 → c ≠ 73 → J2 c = J c) → v_X7_plan_206 70 e' h 66 post' J2 := by
      intro i J2 hi1 hi2 hb t1 t2 t3 t4
      rw [hb] at t1
      have hr2 : HR J2 h g := HR_frame (fun q hq => t4 _ (by omega) (by omega) (by omega)) hr
      have bi := bs_in (aN q S R f e) i
      rw [hb] at bi
      unfold v_X7_plan_206
      by_cases c : (bsF (aN q S R f e) 61).1 < 1000
      · obtain ⟨b1, b2⟩ := bi (by omega)
        have t1' : J2 70 1 = ((bsF (aN q S R f e) 61).2 : Int) := by rw [t1.2]; unfold clA; rw [if_pos c]
        rw [t1']
        refine ⟨fun c2 => by omega, fun _ => ?_⟩
        have hT : lsF q S R f (bsF (aN q S R f e) 61).2 e < 1000 := by
          have := way_eq hq2 (R := R) hf he (show (bsF (aN q S R f e) 61).2 ≤ 60 by omega) (Or.inr (by show aN q S R f e _ < _; omega))
          omega
        generalize hn : (bsF (aN q S R f e) 61).2 = n at *
        have rw2 : RwL J2 q S R f (n + 1) := ⟨fun j s hj hs => t2.1 j s (by omega) hs, fun j s h1 hj hs => t2.2 j s h1 (by omega) hs⟩
        refine x_mark hv hr2 hh hp hS hR (by rw [t3 4 (by decide)]; exact h4) t1' (by rw [t3 6 (by decide)]; exact h6) (by omega) he hq2 hT rw2 (fun J3 fr3 hU => x_lay hv (HR_frame (fun q hq => fr3 _ (by omega)) hr2) hh hp hS hR (by rw [fr3 70 (by decide), t3 4 (by decide)]; exact h4) (by rw [fr3 70 (by decide)]; exact t1') (by rw [fr3 70 (by decide), t3 5 (by decide)]; exact h5) (by omega) hf he hq2 hT (RwL_frame (fr3 72 (by decide)) (fr3 73 (by decide)) rw2) hU (fun J4 fr4 hX => hq J4 ⟨?_, fun _ i hi => ?_⟩ (fun k hk => ?_) (fun c hc => ?_)))
        · rw [fr4 70 (by decide), fr3 70 (by decide)]; exact t1
        · rw [hn] at hi ⊢; exact hX i hi
        · rw [fr4 70 (by decide), fr3 70 (by decide)]; exact t3 k hk
        · rw [fr4 c (by omega), fr3 c (by omega)]; exact t4 c (by omega) (by omega) (by omega)
      · have t1' : J2 70 1 = -1 := by rw [t1.2]; unfold clA; rw [if_neg c]
        rw [t1']
        refine ⟨fun _ => hq J2 ⟨t1, fun c2 => absurd c2 c⟩ t3 (fun c hc => t4 c (by omega) (by omega) (by omega)), fun c2 => absurd rfl c2⟩
    unfold v_X7_plan_91
    intro ZZ hZ
    refine lpN (S := fun k => ∀ J2 : mJ, (J2 70 0 = (clA (bsF (aN q S R f e) (k + 1))).1 ∧ J2 70 1 = (clA (bsF (aN q S R f e) (k + 1))).2) → RwL J2 q S R f (k + 1) → (∀ k, 3 ≤ k → J2 70 k = J 70 k) → (∀ c, c ≠ 70 → c ≠ 72 → c ≠ 73 → J2 c = J c) → ZZ J2 ((k + 1 : Nat) : Int)) (N := 60) (fun k hk ih J2 t1 t2 t3 t4 => hZ _ _ ?_) (fun J2 t1 t2 t3 t4 => hZ _ _ ⟨fun _ => out 61 J2 (by decide) (by decide) rfl t1 t2 t3 t4, fun c => by omega⟩) J1 s1 s2 s3 (fun c h1 h2 h3 => s4 c h1 h3)
    refine ⟨fun c => by omega, fun _ => ⟨fun c => ?_, fun c => ?_⟩⟩
    · refine out (k + 1) J2 (by omega) (by omega) ?_ t1 t2 t3 t4
      rw [t1.1] at c
      have z : (bsF (aN q S R f e) (k + 1)).1 = 0 := by
        unfold clA at c
        split at c
        · change (((bsF (aN q S R f e) (k + 1)).1 : Nat) : Int) ≤ 0 at c; omega
        · change (1000 : Int) ≤ 0 at c; omega
      have := bs_stop z (61 - (k + 1))
      rw [show k + 1 + (61 - (k + 1)) = 61 by omega] at this
      exact this.symm
    · have hr2 : HR J2 h g := HR_frame (fun q hq => t4 _ (by omega) (by omega) (by omega)) hr
      have hO2 : EvO J2 e' g := EvO_frame (fun q hq => t4 _ (by omega) (by omega) (by omega)) hO
      have hW2 : WO J2 66 (gRun g).1 (gRun g).2 p (mi + 1) 60 := by
        unfold WO; rw [t4 66 (by decide) (by decide) (by decide), t4 (66 + 1) (by decide) (by decide) (by decide), t4 (66 + 2) (by decide) (by decide) (by decide)]; exact hW
      refine x_setPrices hv hr2 hh he' hO2 hW2 hp hm (by rw [t3 4 (by decide)]; exact h4) (by rw [t3 7 (by decide)]; exact h7) (by rw [t3 8 (by decide)]; exact h8) hfl (by omega) (fun J3 fr3 pk pn => ?_)
      rw [hQ] at pn
      have hr3 : HR J3 h g := HR_frame (fun q hq => fr3 _ (by omega)) hr2
      have rw3 : ∀ s, s < S → J3 72 (24 * (k + 1) + s) = ((pw 1000 (q (k + 1) s) : Nat) : Int) := fun s hs => pn s (by omega)
      have rl3 : RwL J3 q S R f (k + 1) := ⟨fun j s hj hs => by rw [fr3 73 (by decide)]; exact t2.1 j s hj hs, fun j s h1 hj hs => by rw [pk _ (by omega)]; exact t2.2 j s h1 hj hs⟩
      unfold v_X7_plan_116
      intro Z2 hZ2
      refine lpN (S := fun s => ∀ J4 : mJ, (∀ c, c ≠ 73 → J4 c = J3 c) → RwL J4 q S R f (k + 1) → (∀ s', s' < s → J4 73 (24 * (k + 1) + s') = ((lsF q S R f (k + 1) s' : Nat) : Int)) → Z2 J4 ((k + 1 : Nat) : Int) (s : Int)) (N := S) (fun s hs ih2 J4 fr4 rl4 hX => hZ2 _ _ _ ?_) (fun J4 fr4 rl4 hX => hZ2 _ _ _ ?_) J3 (fun _ _ => rfl) rl3 (fun s' h => absurd h (Nat.not_lt_zero _))
      · have hr4 : HR J4 h g := HR_frame (fun q hq => fr4 _ (by omega)) hr3
        rw [hr4.1.1, hS, show (((k + 1 : Nat) : Int) * 24 + (s : Int)).toNat = 24 * (k + 1) + s by omega]
        refine ⟨fun c => by omega, fun _ => ⟨⟨by omega, by omega⟩, ⟨by omega, by omega⟩, x_leastAt hv hr4 hp hS hR (by rw [fr4 70 (by decide), fr3 70 (by decide), t3 4 (by decide)]; exact h4) (by omega) hs (fun r hr' => rl4.1 k r (by omega) hr') (by rw [fr4 72 (by decide)]; exact rw3 s hs) (hq2 _ _) ⟨⟨by omega, by omega⟩, ?_⟩⟩⟩
        rintro J5 rfl
        refine ⟨⟨by omega, by omega⟩, ?_⟩
        rintro _ rfl
        refine ih2 _ (fun c hc => by rw [up2_n _ _ _ hc]; exact fr4 c hc) ⟨fun j s' hj hs' => ?_, fun j s' h1 hj hs' => ?_⟩ (fun s' hs' => ?_)
        · show up2 J4 (70 + 3) _ _ (70 + 3) _ = _
          rw [up2_off _ _ (Or.inr (by omega))]; exact rl4.1 j s' hj hs'
        · rw [up2_n _ _ _ (by decide)]; exact rl4.2 j s' h1 hj hs'
        · show up2 J4 (70 + 3) _ _ (70 + 3) _ = _
          by_cases ee : s' = s
          · subst ee; rw [up2_at]
          · rw [up2_off _ _ (Or.inr (by omega))]; exact hX s' (by omega)
      · have hr4 : HR J4 h g := HR_frame (fun q hq => fr4 _ (by omega)) hr3
        rw [hr4.1.1, hS]
        refine ⟨fun _ => ?_, fun c => absurd (Int.le_refl _) c⟩
        have f70 : J4 70 = J2 70 := by rw [fr4 70 (by decide), fr3 70 (by decide)]
        have rl5 : RwL J4 q S R f (k + 1 + 1) := by
          refine ⟨fun j s hj hs => ?_, fun j s h1 hj hs => ?_⟩
          · by_cases ee : j = k + 1
            · subst ee; exact hX s hs
            · exact rl4.1 j s (by omega) hs
          · by_cases ee : j = k + 1
            · subst ee; rw [fr4 72 (by decide)]; exact rw3 s hs
            · exact rl4.2 j s h1 (by omega) hs
        have cs := cl_step hq2 (R := R) hf he (show k + 1 ≤ 60 by omega)
        unfold v_X7_plan_153
        rw [f70, t3 6 (by decide), h6, show (((k + 1 : Nat) : Int) * 24 + (e : Int)).toNat = 24 * (k + 1) + e by omega, show J4 (70 + 3) (24 * (k + 1) + e) = _ from hX e he, t1.1]
        refine ⟨⟨by omega, by omega⟩, ⟨by omega, by omega⟩, ⟨by omega, by omega⟩, fun c2 => ⟨⟨by omega, by omega⟩, ?_⟩, fun c2 => ⟨⟨by omega, by omega⟩, ⟨by omega, by omega⟩, ⟨by omega, by omega⟩, ?_⟩⟩
        · rintro _ rfl
          rw [if_neg (by omega)] at cs
          refine ih J4 (by rw [f70, cs]; exact t1) rl5 (fun k hk => by rw [f70]; exact t3 k hk) (fun c h1 h2 h3 => by rw [fr4 c h3, fr3 c h2]; exact t4 c h1 h2 h3)
        · rintro J5 rfl
          rintro J6 rfl
          refine ⟨⟨by omega, by omega⟩, ?_⟩
          rintro _ rfl
          rw [if_pos (by omega)] at cs
          refine ih _ ?_ ?_ (fun k hk => ?_) (fun c h1 h2 h3 => ?_)
          · rw [cs, up2_s, up1_n _ _ (by decide), up1_s, up2_s, up1_s]; exact ⟨rfl, rfl⟩
          · exact RwL_frame (by rw [up2_n _ _ _ (by decide), up2_n _ _ _ (by decide)]) (by rw [up2_n _ _ _ (by decide), up2_n _ _ _ (by decide)]) rl5
          · rw [up2_s, up1_n _ _ (by omega), up2_s, up1_n _ _ (by omega), f70]; exact t3 k hk
          · rw [up2_n _ _ _ h1, up2_n _ _ _ h1, fr4 c h3, fr3 c h2]; exact t4 c h1 h2 h3
  have start : ∀ c m : Int, (c, m) = clA (bsF (aN q S R f e) 1) → v_X7_plan_50 70 e' h 66 post' (v_X7_plan_91 70 e' h 66 post' (v_X7_plan_206 70 e' h 66 post')) (up2 (up2 J 70 0 c) 70 1 m) 0 := by
    intro c m ecm
    unfold v_X7_plan_50
    intro ZZ hZ
    have b3 : ∀ k, 3 ≤ k → up2 (up2 J 70 0 c) 70 1 m 70 k = J 70 k := fun k hk => by rw [up2_s, up1_n _ _ (by omega), up2_s, up1_n _ _ (by omega)]
    refine lpN (S := fun s => ∀ J1 : mJ, (∀ c', c' ≠ 73 → J1 c' = up2 (up2 J 70 0 c) 70 1 m c') → (∀ s', s' < s → J1 73 s' = ((lsF q S R f 0 s' : Nat) : Int)) → ZZ J1 (s : Int)) (N := S) (fun s hs ih J1 fr hX => hZ _ _ ?_) (fun J1 fr hX => hZ _ _ ?_) _ (fun _ _ => rfl) (fun s' h => absurd h (Nat.not_lt_zero _))
    · have hr1 : HR J1 h g := HR_frame (fun q hq => by rw [fr _ (by omega), up2_n _ _ _ (by omega), up2_n _ _ _ (by omega)]) hr
      rw [hr1.1.1, hS, fr 70 (by decide), b3 5 (by decide), h5]
      have nx : ∀ v : Int, v = ((lsF q S R f 0 s : Nat) : Int) → v_X7_plan_81 70 e' h 66 post' ZZ J1 (s : Int) (s : Int) v := by
        rintro _ rfl
        unfold v_X7_plan_81
        rw [Int.toNat_natCast]
        refine ⟨⟨by omega, by omega⟩, ?_⟩
        rintro J2 rfl
        refine ⟨⟨by omega, by omega⟩, ?_⟩
        rintro _ rfl
        refine ih _ (fun c' hc => by rw [up2_n _ _ _ hc]; exact fr c' hc) (fun s' hs' => ?_)
        show up2 J1 (70 + 3) s _ (70 + 3) s' = _
        by_cases ee : s' = s
        · subst ee; rw [up2_at]
        · rw [up2_off _ _ (Or.inr ee)]; exact hX s' (by omega)
      refine ⟨fun c => by omega, fun _ => ⟨fun c2 => nx _ ?_, fun c2 => nx _ ?_⟩⟩
      · rw [lsF, if_neg (by omega)]; rfl
      · rw [lsF, if_pos (by omega)]; rfl
    · have hr1 : HR J1 h g := HR_frame (fun q hq => by rw [fr _ (by omega), up2_n _ _ _ (by omega), up2_n _ _ _ (by omega)]) hr
      rw [hr1.1.1, hS]
      refine ⟨fun _ => loop J1 ?_ ⟨fun j s hj hs => ?_, fun j s h1 hj hs => by omega⟩ (fun k hk => by rw [fr 70 (by decide)]; exact b3 k hk) (fun c' h1 h2 => by rw [fr c' h2, up2_n _ _ _ h1, up2_n _ _ _ h1]), fun c => absurd (Int.le_refl _) c⟩
      · rw [fr 70 (by decide), ← ecm, up2_s, up1_n _ _ (by decide), up1_s, up2_s, up1_s]; exact ⟨rfl, rfl⟩
      · rw [show j = 0 by omega, Nat.mul_zero, Nat.zero_add]; exact hX s hs
  have a0 : aN q S R f e 0 = if f = e then 0 else 1000000 := by unfold aN; rw [ahF]
  unfold v_X7_plan
  rw [h5, h6]
  refine ⟨fun c => ?_, fun c => ?_⟩
  · unfold v_X7_plan_24
    rintro J1 rfl
    rw [show up2 J 70 0 1000 70 5 = (f : Int) by rw [up2_s, up1_n _ _ (by decide)]; exact h5, show up2 J 70 0 1000 70 6 = (e : Int) by rw [up2_s, up1_n _ _ (by decide)]; exact h6]
    refine ⟨fun _ => ?_, fun c2 => absurd c2 c⟩
    unfold v_X7_plan_44
    rintro J2 rfl
    refine start 1000 (-1) ?_
    have a1 : aN q S R f e 0 = 1000000 := by rw [a0, if_neg (by omega)]
    rw [bsF, a1, if_neg (by show ¬ 1000000 < 1000000; decide)]; rfl
  · unfold v_X7_plan_24
    rintro J1 rfl
    rw [show up2 J 70 0 0 70 5 = (f : Int) by rw [up2_s, up1_n _ _ (by decide)]; exact h5, show up2 J 70 0 0 70 6 = (e : Int) by rw [up2_s, up1_n _ _ (by decide)]; exact h6]
    refine ⟨fun c2 => absurd c c2, fun _ => ?_⟩
    unfold v_X7_plan_44
    rintro J2 rfl
    refine start 0 0 ?_
    have a1 : aN q S R f e 0 = 0 := by rw [a0, if_pos (by omega)]
    rw [bsF, a1, if_pos (by show 0 < 1000000; decide)]; rfl
