/-! the reference plans a way -/
theorem n_isReach {J : mJ} {b p s t R : Nat} {g u : Nat → Int} (h : MH J b g u) (hp : (p : Int) < g 3) (hR : g (43 + 14 * p) = (R : Int)) (hs : s < 24) (ht : t < 24) {post' : Bool → Prop} (hq : post' (rB R s t)) : v_X12_isReach J 128 (p : Int) (s : Int) (t : Int) post' := by
  have h3 := h.2.2.2.1.2.2.2.1
  unfold rB at hq
  unfold v_X12_isReach
  refine ⟨⟨by omega, by omega⟩, n_told h p 2 (43 + 14 * p) rfl rfl ⟨by omega, by omega⟩ (by omega) ?_⟩
  rw [hR]
  refine ⟨fun c => ?_, fun c => ⟨⟨by omega, by omega⟩, n_told h p 2 (43 + 14 * p) rfl rfl ⟨by omega, by omega⟩ (by omega) ?_⟩⟩
  · rw [decide_eq_false (by omega)] at hq; exact hq
  · rw [hR]
    refine ⟨fun c2 => ?_, fun c2 => ?_⟩
    · rw [decide_eq_false (by omega)] at hq; exact hq
    · rw [decide_eq_true (by omega)] at hq; exact hq
/-- the row of prices, of a price q -/
def MCq (J : mJ) (q : Nat → Nat → Nat) (S : Nat) : Prop := ∀ i s : Nat, 1 ≤ i → i ≤ 60 → s < S → J 144 (24 * i + s) = ((pw 1000000 (q i s) : Nat) : Int)
theorem n_stepCost {J : mJ} {q : Nat → Nat → Nat} {S i s t : Nat} (hC : MCq J q S) (hi : 1 ≤ i ∧ i ≤ 60) (ht : t < S) (hS : S ≤ 24) {post' : Int → Prop} (hq : post' ((sc 1000000 q i s t : Nat) : Int)) : v_X12_stepCost J 128 (i : Int) (s : Int) (t : Int) post' := by
  unfold sc at hq
  unfold v_X12_stepCost
  refine ⟨fun c => ⟨⟨by omega, by omega⟩, ⟨by omega, by omega⟩, ⟨by omega, by omega⟩, ?_⟩, fun c => ?_⟩
  · rw [if_neg (by omega)] at hq
    rw [show (24 * (i : Int) + (t : Int)).toNat = 24 * i + t by omega, show J (128 + 16) (24 * i + t) = _ from hC i t hi.1 hi.2 ht]
    exact hq
  · rw [if_pos (by omega)] at hq; exact hq
def SoV (J : mJ) (q : Nat → Nat → Nat) (S R e n lo : Nat) : Prop := ∀ j s : Nat, lo ≤ j → j ≤ n → s < S → J 145 (24 * j + s) = ((ahF q S R e (n - j) j s : Nat) : Int)
theorem sc_M {q : Nat → Nat → Nat} (hq2 : ∀ i s, q i s ≤ 2) (i s t : Nat) : sc 1000000 q i s t ≤ 1000000 := by
  have := hq2 i t
  unfold sc pw; split
  · omega
  · split <;> omega
theorem n_solves {J : mJ} {b p S R e n : Nat} {g u : Nat → Int} {q : Nat → Nat → Nat} (h : MH J b g u) (hp : (p : Int) < g 3) (hS : g 0 = (S : Int)) (hR : g (43 + 14 * p) = (R : Int)) (hC : MCq J q S) (hq2 : ∀ i s, q i s ≤ 2) (he : e < S) (hn : n ≤ 60) {post' : mJ → Prop} (hq : ∀ J1, (∀ c, c ≠ 145 → J1 c = J c) → SoV J1 q S R e n 0 → post' J1) : v_X12_solves J 128 (p : Int) (e : Int) (n : Int) post' := by
  have h0 := h.2.2.2.1.1
  have hM : ∀ J4 : mJ, (∀ c, c ≠ 145 → J4 c = J c) → MH J4 b g u := fun J4 fr4 => MH_frame (fr4 129 (by decide)) (fun k _ _ _ => by rw [fr4 128 (by decide)]) h
  have hCf : ∀ J4 : mJ, (∀ c, c ≠ 145 → J4 c = J c) → MCq J4 q S := fun J4 fr4 => by unfold MCq; rw [fr4 144 (by decide)]; exact hC
  unfold v_X12_solves v_X12_solves_3
  intro ZZ hZ
  refine lpN (S := fun s => ∀ J1 : mJ, (∀ c, c ≠ 145 → J1 c = J c) → (∀ s', s' < s → J1 145 (24 * n + s') = ((ahF q S R e 0 n s' : Nat) : Int)) → ZZ J1 (s : Int)) (N := S) (fun s hs ih J1 fr hX => hZ _ _ (n_of (hM J1 fr) (j := 0) rfl (by decide) ?_)) (fun J1 fr hX => hZ _ _ (n_of (hM J1 fr) (j := 0) rfl (by decide) ⟨fun _ => ⟨⟨by omega, by omega⟩, ?_⟩, fun c => by omega⟩)) J (fun _ _ => rfl) (fun s' h => absurd h (Nat.not_lt_zero _))
  · have nx : ∀ v : Int, v = ((ahF q S R e 0 n s : Nat) : Int) → v_X12_solves_37 128 (p : Int) (e : Int) (n : Int) post' ZZ J1 (s : Int) (24 * (n : Int) + (s : Int)) v := by
      rintro _ rfl
      unfold v_X12_solves_37
      rw [show (24 * (n : Int) + (s : Int)).toNat = 24 * n + s by omega]
      refine ⟨⟨by omega, by omega⟩, ?_⟩
      rintro J2 rfl
      refine ⟨⟨by omega, by omega⟩, ?_⟩
      rintro _ rfl
      refine ih _ (fun c' hc => by rw [up2_n _ _ _ hc]; exact fr c' hc) (fun s' hs' => ?_)
      show up2 J1 (128 + 17) _ _ (128 + 17) _ = _
      by_cases ee : s' = s
      · subst ee; rw [up2_at]
      · rw [up2_off _ _ (Or.inr (by omega))]; exact hX s' (by omega)
    refine ⟨fun c => by omega, fun _ => ⟨⟨by omega, by omega⟩, ⟨by omega, by omega⟩, fun c => nx _ ?_, fun c => nx _ ?_⟩⟩
    · rw [ahF, if_neg (by omega)]; rfl
    · rw [ahF, if_pos (by omega)]; rfl
  · rintro _ rfl
    unfold v_X12_solves_49
    intro Z2 hZ2
    have k0 := lpN (S := fun k => ∀ J2 : mJ, (∀ c, c ≠ 145 → J2 c = J c) → SoV J2 q S R e n (n - k) → ∀ v : Int, v = (n : Int) - 1 - (k : Int) → Z2 J2 v) (N := n) (fun k hk ih J2 fr2 hY v ev => hZ2 _ _ ?_) (fun J2 fr2 hY v ev => hZ2 _ _ ⟨fun _ => hq J2 fr2 (by rw [Nat.sub_self] at hY; exact hY), fun c => by omega⟩)
    · refine k0 J1 fr (fun j s h1 h2 h3 => ?_) _ (by omega)
      rw [show j = n by omega, Nat.sub_self]; exact hX s h3
    · obtain ⟨i, rfl⟩ : ∃ i : Nat, v = (i : Int) := ⟨v.toNat, by omega⟩
      have hi : i < n := by omega
      refine ⟨fun c => by omega, fun _ => ?_⟩
      unfold v_X12_solves_57
      intro Z3 hZ3
      refine lpN (S := fun s => ∀ J3 : mJ, (∀ c, c ≠ 145 → J3 c = J c) → SoV J3 q S R e n (i + 1) → (∀ s', s' < s → J3 145 (24 * i + s') = ((ahF q S R e (n - i) i s' : Nat) : Int)) → Z3 J3 (i : Int) (s : Int)) (N := S) (fun s hs ih3 J3 fr3 hA hB => hZ3 _ _ _ (n_of (hM J3 fr3) (j := 0) rfl (by decide) ⟨fun c => by omega, fun _ => ?_⟩)) (fun J3 fr3 hA hB => hZ3 _ _ _ (n_of (hM J3 fr3) (j := 0) rfl (by decide) ⟨fun _ => ⟨⟨by omega, by omega⟩, ?_⟩, fun c => by omega⟩)) J2 fr2 (fun j s h1 h2 h3 => hY j s (by omega) h2 h3) (fun s' h => absurd h (Nat.not_lt_zero _))
      · unfold v_X12_solves_75
        intro Z4 hZ4
        have ea : ahF q S R e (n - i) i s = minF (rB R s) (fun t => sc 1000000 q (i + 1) s t + ahF q S R e (n - (i + 1)) (i + 1) t) 1000000 S := by
          rw [show n - i = (n - (i + 1)) + 1 by omega, ahF]
        refine lpN (S := fun t => Z4 J3 (i : Int) (s : Int) ((minF (rB R s) (fun t => sc 1000000 q (i + 1) s t + ahF q S R e (n - (i + 1)) (i + 1) t) 1000000 t : Nat) : Int) (t : Int)) (N := S) (fun t ht ih4 => hZ4 _ _ _ _ _ (n_of (hM J3 fr3) (j := 0) rfl (by decide) ⟨fun c => by omega, fun _ => n_isReach (hM J3 fr3) hp hR (by omega) (by omega) ⟨fun c => ⟨⟨by omega, by omega⟩, ?_⟩, fun c => ⟨⟨by omega, by omega⟩, ?_⟩⟩⟩)) (hZ4 _ _ _ _ _ (n_of (hM J3 fr3) (j := 0) rfl (by decide) ⟨fun _ => ?_, fun c => by omega⟩))
        · rw [minF, if_pos c] at ih4
          have m1 := sc_M hq2 (i + 1) s t
          have m2 := ah_M (q := q) (S := S) (R := R) (e := e) (n - (i + 1)) (i + 1) t
          rw [show (i : Int) + 1 = ((i + 1 : Nat) : Int) by omega]
          refine n_stepCost (hCf J3 fr3) (by omega) ht (by omega) ?_
          rw [show (24 * ((i + 1 : Nat) : Int) + (t : Int)).toNat = 24 * (i + 1) + t by omega, show J3 (128 + 17) (24 * (i + 1) + t) = _ from hA (i + 1) t (by omega) (by omega) ht]
          refine ⟨⟨by omega, by omega⟩, ⟨by omega, by omega⟩, ⟨by omega, by omega⟩, ⟨by omega, by omega⟩, ⟨by omega, by omega⟩, ?_⟩
          rintro _ rfl
          refine ⟨fun c2 => ⟨⟨by omega, by omega⟩, ?_⟩, fun c2 => ⟨⟨by omega, by omega⟩, ?_⟩⟩
          · rintro _ rfl
            rw [show min (minF (rB R s) (fun t => sc 1000000 q (i + 1) s t + ahF q S R e (n - (i + 1)) (i + 1) t) 1000000 t) (sc 1000000 q (i + 1) s t + ahF q S R e (n - (i + 1)) (i + 1) t) = minF (rB R s) (fun t => sc 1000000 q (i + 1) s t + ahF q S R e (n - (i + 1)) (i + 1) t) 1000000 t by omega] at ih4
            exact ih4
          · rintro _ rfl
            rw [show min (minF (rB R s) (fun t => sc 1000000 q (i + 1) s t + ahF q S R e (n - (i + 1)) (i + 1) t) 1000000 t) (sc 1000000 q (i + 1) s t + ahF q S R e (n - (i + 1)) (i + 1) t) = sc 1000000 q (i + 1) s t + ahF q S R e (n - (i + 1)) (i + 1) t by omega] at ih4
            exact ih4
        · rintro _ rfl
          rw [minF, if_neg (by rw [c]; decide)] at ih4
          exact ih4
        · unfold v_X12_solves_152
          rw [← ea, show (24 * (i : Int) + (s : Int)).toNat = 24 * i + s by omega]
          refine ⟨⟨by omega, by omega⟩, ⟨by omega, by omega⟩, ⟨by omega, by omega⟩, ?_⟩
          rintro J5 rfl
          refine ⟨⟨by omega, by omega⟩, ?_⟩
          rintro _ rfl
          refine ih3 _ (fun c' hc => by rw [up2_n _ _ _ hc]; exact fr3 c' hc) (fun j s' h1 h2 h3 => ?_) (fun s' hs' => ?_)
          · show up2 J3 (128 + 17) _ _ (128 + 17) _ = _
            rw [up2_off _ _ (Or.inr (by omega))]; exact hA j s' h1 h2 h3
          · show up2 J3 (128 + 17) _ _ (128 + 17) _ = _
            by_cases ee : s' = s
            · subst ee; rw [up2_at]
            · rw [up2_off _ _ (Or.inr (by omega))]; exact hB s' (by omega)
      · rintro _ rfl
        refine ih J3 fr3 (fun j s' h1 h2 h3 => ?_) _ (by omega)
        by_cases ee : j = i
        · subst ee; exact hB s' h3
        · exact hA j s' (by omega) h2 h3
theorem bs_60 {q : Nat → Nat → Nat} (hq2 : ∀ i s, q i s ≤ 2) {S R f e k : Nat} (hk : k ≤ 61) (h : (bsF (aN q S R f e) k).1 < 1000000) : (bsF (aN q S R f e) k).1 ≤ 60 ∧ (bsF (aN q S R f e) k).2 ≤ 60 := by
  obtain ⟨h1, h2⟩ := bs_in (aN q S R f e) k h
  have := ah_E hq2 (S := S) (R := R) (e := e) (bsF (aN q S R f e) k).2 0 f (by show aN q S R f e _ < _; omega)
  change aN q S R f e _ ≤ _ at this
  omega
theorem n_isWay {J : mJ} {b p S R f e : Nat} {g u : Nat → Int} {q : Nat → Nat → Nat} (h : MH J b g u) (hp : (p : Int) < g 3) (hS : g 0 = (S : Int)) (hR : g (43 + 14 * p) = (R : Int)) (hC : MCq J q S) (hq2 : ∀ i s, q i s ≤ 2) (hf : f < S) (he : e < S) {post' : Bool → mJ → Prop} (hq0 : ¬ (bsF (aN q S R f e) 61).1 < 1000 → ∀ J1, MH J1 b g u → (∀ c, c ≠ 128 → c ≠ 145 → c ≠ 146 → J1 c = J c) → post' false J1) (hq1 : (bsF (aN q S R f e) 61).1 < 1000 → ∀ J1, MH J1 b g u → (∀ c, c ≠ 128 → c ≠ 145 → c ≠ 146 → J1 c = J c) → J1 128 40 = ((bsF (aN q S R f e) 61).1 : Int) → J1 128 41 = ((bsF (aN q S R f e) 61).2 : Int) → (∀ i, i < (bsF (aN q S R f e) 61).2 → J1 146 i = ((wyF q S R f e (bsF (aN q S R f e) 61).2 (i + 1) : Nat) : Int)) → post' true J1) : v_X12_isWay J 128 (p : Int) (f : Int) (e : Int) post' := by
  have h0 := h.2.2.2.1.1
  have hM : ∀ J4 : mJ, J4 129 = J 129 → (∀ k, k ≠ 40 → k ≠ 41 → J4 128 k = J 128 k) → MH J4 b g u := fun J4 e1 e2 => MH_frame e1 (fun k h1 h2 _ => e2 k (by omega) (by omega)) h
  unfold v_X12_isWay
  rintro J1 rfl
  unfold v_X12_isWay_10
  intro ZZ hZ
  refine lpN (S := fun n => ∀ J1 : mJ, (∀ c, c ≠ 128 → c ≠ 145 → J1 c = J c) → (∀ k, k ≠ 40 → k ≠ 41 → J1 128 k = J 128 k) → J1 128 40 = ((bsF (aN q S R f e) n).1 : Int) → ((bsF (aN q S R f e) n).1 < 1000000 → J1 128 41 = ((bsF (aN q S R f e) n).2 : Int)) → ZZ J1 (n : Int)) (N := 61) (fun n hn ih J1 f1 f2 f3 f4 => hZ _ _ ?_) (fun J1 f1 f2 f3 f4 => hZ _ _ ⟨fun _ => ?_, fun c => by omega⟩) _ (fun c h1 h2 => up2_n _ _ _ h1) (fun k h1 h2 => by rw [up2_s, up1_n _ _ h1]) (by rw [up2_s, up1_s]; rfl) (fun c => absurd c (Nat.lt_irrefl _))
  · refine ⟨fun c => by omega, fun _ => n_solves (hM J1 (f1 129 (by decide) (by decide)) f2) hp hS hR (by unfold MCq; rw [f1 144 (by decide) (by decide)]; exact hC) hq2 he (by omega) (fun J2 fr2 hSo => ?_)⟩
    have ha : J2 145 f = ((aN q S R f e n : Nat) : Int) := by
      have := hSo 0 f (by omega) (by omega) hf
      rw [Nat.mul_zero, Nat.zero_add, Nat.sub_zero] at this; exact this
    rw [Int.toNat_natCast, show J2 (128 + 17) f = _ from ha, show J2 128 40 = ((bsF (aN q S R f e) n).1 : Int) by rw [fr2 128 (by decide)]; exact f3]
    rw [bsF] at ih
    refine ⟨⟨by omega, by omega⟩, fun c => ⟨⟨by omega, by omega⟩, ?_⟩, fun c => ⟨⟨by omega, by omega⟩, ?_⟩⟩
    · rintro J3 rfl
      rintro J4 rfl
      refine ⟨⟨by omega, by omega⟩, ?_⟩
      rintro _ rfl
      rw [if_pos (by omega)] at ih
      refine ih _ (fun c h1 h2 => ?_) (fun k h1 h2 => ?_) ?_ (fun _ => ?_)
      · rw [up2_n _ _ _ h1, up2_n _ _ _ h1, fr2 c h2]; exact f1 c h1 h2
      · rw [up2_s, up1_n _ _ h2, up2_s, up1_n _ _ h1, fr2 128 (by decide)]; exact f2 k h1 h2
      · rw [up2_s, up1_n _ _ (by decide), up2_s, up1_s]
      · rw [up2_s, up1_s]
    · rintro _ rfl
      rw [if_neg (by omega)] at ih
      refine ih J2 (fun c h1 h2 => by rw [fr2 c h2]; exact f1 c h1 h2) (fun k h1 h2 => by rw [fr2 128 (by decide)]; exact f2 k h1 h2) (by rw [fr2 128 (by decide)]; exact f3) (fun c2 => by rw [fr2 128 (by decide)]; exact f4 c2)
  · unfold v_X12_isWay_63
    have b6 := bs_60 hq2 (S := S) (R := R) (f := f) (e := e) (Nat.le_refl 61)
    rw [f3]
    refine ⟨fun c => ?_, fun c => hq0 (by omega) J1 (hM J1 (f1 129 (by decide) (by decide)) f2) (fun c h1 h2 h3 => f1 c h1 h2)⟩
    obtain ⟨b1, b2⟩ := b6 (by omega)
    have f41 := f4 (by omega)
    rw [f41]
    clear f4
    have hq1 := hq1 (by omega)
    obtain ⟨bi1, bi2⟩ := bs_in (aN q S R f e) 61 (by omega)
    have hT : lsF q S R f (bsF (aN q S R f e) 61).2 e < 1000 := by
      have := way_eq hq2 (R := R) hf he b2 (Or.inr (by show aN q S R f e _ < _; omega))
      omega
    generalize hn : (bsF (aN q S R f e) 61).2 = n at *
    generalize hc : (bsF (aN q S R f e) 61).1 = cc at *
    refine n_solves (hM J1 (f1 129 (by decide) (by decide)) f2) hp hS hR (by unfold MCq; rw [f1 144 (by decide) (by decide)]; exact hC) hq2 he b2 (fun J2 fr2 hSo => ?_)
    have w := wy_in hq2 hf he hT b2
    unfold v_X12_isWay_91
    intro Z2 hZ2
    refine lpN (S := fun i => ∀ J3 : mJ, (∀ c, c ≠ 146 → J3 c = J2 c) → (∀ j, j < i → J3 146 j = ((wyF q S R f e n (j + 1) : Nat) : Int)) → Z2 J3 ((wyF q S R f e n i : Nat) : Int) (i : Int)) (N := n) (fun i hi ih J3 fr3 hX => hZ2 _ _ _ ?_) (fun J3 fr3 hX => hZ2 _ _ _ ?_) J2 (fun _ _ => rfl) (fun j hj => absurd hj (Nat.not_lt_zero _))
    · have e128 : J3 128 = J1 128 := by rw [fr3 128 (by decide), fr2 128 (by decide)]
      have e129 : J3 129 = J 129 := by rw [fr3 129 (by decide), fr2 129 (by decide)]; exact f1 129 (by decide) (by decide)
      have hM3 : MH J3 b g u := hM J3 e129 (fun k h1 h2 => by rw [e128]; exact f2 k h1 h2)
      have hC3 : MCq J3 q S := by unfold MCq; rw [fr3 144 (by decide), fr2 144 (by decide), f1 144 (by decide) (by decide)]; exact hC
      have hS3 : SoV J3 q S R e n 0 := by unfold SoV; rw [fr3 145 (by decide)]; exact hSo
      rw [show J3 128 41 = (n : Int) by rw [e128]; exact f41]
      obtain ⟨w1, w2⟩ := w i (by omega)
      obtain ⟨r, a1, a2, a3⟩ := wy_step hq2 hi w1 hT w2
      have ew : wyF q S R f e n (i + 1) = r := by rw [wyF, fst_isFs S a1, Int.toNat_natCast]
      rw [ew] at ih
      refine ⟨fun c => by omega, fun _ => ?_⟩
      unfold v_X12_isWay_103
      intro Z3 hZ3
      refine lpN (S := fun t => Z3 J3 ((wyF q S R f e n i : Nat) : Int) (i : Int) (t : Int)) (N := r) (fun t ht ih3 => hZ3 _ _ _ _ (n_isReach hM3 hp hR (by omega) (by omega) ?_)) (hZ3 _ _ _ _ (n_isReach hM3 hp hR (by omega) (by omega) ?_))
      · have hno := a1.2.2.2 t (Nat.zero_le _) ht
        unfold wyP at hno
        refine ⟨fun c => ⟨⟨by omega, by omega⟩, ?_⟩, fun c => ⟨⟨by omega, by omega⟩, ?_⟩⟩
        · rintro _ rfl
          exact ih3
        · rw [c, Bool.true_and, decide_eq_false_iff_not] at hno
          have m1 := sc_M hq2 (i + 1) (wyF q S R f e n i) t
          have m2 := ah_M (q := q) (S := S) (R := R) (e := e) (n - (i + 1)) (i + 1) t
          rw [show (i : Int) + 1 = ((i + 1 : Nat) : Int) by omega]
          refine n_stepCost hC3 (by omega) (by omega) (by omega) ?_
          rw [show (24 * ((i + 1 : Nat) : Int) + (t : Int)).toNat = 24 * (i + 1) + t by omega, show J3 (128 + 17) (24 * (i + 1) + t) = _ from hS3 (i + 1) t (by omega) (by omega) (by omega), show (24 * (i : Int) + ((wyF q S R f e n i : Nat) : Int)).toNat = 24 * i + wyF q S R f e n i by omega, show J3 (128 + 17) (24 * i + wyF q S R f e n i) = _ from hS3 i _ (by omega) (by omega) w1]
          refine ⟨⟨by omega, by omega⟩, ⟨by omega, by omega⟩, ⟨by omega, by omega⟩, ⟨by omega, by omega⟩, ⟨by omega, by omega⟩, ⟨by omega, by omega⟩, ⟨by omega, by omega⟩, ⟨by omega, by omega⟩, fun c2 => absurd (by omega) hno, fun c2 => ⟨⟨by omega, by omega⟩, ?_⟩⟩
          rintro _ rfl
          exact ih3
      · have hyes := a1.2.2.1
        unfold wyP at hyes
        rw [Bool.and_eq_true, decide_eq_true_eq] at hyes
        refine ⟨fun c => by rw [hyes.1] at c; exact Bool.noConfusion c, fun c => ⟨⟨by omega, by omega⟩, ?_⟩⟩
        have m1 := sc_M hq2 (i + 1) (wyF q S R f e n i) r
        have m2 := ah_M (q := q) (S := S) (R := R) (e := e) (n - (i + 1)) (i + 1) r
        rw [show (i : Int) + 1 = ((i + 1 : Nat) : Int) by omega]
        refine n_stepCost hC3 (by omega) (by omega) (by omega) ?_
        rw [show (24 * ((i + 1 : Nat) : Int) + (r : Int)).toNat = 24 * (i + 1) + r by omega, show J3 (128 + 17) (24 * (i + 1) + r) = _ from hS3 (i + 1) r (by omega) (by omega) (by omega), show (24 * (i : Int) + ((wyF q S R f e n i : Nat) : Int)).toNat = 24 * i + wyF q S R f e n i by omega, show J3 (128 + 17) (24 * i + wyF q S R f e n i) = _ from hS3 i _ (by omega) (by omega) w1]
        refine ⟨⟨by omega, by omega⟩, ⟨by omega, by omega⟩, ⟨by omega, by omega⟩, ⟨by omega, by omega⟩, ⟨by omega, by omega⟩, ⟨by omega, by omega⟩, ⟨by omega, by omega⟩, ⟨by omega, by omega⟩, fun _ => ?_, fun c2 => absurd (by omega) c2⟩
        unfold v_X12_isWay_165
        rw [Int.toNat_natCast]
        refine ⟨⟨by omega, by omega⟩, ?_⟩
        rintro J4 rfl
        refine ⟨⟨by omega, by omega⟩, ?_⟩
        rintro _ rfl
        refine ih _ (fun c hc => by rw [up2_n _ _ _ hc]; exact fr3 c hc) (fun j hj => ?_)
        show up2 J3 (128 + 18) i _ (128 + 18) j = _
        by_cases ee : j = i
        · subst ee; rw [up2_at, ew]
        · rw [up2_off _ _ (Or.inr ee)]; exact hX j (by omega)
    · have e128 : J3 128 = J1 128 := by rw [fr3 128 (by decide), fr2 128 (by decide)]
      have e129 : J3 129 = J 129 := by rw [fr3 129 (by decide), fr2 129 (by decide)]; exact f1 129 (by decide) (by decide)
      rw [show J3 128 41 = (n : Int) by rw [e128]; exact f41]
      exact ⟨fun _ => hq1 J3 (hM J3 e129 (fun k h1 h2 => by rw [e128]; exact f2 k h1 h2)) (fun c h1 h2 h3 => by rw [fr3 c h3, fr2 c h2]; exact f1 c h1 h2) (by rw [e128]; exact f3) (by rw [e128]; exact f41) hX, fun c => absurd (Int.le_refl _) c⟩
