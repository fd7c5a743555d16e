/-! the sounds of one's shoe, by minutes and numbers -/
def hsB (g r : Nat → Int) (p k : Nat) : Bool := decide (gShoe g p (r (2 + 4 * k)) = r (3 + 4 * k))
def lxS (r : Nat → Int) (a b : Nat) : Prop := r (2 + 4 * a) < r (2 + 4 * b) ∨ r (2 + 4 * a) = r (2 + 4 * b) ∧ a < b
def IsOr (r : Nat → Int) (Q : Nat → Bool) (N len : Nat) (w : Nat → Nat) : Prop := (∀ i, i < len → w i < N ∧ Q (w i) = true) ∧ (∀ i j, i < j → j < len → lxS r (w i) (w j)) ∧ ∀ k, k < N → Q k = true → ∃ i, i < len ∧ w i = k
theorem or_cong {r : Nat → Int} {Q Q' : Nat → Bool} {N len : Nat} {w w' : Nat → Nat} (hQ : ∀ k, k < N → Q k = Q' k) (hw : ∀ i, i < len → w i = w' i) (h : IsOr r Q N len w) : IsOr r Q' N len w' := by
  obtain ⟨h1, h2, h3⟩ := h
  refine ⟨fun i hi => ?_, fun i j hij hj => ?_, fun k hk hq => ?_⟩
  · rw [← hw i hi]; exact ⟨(h1 i hi).1, by rw [← hQ _ (h1 i hi).1]; exact (h1 i hi).2⟩
  · rw [← hw i (by omega), ← hw j hj]; exact h2 i j hij hj
  · obtain ⟨i, hi, e⟩ := h3 k hk (by rw [hQ k hk]; exact hq)
    exact ⟨i, hi, by rw [← hw i hi]; exact e⟩
theorem or_uniq {r : Nat → Int} {Q : Nat → Bool} {N len len' : Nat} {w w' : Nat → Nat} (h : IsOr r Q N len w) (h' : IsOr r Q N len' w') : len = len' ∧ ∀ i, i < len → w i = w' i := by
  obtain ⟨a1, a2, a3⟩ := h
  obtain ⟨b1, b2, b3⟩ := h'
  have key : ∀ i, i < len → i < len' → w i = w' i := by
    intro i
    induction i using Nat.strongRecOn with
    | ind i ih =>
      intro hi hi'
      obtain ⟨j, hj, ej⟩ := b3 (w i) (a1 i hi).1 (a1 i hi).2
      obtain ⟨j', hj', ej'⟩ := a3 (w' i) (b1 i hi').1 (b1 i hi').2
      by_cases c : j = i
      · rw [← ej, c]
      · exfalso
        by_cases c2 : j < i
        · have e := ih j c2 (by omega) hj
          rw [ej] at e
          have := a2 j i c2 hi
          rw [e] at this
          rcases this with t | t <;> omega
        · have t1 := b2 i j (by omega) hj
          rw [ej, ← ej'] at t1
          by_cases c3 : j' < i
          · have e := ih j' c3 (by omega) (by omega)
            rw [ej'] at e
            have := b2 j' i c3 hi'
            rw [← e] at this
            rcases this with t | t <;> omega
          · by_cases c4 : j' = i
            · rw [c4] at t1; rcases t1 with t | t <;> omega
            · have t2 := a2 i j' (by omega) hj'
              unfold lxS at t1 t2
              omega
  have hl : len = len' := by
    by_cases c : len < len'
    · exfalso
      obtain ⟨j, hj, ej⟩ := a3 (w' len) (b1 len c).1 (b1 len c).2
      have e := key j hj (by omega)
      have := b2 j len hj c
      rw [← e, ej] at this
      rcases this with t | t <;> omega
    · by_cases c2 : len' < len
      · exfalso
        obtain ⟨j, hj, ej⟩ := b3 (w len') (a1 len' c2).1 (a1 len' c2).2
        have e := key j (by omega) hj
        have := a2 j len' hj c2
        rw [e, ej] at this
        rcases this with t | t <;> omega
      · omega
  exact ⟨hl, fun i hi => key i hi (by omega)⟩
theorem inj_le : ∀ (N len : Nat) (w : Nat → Nat), (∀ i, i < len → w i < N) → (∀ i j, i < j → j < len → w i ≠ w j) → len ≤ N
  | 0, len, w, h1, _ => by
    by_cases c : len = 0
    · omega
    · have := h1 0 (by omega); omega
  | N + 1, len, w, h1, h2 => by
    by_cases c : ∃ i, i < len ∧ w i = N
    · obtain ⟨i0, hi0, e0⟩ := c
      have := inj_le N (len - 1) (fun i => if i < i0 then w i else w (i + 1)) (fun i hi => by
        show (if i < i0 then w i else w (i + 1)) < N
        by_cases b : i < i0
        · rw [if_pos b]
          have h3 := h1 i (by omega)
          have h4 := h2 i i0 b hi0
          omega
        · rw [if_neg b]
          have h3 := h1 (i + 1) (by omega)
          have h4 := h2 i0 (i + 1) (by omega) (by omega)
          omega) (fun i j hij hj => by
        show (if i < i0 then w i else w (i + 1)) ≠ (if j < i0 then w j else w (j + 1))
        by_cases b : i < i0
        · rw [if_pos b]
          by_cases b2 : j < i0
          · rw [if_pos b2]; exact h2 i j hij (by omega)
          · rw [if_neg b2]; exact h2 i (j + 1) (by omega) (by omega)
        · rw [if_neg b, if_neg (by omega)]; exact h2 (i + 1) (j + 1) (by omega) (by omega))
      omega
    · have := inj_le N len w (fun i hi => by
        have h3 := h1 i hi
        have : w i ≠ N := fun e => c ⟨i, hi, e⟩
        omega) h2
      omega
theorem or_len {r : Nat → Int} {Q : Nat → Bool} {N len : Nat} {w : Nat → Nat} (h : IsOr r Q N len w) : len ≤ N :=
  inj_le N len w (fun i hi => (h.1 i hi).1) (fun i j hij hj e => by
    have := h.2.1 i j hij hj
    rw [e] at this
    rcases this with t | t <;> omega)
/-- one more put in -/
def insW (w : Nat → Nat) (pos k : Nat) : Nat → Nat := fun j => if j < pos then w j else if j = pos then k else w (j - 1)
theorem or_ins {r : Nat → Int} {Q Q' : Nat → Bool} {N len pos k : Nat} {w : Nat → Nat} (h : IsOr r Q N len w) (hk : k < N) (hq : Q' k = true) (hQ : ∀ j, j < N → j ≠ k → Q' j = Q j) (hn : Q k = false) (hp : pos ≤ len) (h1 : ∀ i, i < pos → lxS r (w i) k) (h2 : ∀ i, pos ≤ i → i < len → lxS r k (w i)) : IsOr r Q' N (len + 1) (insW w pos k) := by
  obtain ⟨a1, a2, a3⟩ := h
  have ne : ∀ i, i < len → w i ≠ k := fun i hi e => by have := (a1 i hi).2; rw [e, hn] at this; exact Bool.noConfusion this
  refine ⟨fun i hi => ?_, fun i j hij hj => ?_, fun q hqN hqq => ?_⟩
  · unfold insW
    by_cases b : i < pos
    · rw [if_pos b]; have := a1 i (by omega); exact ⟨this.1, by rw [hQ _ this.1 (ne i (by omega))]; exact this.2⟩
    · rw [if_neg b]
      by_cases e : i = pos
      · rw [if_pos e]; exact ⟨hk, hq⟩
      · rw [if_neg e]; have := a1 (i - 1) (by omega); exact ⟨this.1, by rw [hQ _ this.1 (ne (i - 1) (by omega))]; exact this.2⟩
  · unfold insW
    by_cases b : i < pos
    · rw [if_pos b]
      by_cases b2 : j < pos
      · rw [if_pos b2]; exact a2 i j hij (by omega)
      · rw [if_neg b2]
        by_cases e : j = pos
        · rw [if_pos e]; exact h1 i b
        · rw [if_neg e]; exact a2 i (j - 1) (by omega) (by omega)
    · rw [if_neg b, if_neg (show ¬ j < pos by omega), if_neg (show ¬ j = pos by omega)]
      by_cases e : i = pos
      · rw [if_pos e]; exact h2 (j - 1) (by omega) (by omega)
      · rw [if_neg e]; exact a2 (i - 1) (j - 1) (by omega) (by omega)
  · by_cases e : q = k
    · exact ⟨pos, by omega, by unfold insW; rw [if_neg (Nat.lt_irrefl _), if_pos rfl, e]⟩
    · obtain ⟨i, hi, ei⟩ := a3 q hqN (by rw [← hQ q hqN e]; exact hqq)
      by_cases b : i < pos
      · exact ⟨i, by omega, by unfold insW; rw [if_pos b]; exact ei⟩
      · exact ⟨i + 1, by omega, by unfold insW; rw [if_neg (by omega), if_neg (by omega), Nat.add_sub_cancel]; exact ei⟩
theorem or_ext {r : Nat → Int} {Q Q' : Nat → Bool} {N len : Nat} {w : Nat → Nat} (hQ : ∀ k, k < N → Q k = Q' k) (h : IsOr r Q N len w) : IsOr r Q' N len w := or_cong hQ (fun _ _ => rfl) h
def FwI (J0 J : mJ) (r : Nat → Int) (Q : Nat → Bool) (rise : Int) (len : Nat) (w : Nat → Nat) : Prop := J 89 0 = rise ∧ J 89 1 = (len : Int) ∧ (∀ i, i < len → J 90 i = (w i : Int)) ∧ IsOr r Q (r 0).toNat len w ∧ (∀ c, (c < 89 ∨ 91 < c) → J c = J0 c)
theorem x_insert {J0 J : mJ} {o k len : Nat} {r : Nat → Int} {Q Q' : Nat → Bool} {rise : Int} {w : Nat → Nat} (rv : RdV r) (rr : RdR J0 o r) (ho : o ≤ 60) (h : FwI J0 J r Q rise len w) (hk : (k : Int) < r 0) (hlt : ∀ i, i < len → w i < k) (hq' : Q' k = true) (hQ : ∀ j, j < (r 0).toNat → j ≠ k → Q' j = Q j) (hn : Q k = false) {post' : mJ → Prop} (hq : ∀ J1 w', FwI J0 J1 r Q' rise (len + 1) w' → (∀ i, i < len + 1 → w' i < k + 1) → post' J1) : v_X10_insert J 89 o (k : Int) post' := by
  obtain ⟨f0, f1, f2, f3, f4⟩ := h
  have r0 := rv.1
  have hl := or_len f3
  have hlk : len ≤ k := inj_le k len w hlt (fun i j hij hj e => by
    have := f3.2.1 i j hij hj
    rw [e] at this
    rcases this with t | t <;> omega)
  have mins : ∀ J1 : mJ, (∀ c, (c < 89 ∨ 91 < c) → J1 c = J0 c) → ∀ j : Nat, (j : Int) < r 0 → J1 (o + 2) j = r (2 + 4 * j) := fun J1 fr j hj => by rw [fr _ (by omega)]; exact (rr.2 j hj).2.1
  unfold v_X10_insert
  rw [f1]
  rintro _ rfl
  unfold v_X10_insert_5
  intro ZZ hZ
  have fin : ∀ i : Nat, i ≤ len → ∀ J1 : mJ, J1 89 0 = rise → J1 89 1 = (len : Int) → (∀ j, j < i → J1 90 j = (w j : Int)) → (∀ j, i ≤ j → j < len → J1 90 (j + 1) = (w j : Int)) → (∀ j, i ≤ j → j < len → r (2 + 4 * k) < r (2 + 4 * w j)) → (∀ c, (c < 89 ∨ 91 < c) → J1 c = J0 c) → (∀ j, j < i → r (2 + 4 * w j) ≤ r (2 + 4 * k)) → v_X10_insert_51 89 o (k : Int) post' J1 (i : Int) := by
    intro i hi J1 g0 g1 g2 g3 g4 g5 g6
    have hI := or_ins f3 (k := k) (pos := i) (by omega) hq' hQ hn hi (fun j hj => by
      have h1 := g6 j hj
      have h2 := hlt j (by omega)
      unfold lxS; omega) (fun j h1 h2 => Or.inl (g4 j h1 h2))
    have hl2 := or_len hI
    unfold v_X10_insert_51
    rw [Int.toNat_natCast]
    refine ⟨⟨by omega, by omega⟩, ?_⟩
    rintro J2 rfl
    have e1 : up2 J1 (89 + 1) i (k : Int) 89 = J1 89 := up2_n _ _ _ (by decide)
    rw [e1, g1]
    refine ⟨⟨by omega, by omega⟩, ?_⟩
    rintro J3 rfl
    refine hq _ (insW w i k) ⟨?_, ?_, fun j hj => ?_, hI, fun c hc => ?_⟩ (fun j hj => ?_)
    · rw [up2_s, up1_n _ _ (by decide), e1]; exact g0
    · rw [up2_s, up1_s]; omega
    · rw [up2_n _ _ _ (by decide)]
      show up2 J1 (89 + 1) i _ (89 + 1) j = _
      rw [up2_s]
      unfold insW
      by_cases b : j < i
      · rw [if_pos b, up1_n _ _ (by omega)]; exact g2 j b
      · rw [if_neg b]
        by_cases e : j = i
        · rw [if_pos e, e, up1_s]
        · rw [if_neg e, up1_n _ _ e]
          have := g3 (j - 1) (by omega) (by omega)
          rw [show j - 1 + 1 = j by omega] at this; exact this
    · rw [up2_n _ _ _ (by omega), up2_n _ _ _ (by omega)]; exact g5 c hc
    · unfold insW
      by_cases b : j < i
      · rw [if_pos b]; have := hlt j (by omega); omega
      · rw [if_neg b]
        by_cases e : j = i
        · rw [if_pos e]; omega
        · rw [if_neg e]; have := hlt (j - 1) (by omega); omega
  have key : ∀ d i : Nat, d = i → i ≤ len → ∀ J1 : mJ, J1 89 0 = rise → J1 89 1 = (len : Int) → (∀ j, j < i → J1 90 j = (w j : Int)) → (∀ j, i ≤ j → j < len → J1 90 (j + 1) = (w j : Int)) → (∀ j, i ≤ j → j < len → r (2 + 4 * k) < r (2 + 4 * w j)) → (∀ c, (c < 89 ∨ 91 < c) → J1 c = J0 c) → ZZ J1 (i : Int) := by
    intro d
    induction d with
    | zero =>
      intro i ei hi J1 g0 g1 g2 g3 g4 g5
      subst ei
      exact hZ _ _ ⟨fun _ => fin 0 hi J1 g0 g1 g2 g3 g4 g5 (fun j hj => absurd hj (Nat.not_lt_zero _)), fun c => absurd (Int.le_refl _) c⟩
    | succ d ih =>
      intro i ei hi J1 g0 g1 g2 g3 g4 g5
      have eo := g2 (i - 1) (by omega)
      have wl := hlt (i - 1) (by omega)
      refine hZ _ _ ⟨fun c => by omega, fun _ => ?_⟩
      rw [show ((i : Int) - 1).toNat = i - 1 by omega]
      rw [show J1 (89 + 1) (i - 1) = _ from eo]
      simp only [Int.toNat_natCast]
      rw [mins J1 g5 (w (i - 1)) (by omega), mins J1 g5 k hk]
      refine ⟨⟨by omega, by omega⟩, ⟨by omega, by omega⟩, ⟨by omega, by omega⟩, ⟨by omega, by omega⟩, fun c => fin i hi J1 g0 g1 g2 g3 g4 g5 (fun j hj => ?_), fun c => ⟨⟨by omega, by omega⟩, ⟨by omega, by omega⟩, ⟨by omega, by omega⟩, ?_⟩⟩
      · by_cases e : j = i - 1
        · rw [e]; exact c
        · have := f3.2.1 j (i - 1) (by omega) (by omega)
          unfold lxS at this; omega
      · rintro J2 rfl
        refine ⟨⟨by omega, by omega⟩, ?_⟩
        intro y ey
        rw [show y = ((i - 1 : Nat) : Int) by omega]
        refine ih (i - 1) (by omega) (by omega) _ ?_ ?_ (fun j hj => ?_) (fun j hj hj2 => ?_) (fun j hj hj2 => ?_) (fun c hc => ?_)
        · rw [up2_n _ _ _ (by decide)]; exact g0
        · rw [up2_n _ _ _ (by decide)]; exact g1
        · show up2 J1 (89 + 1) i _ (89 + 1) j = _
          rw [up2_s, up1_n _ _ (by omega)]; exact g2 j (by omega)
        · show up2 J1 (89 + 1) i _ (89 + 1) (j + 1) = _
          rw [up2_s]
          by_cases e : j + 1 = i
          · rw [e, up1_s, show i - 1 = j by omega]
          · rw [up1_n _ _ e]; exact g3 j (by omega) hj2
        · by_cases e : j + 1 = i
          · rw [show j = i - 1 by omega]; omega
          · exact g4 j (by omega) hj2
        · rw [up2_n _ _ _ (by omega)]; exact g5 c hc
  exact key len len rfl (Nat.le_refl _) J f0 f1 f2 (fun j h1 h2 => by omega) (fun j h1 h2 => by omega) f4
/-- his sounds in their order, with the steps of each -/
def FwS (J0 J : mJ) (g r : Nat → Int) (p len : Nat) (w : Nat → Nat) : Prop := FwI J0 J r (hsB g r p) (g (43 + 14 * p)) len w ∧ ∀ i, i < len → J 91 i = ((stepsF g r (w i) p : Nat) : Int)
theorem x_follow {J : mJ} {h o p : Nat} {g r : Nat → Int} (hv : HV g) (hr : HR J h g) (rv : RdV r) (rr : RdR J o r) (hh : h ≤ 60) (ho : o ≤ 60) (hp : (p : Int) < g 3) {post' : mJ → Prop} (hq : ∀ J1 len w, FwS J J1 g r p len w → post' J1) : v_X10_follow J 89 h o (p : Int) post' := by
  have h3 := hv.2.2.2.1
  have r0 := rv.1
  unfold v_X10_follow
  obtain ⟨_, _, r6, _⟩ := hr.2.2.2.1 p hp
  rw [Int.toNat_natCast, r6]
  refine ⟨⟨by omega, by omega⟩, ?_⟩
  rintro J2 rfl
  rintro J3 rfl
  have S0 : FwI J (up2 (up2 J 89 0 (g (43 + 14 * p))) 89 1 0) r (fun k => hsB g r p k && decide (k < 0)) (g (43 + 14 * p)) 0 (fun _ => 0) := by
    refine ⟨by rw [up2_s, up1_n _ _ (by decide), up2_s, up1_s], by rw [up2_s, up1_s]; rfl, fun i hi => absurd hi (Nat.not_lt_zero _), ⟨fun i hi => absurd hi (Nat.not_lt_zero _), fun i j _ hj => absurd hj (Nat.not_lt_zero _), fun k _ hk => ?_⟩, fun c hc => by rw [up2_n _ _ _ (by omega), up2_n _ _ _ (by omega)]⟩
    change (hsB g r p k && decide (k < 0)) = true at hk
    rw [decide_eq_false (Nat.not_lt_zero _), Bool.and_false] at hk; exact Bool.noConfusion hk
  unfold v_X10_follow_18
  intro ZZ hZ
  refine lpN (S := fun k => ∀ J1 len w, FwI J J1 r (fun q => hsB g r p q && decide (q < k)) (g (43 + 14 * p)) len w → (∀ i, i < len → w i < k) → ZZ J1 (k : Int)) (N := (r 0).toNat) (fun k hk ih J1 len w hI hlt => hZ _ _ ?_) (fun J1 len w hI hlt => hZ _ _ ?_) _ 0 (fun _ => 0) S0 (fun i hi => absurd hi (Nat.not_lt_zero _))
  · obtain ⟨f0, f1, f2, f3, f4⟩ := hI
    have hI : FwI J J1 r (fun q => hsB g r p q && decide (q < k)) (g (43 + 14 * p)) len w := ⟨f0, f1, f2, f3, f4⟩
    have hr1 : HR J1 h g := HR_frame (fun q hq => f4 _ (by omega)) hr
    have rr1 : RdR J1 o r := RdR_frame (fun q hq => f4 _ (by omega)) rr
    obtain ⟨q1, q2, q3, q4⟩ := rr1.2 k (by omega)
    rw [rr1.1]
    simp only [Int.toNat_natCast]
    rw [q2, q3]
    refine ⟨fun c => by omega, fun _ => ⟨⟨by omega, by omega⟩, x_shoeAt hv hr1 hp ⟨⟨by omega, by omega⟩, fun c => ⟨⟨by omega, by omega⟩, ?_⟩, fun c => ?_⟩⟩⟩
    · rintro _ rfl
      refine ih J1 len w ⟨f0, f1, f2, or_ext (fun q _ => ?_) f3, f4⟩ (fun i hi => by have := hlt i hi; omega)
      by_cases e : q = k
      · subst e
        show (hsB g r p q && decide (q < q)) = (hsB g r p q && decide (q < q + 1))
        unfold hsB; rw [decide_eq_false c, Bool.false_and, Bool.false_and]
      · show (hsB g r p q && decide (q < k)) = (hsB g r p q && decide (q < k + 1))
        rw [dec_eq (show q < k ↔ q < k + 1 by omega)]
    · refine x_insert (Q' := fun q => hsB g r p q && decide (q < k + 1)) rv rr ho hI (by omega) hlt (by show (hsB g r p k && decide (k < k + 1)) = true; unfold hsB; rw [decide_eq_true c, decide_eq_true (Nat.lt_succ_self _)]; rfl) (fun j _ hj => by show (hsB g r p j && decide (j < k + 1)) = (hsB g r p j && decide (j < k)); rw [dec_eq (show j < k + 1 ↔ j < k by omega)]) (by show (hsB g r p k && decide (k < k)) = false; rw [decide_eq_false (Nat.lt_irrefl _), Bool.and_false]) (fun J4 w' hI' hlt' => ⟨⟨by omega, by omega⟩, ?_⟩)
      rintro _ rfl
      exact ih J4 (len + 1) w' hI' hlt'
  · obtain ⟨f0, f1, f2, f3, f4⟩ := hI
    have rr1 : RdR J1 o r := RdR_frame (fun q hq => f4 _ (by omega)) rr
    rw [rr1.1]
    refine ⟨fun _ => ?_, fun c => by omega⟩
    have f3 : IsOr r (hsB g r p) (r 0).toNat len w := or_ext (fun q hq => by show (hsB g r p q && decide (q < (r 0).toNat)) = _; rw [decide_eq_true hq, Bool.and_true]) f3
    have hl := or_len f3
    unfold v_X10_follow_65
    intro Z2 hZ2
    refine lpN (S := fun i => ∀ J2, (∀ c, c ≠ 91 → J2 c = J1 c) → (∀ j, j < i → J2 91 j = ((stepsF g r (w j) p : Nat) : Int)) → Z2 J2 (i : Int)) (N := len) (fun i hi ih J2 fr hs => hZ2 _ _ ?_) (fun J2 fr hs => hZ2 _ _ ?_) J1 (fun _ _ => rfl) (fun j hj => absurd hj (Nat.not_lt_zero _))
    · have hr2 : HR J2 h g := HR_frame (fun q hq => by rw [fr _ (by omega), f4 _ (by omega)]) hr
      have rr2 : RdR J2 o r := RdR_frame (fun q hq => by rw [fr _ (by omega), f4 _ (by omega)]) rr
      rw [fr 89 (by decide), f1]
      simp only [Int.toNat_natCast]
      rw [show J2 (89 + 1) i = (w i : Int) by rw [fr (89 + 1) (by decide)]; exact f2 i hi]
      have hw := (f3.1 i hi).1
      refine ⟨fun c => by omega, fun _ => ⟨⟨by omega, by omega⟩, x_stepsOf hv hr2 rv rr2 (by omega) hp ⟨⟨by omega, by omega⟩, ?_⟩⟩⟩
      rintro J3 rfl
      refine ⟨⟨by omega, by omega⟩, ?_⟩
      rintro _ rfl
      refine ih _ (fun c hc => by rw [up2_n _ _ _ hc]; exact fr c hc) (fun j hj => ?_)
      show up2 J2 (89 + 2) i _ (89 + 2) j = _
      rw [up2_s]
      by_cases e : j = i
      · rw [e, up1_s]
      · rw [up1_n _ _ e]; exact hs j (by omega)
    · rw [fr 89 (by decide), f1]
      refine ⟨fun _ => hq J2 len w ⟨⟨by rw [fr 89 (by decide)]; exact f0, by rw [fr 89 (by decide)]; exact f1, fun i hi => by rw [fr 90 (by decide)]; exact f2 i hi, f3, fun c hc => by rw [fr c (by omega)]; exact f4 c hc⟩, hs⟩, fun c => absurd (Int.le_refl _) c⟩
/-- the reference's order -/
def MoS (J0 J : mJ) (b c : Nat) (g r : Nat → Int) (p len : Nat) (w : Nat → Nat) : Prop := MH J b g (J 128) ∧ UP (J 128) ∧ MS J c r ∧ J 128 45 = (len : Int) ∧ (∀ i, i < len → J 148 i = (w i : Int)) ∧ (∀ c, c ≠ 128 → c ≠ 148 → J c = J0 c)
theorem n_sorts {J : mJ} {b c p : Nat} {g r : Nat → Int} (h : MH J b g (J 128)) (hp : UP (J 128)) (hS : MS J c r) (hp3 : (p : Int) < g 3) {post' : mJ → Prop} (hq : ∀ J1 len w, MoS J J1 b c g r p len w → IsOr r (hsB g r p) (r 0).toNat len w → post' J1) : v_X12_sorts J 128 (p : Int) post' := by
  have rv := hS.2.2.2
  have r0 := rv.1
  -- one field of the reference written
  have up45 : ∀ (J1 : mJ) (v : Int), MH J1 b g (J1 128) → UP (J1 128) → MS J1 c r → MH (up2 J1 128 45 v) b g (up2 J1 128 45 v 128) ∧ UP (up2 J1 128 45 v 128) ∧ MS (up2 J1 128 45 v) c r := by
    intro J1 v m1 u1 s1
    have k : ∀ i, i ≠ 45 → up2 J1 128 45 v 128 i = J1 128 i := fun i hi => by rw [up2_s, up1_n _ _ hi]
    refine ⟨MH_self (MH_up (i := 45) (v := v) (by omega) m1), ?_, ?_⟩
    · unfold UP; rw [k 13 (by decide), k 15 (by decide), k 17 (by decide), k 18 (by decide), k 20 (by decide), k 22 (by decide)]; exact u1
    · obtain ⟨a, b', c', d⟩ := s1
      exact ⟨by rw [k 44 (by decide)]; exact a, b', fun j => by rw [up2_n _ _ _ (by decide)]; exact c' j, d⟩
  have up148 : ∀ (J1 : mJ) (i : Nat) (v : Int), MH J1 b g (J1 128) → UP (J1 128) → MS J1 c r → MH (up2 J1 148 i v) b g (up2 J1 148 i v 128) ∧ UP (up2 J1 148 i v 128) ∧ MS (up2 J1 148 i v) c r := by
    intro J1 i v m1 u1 s1
    have e : up2 J1 148 i v 128 = J1 128 := up2_n _ _ _ (by decide)
    refine ⟨by rw [e]; exact MH_frame (up2_n _ _ _ (by decide)) (fun k _ _ _ => by rw [e]) m1, by rw [e]; exact u1, ?_⟩
    obtain ⟨a, b', c', d⟩ := s1
    exact ⟨by rw [e]; exact a, b', fun j => by rw [up2_n _ _ _ (by decide)]; exact c' j, d⟩
  unfold v_X12_sorts
  rintro J1 rfl
  unfold v_X12_sorts_7
  intro ZZ hZ
  obtain ⟨a1, a2, a3⟩ := up45 J 0 h hp hS
  refine lpN (S := fun m => ∀ J1 len w, MoS J J1 b c g r p len w → IsOr r (fun k => hsB g r p k && decide (r (2 + 4 * k) < (m : Int))) (r 0).toNat len w → ZZ J1 (m : Int)) (N := 100) (fun m hm ih J1 len w hM hI => hZ _ _ ⟨fun c => by omega, fun _ => ?_⟩) (fun J1 len w hM hI => hZ _ _ ⟨fun _ => hq J1 len w hM (or_ext (fun k hk => ?_) hI), fun c => absurd (Int.le_refl _) c⟩) _ 0 (fun _ => 0) ⟨a1, a2, a3, by rw [up2_s, up1_s]; rfl, fun i hi => absurd hi (Nat.not_lt_zero _), fun c hc _ => up2_n _ _ _ hc⟩ ⟨fun i hi => absurd hi (Nat.not_lt_zero _), fun i j _ hj => absurd hj (Nat.not_lt_zero _), fun k hk hb => ?_⟩
  · unfold v_X12_sorts_15
    intro Z2 hZ2
    refine lpN (S := fun k => ∀ J1 len w, MoS J J1 b c g r p len w → IsOr r (fun q => hsB g r p q && decide (r (2 + 4 * q) < (m : Int) ∨ r (2 + 4 * q) = (m : Int) ∧ q < k)) (r 0).toNat len w → Z2 J1 (m : Int) (k : Int)) (N := (r 0).toNat) (fun k hk ih2 J1 len w hM hI => ?_) (fun J1 len w hM hI => ?_) J1 len w hM (or_ext (fun q _ => ?_) hI)
    · obtain ⟨m1, m2, m3, m4, m5, m6⟩ := hM
      have hM : MoS J J1 b c g r p len w := ⟨m1, m2, m3, m4, m5, m6⟩
      refine hZ2 _ _ _ (n_sounds m3 ⟨fun c => by omega, fun _ => n_soundOf m3 k 1 (2 + 4 * k) rfl rfl ⟨by omega, by omega⟩ (by omega) ⟨fun c => ⟨⟨by omega, by omega⟩, ?_⟩, fun c => n_isHis m1 m2 m3 (by omega) hp3 ⟨fun c2 => ?_, fun c2 => ⟨⟨by omega, by omega⟩, ?_⟩⟩⟩⟩)
      · rintro _ rfl
        refine ih2 J1 len w hM (or_ext (fun q _ => ?_) hI)
        show (hsB g r p q && _) = (hsB g r p q && _)
        rw [dec_eq (show (r (2 + 4 * q) < (m : Int) ∨ r (2 + 4 * q) = (m : Int) ∧ q < k) ↔ (r (2 + 4 * q) < (m : Int) ∨ r (2 + 4 * q) = (m : Int) ∧ q < k + 1) from ?_)]
        by_cases e : q = k
        · subst e; omega
        · omega
      · rw [decide_eq_true_eq] at c2
        have hins := or_ins (Q' := fun q => hsB g r p q && decide (r (2 + 4 * q) < (m : Int) ∨ r (2 + 4 * q) = (m : Int) ∧ q < k + 1)) (k := k) (pos := len) hI hk (by show (hsB g r p k && _) = true; unfold hsB; rw [decide_eq_true c2, decide_eq_true (Or.inr ⟨c, Nat.lt_succ_self _⟩)]; rfl) (fun j _ hj => by show (hsB g r p j && _) = (hsB g r p j && _); rw [dec_eq (show (r (2 + 4 * j) < (m : Int) ∨ r (2 + 4 * j) = (m : Int) ∧ j < k + 1) ↔ (r (2 + 4 * j) < (m : Int) ∨ r (2 + 4 * j) = (m : Int) ∧ j < k) by omega)]) (by show (hsB g r p k && _) = false; rw [decide_eq_false (by omega), Bool.and_false]) (Nat.le_refl _) (fun i hi => by
          have := (hI.1 i hi).2
          change (hsB g r p (w i) && decide _) = true at this
          rw [Bool.and_eq_true, decide_eq_true_eq] at this
          unfold lxS; omega) (fun i h1 h2 => by omega)
        have hl := or_len hins
        rw [m4, Int.toNat_natCast]
        refine ⟨⟨by omega, by omega⟩, ?_⟩
        rintro J2 rfl
        obtain ⟨b1, b2, b3⟩ := up148 J1 len (k : Int) m1 m2 m3
        have e45 : up2 J1 (128 + 20) len (k : Int) 128 45 = (len : Int) := by rw [up2_n _ _ _ (by decide)]; exact m4
        rw [e45]
        refine ⟨⟨by omega, by omega⟩, ?_⟩
        rintro J3 rfl
        refine ⟨⟨by omega, by omega⟩, ?_⟩
        rintro _ rfl
        obtain ⟨d1, d2, d3⟩ := up45 (up2 J1 148 len (k : Int)) ((len : Int) + 1) b1 b2 b3
        refine ih2 _ (len + 1) (insW w len k) ⟨d1, d2, d3, by rw [up2_s, up1_s]; omega, fun i hi => ?_, fun c h1 h2 => by rw [up2_n _ _ _ h1, up2_n _ _ _ h2]; exact m6 c h1 h2⟩ hins
        rw [up2_n _ _ _ (by decide)]
        show up2 J1 (128 + 20) len _ (128 + 20) i = _
        rw [up2_s]
        unfold insW
        by_cases e : i = len
        · rw [e, up1_s, if_neg (Nat.lt_irrefl _), if_pos rfl]
        · rw [up1_n _ _ e, if_pos (by omega)]; exact m5 i (by omega)
      · rw [decide_eq_false_iff_not] at c2
        rintro _ rfl
        refine ih2 J1 len w hM (or_ext (fun q _ => ?_) hI)
        show (hsB g r p q && _) = (hsB g r p q && _)
        by_cases e : q = k
        · subst e; unfold hsB; rw [decide_eq_false c2, Bool.false_and, Bool.false_and]
        · rw [dec_eq (show (r (2 + 4 * q) < (m : Int) ∨ r (2 + 4 * q) = (m : Int) ∧ q < k) ↔ (r (2 + 4 * q) < (m : Int) ∨ r (2 + 4 * q) = (m : Int) ∧ q < k + 1) by omega)]
    · obtain ⟨m1, m2, m3, m4, m5, m6⟩ := hM
      refine hZ2 _ _ _ (n_sounds m3 ⟨fun _ => ⟨⟨by omega, by omega⟩, ?_⟩, fun c => by omega⟩)
      rintro _ rfl
      refine ih J1 len w ⟨m1, m2, m3, m4, m5, m6⟩ (or_ext (fun q hq' => ?_) hI)
      show (hsB g r p q && _) = (hsB g r p q && _)
      rw [dec_eq (show (r (2 + 4 * q) < (m : Int) ∨ r (2 + 4 * q) = (m : Int) ∧ q < (r 0).toNat) ↔ r (2 + 4 * q) < ((m + 1 : Nat) : Int) by omega)]
    · show (hsB g r p q && _) = (hsB g r p q && _)
      rw [dec_eq (show r (2 + 4 * q) < (m : Int) ↔ (r (2 + 4 * q) < (m : Int) ∨ r (2 + 4 * q) = (m : Int) ∧ q < 0) by omega)]
  · obtain ⟨_, v2, _⟩ := rv.2 k (by omega)
    show (hsB g r p k && _) = _
    rw [decide_eq_true (by omega), Bool.and_true]
  · obtain ⟨_, v2, _⟩ := rv.2 k (by omega)
    change (hsB g r p k && decide (r (2 + 4 * k) < ((0 : Nat) : Int))) = true at hb
    rw [decide_eq_false (by omega), Bool.and_false] at hb; exact Bool.noConfusion hb
