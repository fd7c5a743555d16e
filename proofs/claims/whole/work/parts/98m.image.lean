/-! images: what is told is copied -/
theorem TI_cong {J : mJ} {t : Nat} {A B : Nat → Int} (e : ∀ j, j < 990 → B j = A j) (h : TI J t A) : TI J t B := by
  obtain ⟨⟨b1, b2, b3, b4, b5⟩, a2, a3, a4, a5, a6, a7⟩ := h
  have e0 := e 0 (by decide)
  have e1 := e 1 (by decide)
  have e2 := e 2 (by decide)
  refine ⟨⟨by rw [e0]; exact b1, by rw [e1]; exact b2, by rw [e2]; exact b3, by rw [e 3 (by decide)]; exact b4, by rw [e 4 (by decide)]; exact b5⟩, by rw [e0]; exact a2, by rw [e1]; exact a3, by rw [e2]; exact a4, fun i hi => by rw [e (10 + i) (by omega)]; exact a5 i hi, fun k hk => ?_, fun k hk => ?_⟩
  · rw [e0] at hk
    rw [gH_e (A1 := B) (A := A) (k := k) (fun j hj => e _ (by omega))]; exact a6 k hk
  · rw [e1] at hk
    have q : ∀ j, j < 41 → rH B k j = rH A k j := fun j hj => e _ (by omega)
    exact ⟨RdV_cong q (a7 k hk).1, RdR_cong q (a7 k hk).1 (a7 k hk).2⟩
theorem fits_b {v : Int} (h : -128 ≤ v ∧ v ≤ 127) : fits .byte (.int (zi v)) = true := by
  have hi : ir v := ⟨by omega, by omega⟩
  show (decide ((-128 : Int32) ≤ zi v) && decide (zi v ≤ (127 : Int32))) = true
  have h1 : (-128 : Int32) ≤ zi v := (zle (x := -128) (a := -128) (b := v) rfl rfl (by decide) hi).mpr h.1
  have h2 : zi v ≤ (127 : Int32) := (zle (y := 127) (a := v) (b := 127) rfl rfl hi (by decide)).mpr h.2
  rw [decide_eq_true h1, decide_eq_true h2]
  rfl
theorem sb_rng {x : Int} (h : 0 ≤ x ∧ x ≤ 255) : -128 ≤ sb x ∧ sb x ≤ 127 := by
  unfold sb; split <;> omega
set_option maxHeartbeats 4000000 in
theorem x_copyT {J : mJ} {o a : Nat} {A : Nat → Int} (h : TI J a A) (hd : o + 41 < a ∨ a + 41 < o) {post' : mJ → Prop} (hq : ∀ J1, TI J1 o A → (∀ c, (c < o ∨ o + 41 < c) → J1 c = J c) → post' J1) : v_X8_copyFrom J o a post' := by
  obtain ⟨⟨b1, b2, b3, b4, b5⟩, a2, a3, a4, a5, a6, a7⟩ := h
  unfold v_X8_copyFrom
  refine ⟨⟨by omega, by decide, by decide, by decide, by decide, by decide⟩, fun i hi => ?_, ?_⟩
  · rw [Nat.zero_add, (a5 i hi).2]; exact fits_b (sb_rng (a5 i hi).1)
  rintro J2 rfl J3 rfl J4 rfl J5 rfl J6 rfl J7 rfl
  have hne : a ≠ o := by omega
  simp only [show ∀ (J : mJ) (k : Nat) (v : Int), up2 J o k v a = J a from fun J k v => u2n hne, show cpyZ J (a + 1) (o + 1) 0 0 600 a = J a from cpyZ_n (by omega)]
  generalize hJ7 : up2 (up2 (up2 (up2 (up2 (cpyZ J (a + 1) (o + 1) 0 0 600) o 1 (J a 1)) o 2 (J a 2)) o 3 (J a 3)) o 4 (J a 4)) o 5 (J a 5) = J7
  have f7 : ∀ c, c ≠ o → c ≠ o + 1 → J7 c = J c := fun c x y => by rw [← hJ7, u2n x, u2n x, u2n x, u2n x, u2n x]; exact cpyZ_n y
  have g7 : ∀ j, j < 600 → J7 (o + 1) j = J (a + 1) j := fun j hj => by
    rw [← hJ7, u2n (by omega), u2n (by omega), u2n (by omega), u2n (by omega), u2n (by omega), cpyZ_in (by omega), Nat.zero_add, Nat.sub_zero]
  have v7 : ∀ j, 1 ≤ j → j ≤ 5 → J7 o j = J a j := fun j x y => by
    have : j = 1 ∨ j = 2 ∨ j = 3 ∨ j = 4 ∨ j = 5 := by omega
    rw [← hJ7]
    rcases this with rfl | rfl | rfl | rfl | rfl <;> simp [up2_s, up1]
  clear hJ7
  intro ZZ hZ
  have key : ∀ d k : Nat, k + d = 2 → ∀ J8 : mJ, (∀ c, (c < o + 4 ∨ o + 41 < c) → J8 c = J7 c) → (∀ q : Nat, q < k → ((q : Int) < A 0 → HR J8 (o + 4 + 19 * q) (gH A q)) ∧ ((q : Int) < A 1 → RdR J8 (o + 18 + 19 * q) (rH A q))) → ZZ J8 (k : Int) := by
    intro d
    induction d with
    | zero =>
      intro k hk J8 fr hs
      have hk : k = 2 := by omega
      subst hk
      apply hZ
      refine ⟨fun _ => hq J8 ⟨⟨?_, ?_, ?_, ?_, ?_⟩, a2, a3, a4, fun i hi => ⟨(a5 i hi).1, ?_⟩, fun k hk => ⟨(a6 k hk).1, (hs k (by omega)).1 hk⟩, fun k hk => ⟨(a7 k hk).1, (hs k (by omega)).2 hk⟩⟩ (fun c hc => ?_), fun c => absurd (by decide) c⟩
      · rw [fr o (by omega), v7 4 (by decide) (by decide)]; exact b1
      · rw [fr o (by omega), v7 5 (by decide) (by decide)]; exact b2
      · rw [fr o (by omega), v7 1 (by decide) (by decide)]; exact b3
      · rw [fr o (by omega), v7 2 (by decide) (by decide)]; exact b4
      · rw [fr o (by omega), v7 3 (by decide) (by decide)]; exact b5
      · rw [fr (o + 1) (by omega), g7 i hi]; exact (a5 i hi).2
      · rw [fr c (by omega), f7 c (by omega) (by omega)]
    | succ d ih =>
      intro k hk J8 fr hs
      apply hZ
      refine ⟨fun c => absurd c (by omega), fun _ => ⟨⟨by omega, by omega⟩, ⟨by omega, by omega⟩, ?_⟩⟩
      rw [Int.toNat_natCast]
      refine x_copyH (by omega) (fun J9 cp => ⟨⟨by omega, by omega⟩, ⟨by omega, by omega⟩, x_copyR (by omega) (fun J10 cr => ⟨⟨by omega, by omega⟩, ?_⟩)⟩)
      rintro _ rfl
      have fa : ∀ c, a + 4 ≤ c → c < a + 42 → J8 c = J c := fun c x y => by rw [fr c (by omega), f7 c (by omega) (by omega)]
      refine ih (k + 1) (by omega) J10 (fun c hc => ?_) (fun q hqk => ?_)
      · rw [cr.2.2 c (by omega), cp.2.2 c (by omega)]; exact fr c hc
      · by_cases hqq : q = k
        · subst hqq
          refine ⟨fun hA => ?_, fun hA => ?_⟩
          · have := a6 q hA
            have hr : HR J8 (a + 4 + 19 * q) (gH A q) := HR_frame (fun i hi => fa _ (by omega) (by omega)) this.2
            exact HR_frame (fun i hi => cr.2.2 _ (by omega)) (HR_copy this.1 hr cp)
          · have := a7 q hA
            have hr : RdR J9 (a + 18 + 19 * q) (rH A q) := RdR_frame (fun i hi => by rw [cp.2.2 _ (by omega)]; exact fa _ (by omega) (by omega)) this.2
            exact RdR_copy this.1 hr cr
        · have := hs q (by omega)
          refine ⟨fun hA => HR_frame (fun i hi => ?_) (this.1 hA), fun hA => RdR_frame (fun i hi => ?_) (this.2 hA)⟩
          · rw [cr.2.2 _ (by omega), cp.2.2 _ (by omega)]
          · rw [cr.2.2 _ (by omega), cp.2.2 _ (by omega)]
  exact key 2 0 rfl J7 (fun _ _ => rfl) (fun q hq => absurd hq (by omega))
/-- the image k is what is told -/
def imA (A : Nat → Int) (k : Nat) : Nat → Int := fun j => if 990 * (k + 1) ≤ j ∧ j < 990 * (k + 1) + 990 then A (j - 990 * (k + 1)) else A j
theorem m_image {J : mJ} {a1 : Int} {post' : Bool → mJ → Prop} (h0 : ¬ (0 ≤ a1 ∧ a1 ≤ 2) → post' false J) (h1 : ∀ (k : Nat) (J1 : mJ), a1 = (k : Int) → k < 3 → J1 129 = imA (J 129) k → J1 130 = up1 (J 130) k 1 → (∀ c, c ≠ 129 → c ≠ 130 → J1 c = J c) → post' true J1) : v_X12_image J 128 a1 post' := by
  unfold v_X12_image
  refine p_X12_isIn ?_
  by_cases hc : 0 ≤ a1 ∧ a1 ≤ 2
  · rw [decide_eq_true hc]
    refine ⟨fun _ => ⟨⟨by omega, by omega⟩, ?_⟩, fun c => Bool.noConfusion c⟩
    obtain ⟨k, rfl⟩ : ∃ k : Nat, a1 = (k : Int) := ⟨a1.toNat, by omega⟩
    rintro J3 rfl
    rw [Int.toNat_natCast]
    intro ZZ hZ
    have key : ∀ d i : Nat, i + d = 990 → ∀ J8 : mJ, (∀ c, c ≠ 129 → c ≠ 130 → J8 c = J c) → J8 130 = up1 (J 130) k 1 → (∀ j, J8 129 j = if 990 * (k + 1) ≤ j ∧ j < 990 * (k + 1) + i then J 129 (j - 990 * (k + 1)) else J 129 j) → ZZ J8 (i : Int) := by
      intro d
      induction d with
      | zero =>
        intro i hi J8 f1 f2 f3
        have hi : i = 990 := by omega
        subst hi
        apply hZ
        exact ⟨fun _ => h1 k J8 rfl (by omega) (funext f3) f2 f1, fun c => absurd (by decide) c⟩
      | succ d ih =>
        intro i hi J8 f1 f2 f3
        apply hZ
        refine ⟨fun c => absurd c (by omega), fun _ => ⟨⟨by omega, by omega⟩, ⟨by omega, by omega⟩, ⟨by omega, by omega⟩, ⟨by omega, by omega⟩, ⟨by omega, by omega⟩, ?_⟩⟩
        rintro J9 rfl
        rw [Int.toNat_natCast, show (990 * ((k : Int) + 1) + (i : Int)).toNat = 990 * (k + 1) + i by omega]
        refine ⟨⟨by omega, by omega⟩, ?_⟩
        rintro _ rfl
        refine ih (i + 1) (by omega) _ (fun c x y => by rw [u2n x]; exact f1 c x y) (by rw [u2n (by decide)]; exact f2) (fun j => ?_)
        rw [up2_s]
        by_cases hj : j = 990 * (k + 1) + i
        · subst hj
          rw [up1_s, if_pos (by omega), f3 i, if_neg (by omega), show 990 * (k + 1) + i - 990 * (k + 1) = i by omega]
        · rw [up1_rd hj, f3 j]
          by_cases hc : 990 * (k + 1) ≤ j ∧ j < 990 * (k + 1) + i
          · rw [if_pos hc, if_pos (by omega)]
          · rw [if_neg hc, if_neg (by omega)]
    exact key 990 0 rfl _ (fun c x y => u2n y) (by rw [up2_s]) (fun j => by rw [u2n (by decide), if_neg (by omega)])
  · rw [decide_eq_false hc]
    exact ⟨fun c => Bool.noConfusion c, fun _ => h0 hc⟩
def agA (A : Nat → Int) (k : Nat) : Nat → Int := fun j => if j < 990 then A (990 * (k + 1) + j) else A j
theorem m_again {J : mJ} {a1 : Int} {post' : Bool → mJ → Prop} (h0 : ¬ (0 ≤ a1 ∧ a1 ≤ 2) → post' false J) (h1 : ∀ k : Nat, a1 = (k : Int) → k < 3 → J 130 k = 0 → post' false J) (h2 : ∀ (k : Nat) (J1 : mJ), a1 = (k : Int) → k < 3 → ¬ J 130 k = 0 → J1 129 = agA (J 129) k → (∀ c, c ≠ 129 → J1 c = J c) → post' true J1) : v_X12_again J 128 a1 post' := by
  unfold v_X12_again
  refine p_X12_isIn ?_
  by_cases hc : 0 ≤ a1 ∧ a1 ≤ 2
  · rw [decide_eq_true hc]
    refine ⟨fun c => Bool.noConfusion c, fun _ => ⟨⟨by omega, by omega⟩, ?_⟩⟩
    obtain ⟨k, rfl⟩ : ∃ k : Nat, a1 = (k : Int) := ⟨a1.toNat, by omega⟩
    rw [Int.toNat_natCast]
    refine ⟨fun hh => ?_, fun hh => h1 k rfl (by omega) hh⟩
    intro ZZ hZ
    have key : ∀ d i : Nat, i + d = 990 → ∀ J8 : mJ, (∀ c, c ≠ 129 → J8 c = J c) → (∀ j, J8 129 j = if j < i then J 129 (990 * (k + 1) + j) else J 129 j) → ZZ J8 (i : Int) := by
      intro d
      induction d with
      | zero =>
        intro i hi J8 f1 f3
        have hi : i = 990 := by omega
        subst hi
        apply hZ
        exact ⟨fun _ => h2 k J8 rfl (by omega) hh (funext f3) f1, fun c => absurd (by decide) c⟩
      | succ d ih =>
        intro i hi J8 f1 f3
        apply hZ
        refine ⟨fun c => absurd c (by omega), fun _ => ⟨⟨by omega, by omega⟩, ⟨by omega, by omega⟩, ⟨by omega, by omega⟩, ⟨by omega, by omega⟩, ⟨by omega, by omega⟩, ?_⟩⟩
        rintro J9 rfl
        rw [Int.toNat_natCast, show (990 * ((k : Int) + 1) + (i : Int)).toNat = 990 * (k + 1) + i by omega]
        refine ⟨⟨by omega, by omega⟩, ?_⟩
        rintro _ rfl
        refine ih (i + 1) (by omega) _ (fun c x => by rw [u2n x]; exact f1 c x) (fun j => ?_)
        rw [up2_s]
        by_cases hj : j = i
        · subst hj
          rw [up1_s, if_pos (by omega), f3 (990 * (k + 1) + j), if_neg (by omega)]
        · rw [up1_rd hj, f3 j]
          by_cases hc : j < i
          · rw [if_pos hc, if_pos (by omega)]
          · rw [if_neg hc, if_neg (by omega)]
    exact key 990 0 rfl _ (fun c x => rfl) (fun j => by rw [if_neg (by omega)])
  · rw [decide_eq_false hc]
    exact ⟨fun _ => h0 hc, fun c => Bool.noConfusion c⟩
/-- the images: at place k there is none on both sides, or one that is the same -/
def ImI (K : mK) (R : mR) (J : mJ) (n : Nat) : Prop := (∀ k, k < 3 → (J 130 k = 0 ∧ R 43 k = none) ∨ (J 130 k = 1 ∧ ∃ t, R 43 k = some t ∧ 151 ≤ t ∧ t + 41 < n ∧ isX8 K R t ∧ TI J t (fun j => J 129 (990 * (k + 1) + j)))) ∧ (∀ k k' t t', k < 3 → k' < 3 → k ≠ k' → R 43 k = some t → R 43 k' = some t' → t + 41 < t' ∨ t' + 41 < t)
theorem x_again {K : mK} {R : mR} {J : mJ} {a1 : Int} {n : Nat} (hM : ImI K R J n) {post' : Bool → mJ → Prop} (h0 : ¬ (0 ≤ a1 ∧ a1 ≤ 2) → post' false J) (h1 : ∀ k : Nat, a1 = (k : Int) → k < 3 → J 130 k = 0 → post' false J) (h2 : ∀ (k : Nat) (J1 : mJ), a1 = (k : Int) → k < 3 → ¬ J 130 k = 0 → TI J1 1 (fun j => J 129 (990 * (k + 1) + j)) → (∀ q, q < 2 → J1 (94 + 17 * q) 1 = 0) → J1 70 3 = -1 → (∀ c, (c = 43 ∨ 128 ≤ c) → J1 c = J c) → post' true J1) : v_X11_again K R J a1 post' := by
  unfold v_X11_again
  refine ⟨fun c => h0 (by omega), fun c => ⟨fun c2 => h0 (by omega), fun c2 => ⟨⟨by omega, by omega⟩, ?_⟩⟩⟩
  obtain ⟨k, rfl⟩ : ∃ k : Nat, a1 = (k : Int) := ⟨a1.toNat, by omega⟩
  rw [Int.toNat_natCast]
  have hk : k < 3 := by omega
  rcases hM.1 k hk with ⟨e0, eN⟩ | ⟨e1, t, eT, t1, t2, t3, t4⟩
  · rw [eN]
    exact ⟨fun _ => h1 k rfl hk e0, fun q hq => by cases hq⟩
  · rw [eT]
    refine ⟨fun q => (by cases q), fun q hq => ?_⟩
    cases hq
    refine ⟨t3, ⟨by omega, by omega⟩, fun q => (by cases q), fun q hq => ?_⟩
    cases hq
    refine ⟨t3, x_copyT t4 (by omega) (fun J5 tI fr => ?_)⟩
    intro ZZ hZ
    have st : ∀ J6 : mJ, (∀ q, q < 2 → J6 (94 + 17 * q) 1 = 0) → J6 70 3 = -1 → (∀ c, c ≠ 94 → c ≠ 111 → c ≠ 70 → J6 c = J5 c) → ZZ J6 2 := fun J6 z z70 f6 => by
      apply hZ
      refine ⟨fun _ => ?_, fun c => absurd (by decide) c⟩
      refine h2 k _ rfl hk (by rw [e1]; decide) (TI_frame (fun i hi => ?_) tI) z z70 (fun c hc => ?_)
      · rw [f6 _ (by omega) (by omega) (by omega)]
      · rw [f6 _ (by omega) (by omega) (by omega)]; exact fr c (by omega)
    apply hZ
    refine ⟨fun c => absurd c (by decide), fun _ => ⟨by decide, ?_⟩⟩
    rintro J6 rfl
    rintro J7 rfl
    refine ⟨by decide, ?_⟩
    rintro _ rfl
    apply hZ
    refine ⟨fun c => absurd c (by decide), fun _ => ⟨by decide, ?_⟩⟩
    rintro J6 rfl
    rintro J7 rfl
    refine ⟨by decide, ?_⟩
    rintro _ rfl
    refine st _ (fun q hq => ?_) (up2_at _ _ _ _) (fun c x y z => ?_)
    · have : q = 0 ∨ q = 1 := by omega
      rcases this with rfl | rfl
      · show up2 (up2 (up2 (up2 J5 94 1 0) 70 3 (-1)) 111 1 0) 70 3 (-1) 94 1 = 0
        rw [u2n (by decide), u2n (by decide), u2n (by decide), up2_at]
      · show up2 (up2 (up2 (up2 J5 94 1 0) 70 3 (-1)) 111 1 0) 70 3 (-1) 111 1 = 0
        rw [u2n (by decide), up2_at]
    · show up2 (up2 (up2 (up2 J5 94 1 0) 70 3 (-1)) 111 1 0) 70 3 (-1) c = J5 c
      rw [u2n z, u2n y, u2n z, u2n x]
