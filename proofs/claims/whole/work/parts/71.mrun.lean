/-! the reference: its house, its flags, its treads -/
/-- the reference looks at the house g at b, with the flags u -/
def MH (J : mJ) (b : Nat) (g u : Nat → Int) : Prop := J 128 12 = (b : Int) ∧ b ≤ 800 ∧ gB J b = g ∧ HV g ∧ UV u ∧ (∀ k : Nat, 13 ≤ k → k ≤ 24 → k ≠ 23 → J 128 k = u k)
theorem MH_frame {J J1 : mJ} {b : Nat} {g u : Nat → Int} (h1 : J1 129 = J 129) (h2 : ∀ k : Nat, 12 ≤ k → k ≤ 24 → k ≠ 23 → J1 128 k = J 128 k) (h : MH J b g u) : MH J1 b g u := by
  obtain ⟨a1, a2, a3, a4, a5, a6⟩ := h
  refine ⟨by rw [h2 12 (by decide) (by decide) (by decide)]; exact a1, a2, ?_, a4, a5, fun k k1 k2 k3 => by rw [h2 k (by omega) k2 k3]; exact a6 k k1 k2 k3⟩
  rw [← a3]; unfold gB; rw [h1]
def mQ (u g : Nat → Int) : Qs := (fun p t => if (p : Int) = u 13 then u 14 else gShoe g p t, mLoud u g, mEars u g)
theorem mCar_cong {u u' g : Nat → Int} (h1 : u 18 = u' 18) (h2 : u 19 = u' 19) : mCar u g = mCar u' g := by funext s; unfold mCar; rw [h1, h2]
theorem mLoud_cong {u u' g : Nat → Int} (h1 : u 18 = u' 18) (h2 : u 19 = u' 19) : mLoud u g = mLoud u' g := by funext p s w; unfold mLoud; rw [mCar_cong h1 h2]
theorem mFlat_cong {u u' g : Nat → Int} (h1 : u 20 = u' 20) (h2 : u 21 = u' 21) : mFlat u g = mFlat u' g := by funext f; unfold mFlat; rw [h1, h2]
theorem mEars_cong {u u' g : Nat → Int} (h1 : u 20 = u' 20) (h2 : u 21 = u' 21) : mEars u g = mEars u' g := by funext l s; unfold mEars; rw [mFlat_cong h1 h2]
theorem UV_of {J : mJ} {b : Nat} {g u : Nat → Int} (h : MH J b g u) : UV (J 128) := by
  unfold UV; rw [h.2.2.2.2.2 19 (by decide) (by decide) (by decide), h.2.2.2.2.2 21 (by decide) (by decide) (by decide)]; exact h.2.2.2.2.1
theorem n_of {J : mJ} {b : Nat} {g u : Nat → Int} (h : MH J b g u) {a : Int} {j : Nat} (ha : a = (j : Int)) (hj : j < 149) {post' : Int → Prop} (hp : post' (g j)) : v_X12_of J 128 a post' := p_X12_of h.1 ha (by have := h.2.1; omega) (by rw [h.2.2.1]; exact hp)
theorem n_people {J : mJ} {b : Nat} {g u : Nat → Int} (h : MH J b g u) {post' : Int → Prop} (hp : post' (g 3)) : v_X12_people J 128 post' := n_of h (j := 3) rfl (by decide) hp
theorem n_flats {J : mJ} {b : Nat} {g u : Nat → Int} (h : MH J b g u) {post' : Int → Prop} (hp : post' (g 2)) : v_X12_flats J 128 post' := n_of h (j := 2) rfl (by decide) hp
theorem n_told {J : mJ} {b : Nat} {g u : Nat → Int} (h : MH J b g u) {a1 a2 : Int} (p w i : Nat) (h1 : a1 = (p : Int)) (h2 : a2 = (w : Int)) (hj : p ≤ 6 ∧ w ≤ 20) (hi : i = 41 + w + 14 * p) {post' : Int → Prop} (hp : post' (g i)) : v_X12_told J 128 a1 a2 post' := p_X12_told h.1 h1 h2 (by have := h.2.1; omega) (by rw [h.2.2.1, show 41 + 14 * p + w = i by omega]; exact hp)
theorem n_shoeOf {J : mJ} {b : Nat} {g u : Nat → Int} (h : MH J b g u) {p : Nat} (hp : (p : Int) < g 3) {t : Int} {post' : Int → Prop} (hq : post' ((mQ u g).1 p t)) : v_X12_shoeOf J 128 (p : Int) t post' := by
  obtain ⟨a1, a2, a3, a4, a5, a6⟩ := h
  refine m_shoeOf a1 a2 (by rw [a3]; exact a4) (by rw [a3]; exact hp) ?_
  rw [a6 13 (by decide) (by decide) (by decide), a6 14 (by decide) (by decide) (by decide), a3]
  exact hq
theorem n_loudBy {J : mJ} {b : Nat} {g u : Nat → Int} (h : MH J b g u) {p s : Nat} (hp : (p : Int) < g 3) (hs : s < 24) {w : Int} (hw : 0 ≤ w ∧ w ≤ 9) {post' : Int → Prop} (hq : post' (mLoud u g p s w)) : v_X12_loudBy J 128 (p : Int) w (s : Int) post' := by
  have hU := UV_of h
  obtain ⟨a1, a2, a3, a4, a5, a6⟩ := h
  refine m_loudBy a1 a2 (by rw [a3]; exact a4) hU (by rw [a3]; exact hp) hs hw ?_
  rw [mLoud_cong (a6 18 (by decide) (by decide) (by decide)) (a6 19 (by decide) (by decide) (by decide)), a3]
  exact hq
theorem n_isHeard {J : mJ} {b : Nat} {g u : Nat → Int} (h : MH J b g u) {f : Nat} (hf : (f : Int) < g 2) {s l : Int} (hs : 0 ≤ s ∧ s ≤ 24) (hl : 0 ≤ l ∧ l ≤ 18) {post' : Bool → Prop} (hq : post' (gHear (mFlat u g f) (g (30 + 2 * f)) s l)) : v_X12_isHeard J 128 (f : Int) l s post' := by
  have hU := UV_of h
  obtain ⟨a1, a2, a3, a4, a5, a6⟩ := h
  refine m_isHeard a1 a2 (by rw [a3]; exact a4) hU (by rw [a3]; exact hf) hs hl ?_
  rw [mFlat_cong (a6 20 (by decide) (by decide) (by decide)) (a6 21 (by decide) (by decide) (by decide)), a3]
  exact hq
theorem n_ears {J : mJ} {b : Nat} {g u : Nat → Int} (h : MH J b g u) {s l : Int} (hs : 0 ≤ s ∧ s ≤ 24) (hl : 0 ≤ l ∧ l ≤ 18) {post' : Int → Prop} (hq : post' ((mEars u g l s : Nat) : Int)) : v_X12_ears J 128 l s post' := by
  have hU := UV_of h
  obtain ⟨a1, a2, a3, a4, a5, a6⟩ := h
  refine m_ears a1 a2 (by rw [a3]; exact a4) hU hs hl ?_
  rw [mEars_cong (a6 20 (by decide) (by decide) (by decide)) (a6 21 (by decide) (by decide) (by decide)), a3]
  exact hq
/-- the reference holds n treads T -/
def MR (J : mJ) (n : Nat) (T : Nat → Nat → Int) : Prop := J 128 25 = (n : Int) ∧ (∀ j k : Nat, j < 8 → k < n → J (132 + j) k = T j k)
theorem MR_frame {J J1 : mJ} {n : Nat} {T : Nat → Nat → Int} (h1 : ∀ j, j < 8 → J1 (132 + j) = J (132 + j)) (h2 : J1 128 25 = J 128 25) (h : MR J n T) : MR J1 n T := ⟨by rw [h2]; exact h.1, fun j k hj hk => by rw [h1 j hj]; exact h.2 j k hj hk⟩
/-- the shoe of one who is hired can be -/
def UH (u : Nat → Int) : Prop := u 13 = -1 ∨ (0 ≤ u 14 ∧ u 14 ≤ 9)
theorem mEars_lt {u g : Nat → Int} (hv : HV g) (l s : Int) : mEars u g l s < 64 := by
  have h2 := hv.2.2.1
  have h := earsF_lt (fun f => gHear (mFlat u g f) (g (30 + 2 * f)) s l) (g 2).toNat
  have hp : 2 ^ (g 2).toNat ≤ 2 ^ 6 := Nat.pow_le_pow_right (by decide) (by omega)
  unfold mEars; omega
theorem mQ9 {u g : Nat → Int} (hv : HV g) (hu : UV u) (hh : UH u) : QV9 g (mQ u g) := by
  refine ⟨fun p hp t => ?_, fun p s hp hs w hw => mLoud_rng hv hu hp hs hw, fun l s => mEars_lt hv l s⟩
  have := gShoe_rng hv hp t
  show 0 ≤ (if (p : Int) = u 13 then u 14 else gShoe g p t) ∧ (if (p : Int) = u 13 then u 14 else gShoe g p t) ≤ 9
  unfold UH at hh
  split <;> omega
set_option maxHeartbeats 1000000 in
theorem m_treads {J : mJ} {b n p s : Nat} {g u : Nat → Int} {T : Nat → Nat → Int} {t : Int} (h : MH J b g u) (hh : UH u) (hR : MR J n T) (hV : TV g n T) (hn : n < 640) (hp : (p : Int) < g 3) (hs : (s : Int) < g 0) (ht : 0 ≤ t ∧ t ≤ 99) {post' : mJ → Prop}
    (hq : ∀ J1 : mJ, MR J1 (n + 1) (adF T n (trF (mQ u g) (g 1) T n p s t)) → (∀ c, (c < 128 ∨ 128 < c) → (c < 132 ∨ 139 < c) → c ≠ 143 → J1 c = J c) → (∀ k, k ≠ 25 → J1 128 k = J 128 k) → J1 143 = up1 (J 143) p t → post' J1) : v_X12_treads J 128 (p : Int) (s : Int) t post' := by
  have hv := h.2.2.2.1
  have hu := h.2.2.2.2.1
  have h0 := hv.1
  have h3 := hv.2.2.2.1
  have hk1 := hv.2.1
  have hs24 : s < 24 := by omega
  have hQ := mQ9 hv hu hh
  have hsh := hQ.1 p hp t
  have hlo := hQ.2.1 p s hp hs24 _ hsh
  have hlr := latF_rng (T 1) (s : Int) n
  obtain ⟨hR1, hR2⟩ := hR
  have hb : (0 : Int) ≤ (n : Int) ∧ (n : Int) < 640 := ⟨by omega, by omega⟩
  have main : ∀ x : Int, x = echoF T n (s : Int) t (g 1) → (v_X12_treads_45 128 (p : Int) (s : Int) t post') J (n : Int) x := by
    intro x hx
    have hxr := echoF_rng (T := T) (n := n) (s := (s : Int)) (t := t) (keep := g 1)
    rw [← hx] at hxr
    unfold v_X12_treads_45
    refine ⟨hb, ?_⟩
    simp only [Int.toNat_natCast]
    intro J6 e6
    have q6 : ∀ c, c ≠ 137 → J6 c = J c := fun c hc => by rw [e6]; exact up2_n _ _ _ hc
    have r6 : J6 128 25 = (n : Int) := by rw [q6 _ (by decide)]; exact hR1
    rw [r6]
    simp only [Int.toNat_natCast]
    refine ⟨hb, ?_⟩
    intro J8 e8
    have q8 : ∀ c, c ≠ 132 → J8 c = J6 c := fun c hc => by rw [e8]; exact up2_n _ _ _ hc
    rw [show J8 128 25 = (n : Int) by rw [q8 _ (by decide)]; exact r6]
    simp only [Int.toNat_natCast]
    refine ⟨hb, ?_⟩
    intro J10 e10
    have q10 : ∀ c, c ≠ 133 → J10 c = J8 c := fun c hc => by rw [e10]; exact up2_n _ _ _ hc
    rw [show J10 128 25 = (n : Int) by rw [q10 _ (by decide), q8 _ (by decide)]; exact r6]
    simp only [Int.toNat_natCast]
    refine ⟨hb, ?_⟩
    intro J12 e12
    have q12 : ∀ c, c ≠ 134 → J12 c = J10 c := fun c hc => by rw [e12]; exact up2_n _ _ _ hc
    have a12 : ∀ c, (c < 132 ∨ 139 < c) → J12 c = J c := fun c hc => by rw [q12 _ (by omega), q10 _ (by omega), q8 _ (by omega), q6 _ (by omega)]
    have m12 : MH J12 b g u := MH_frame (a12 _ (by decide)) (fun k _ _ _ => by rw [a12 _ (by decide)]) h
    rw [show J12 128 25 = (n : Int) by rw [a12 _ (by decide)]; exact hR1]
    simp only [Int.toNat_natCast]
    refine n_shoeOf m12 hp ⟨hb, ?_⟩
    intro J15 e15
    have q15 : ∀ c, c ≠ 135 → J15 c = J12 c := fun c hc => by rw [e15]; exact up2_n _ _ _ hc
    have a15 : ∀ c, (c < 132 ∨ 139 < c) → J15 c = J c := fun c hc => by rw [q15 _ (by omega), a12 _ hc]
    have m15 : MH J15 b g u := MH_frame (a15 _ (by decide)) (fun k _ _ _ => by rw [a15 _ (by decide)]) h
    rw [show J15 128 25 = (n : Int) by rw [a15 _ (by decide)]; exact hR1]
    simp only [Int.toNat_natCast]
    rw [show J15 (128 + 7) n = (mQ u g).1 p t by rw [e15, up2_s, up1_s]]
    refine ⟨hb, n_loudBy m15 hp hs24 hsh ⟨hb, ?_⟩⟩
    intro J19 e19
    have q19 : ∀ c, c ≠ 136 → J19 c = J15 c := fun c hc => by rw [e19]; exact up2_n _ _ _ hc
    have a19 : ∀ c, (c < 132 ∨ 139 < c) → J19 c = J c := fun c hc => by rw [q19 _ (by omega), a15 _ hc]
    have m19 : MH J19 b g u := MH_frame (a19 _ (by decide)) (fun k _ _ _ => by rw [a19 _ (by decide)]) h
    rw [show J19 128 25 = (n : Int) by rw [a19 _ (by decide)]; exact hR1]
    simp only [Int.toNat_natCast]
    rw [show J19 (128 + 8) n = mLoud u g p s ((mQ u g).1 p t) by rw [e19, up2_s, up1_s]]
    refine ⟨hb, n_ears m19 ⟨by omega, by omega⟩ hlo ⟨hb, ?_⟩⟩
    intro J23 e23
    have q23 : ∀ c, c ≠ 138 → J23 c = J19 c := fun c hc => by rw [e23]; exact up2_n _ _ _ hc
    have a23 : ∀ c, (c < 132 ∨ 139 < c) → J23 c = J c := fun c hc => by rw [q23 _ (by omega), a19 _ hc]
    have m23 : MH J23 b g u := MH_frame (a23 _ (by decide)) (fun k _ _ _ => by rw [a23 _ (by decide)]) h
    rw [show J23 128 25 = (n : Int) by rw [a23 _ (by decide)]; exact hR1]
    simp only [Int.toNat_natCast]
    have c132 : J23 132 = up1 (J 132) n (p : Int) := by rw [q23 _ (by decide), q19 _ (by decide), q15 _ (by decide), q12 _ (by decide), q10 _ (by decide), e8, up2_s, q6 _ (by decide)]
    have c133 : J23 133 = up1 (J 133) n (s : Int) := by rw [q23 _ (by decide), q19 _ (by decide), q15 _ (by decide), q12 _ (by decide), e10, up2_s, q8 _ (by decide), q6 _ (by decide)]
    have c134 : J23 134 = up1 (J 134) n t := by rw [q23 _ (by decide), q19 _ (by decide), q15 _ (by decide), e12, up2_s, q10 _ (by decide), q8 _ (by decide), q6 _ (by decide)]
    have c135 : J23 135 = up1 (J 135) n ((mQ u g).1 p t) := by rw [q23 _ (by decide), q19 _ (by decide), e15, up2_s, q12 _ (by decide), q10 _ (by decide), q8 _ (by decide), q6 _ (by decide)]
    have c136 : J23 136 = up1 (J 136) n (mLoud u g p s ((mQ u g).1 p t)) := by rw [q23 _ (by decide), e19, up2_s, q15 _ (by decide), q12 _ (by decide), q10 _ (by decide), q8 _ (by decide), q6 _ (by decide)]
    have c137 : J23 137 = up1 (J 137) n x := by rw [q23 _ (by decide), q19 _ (by decide), q15 _ (by decide), q12 _ (by decide), q10 _ (by decide), q8 _ (by decide), e6, up2_s]
    have c138 : J23 138 = up1 (J 138) n ((mEars u g (mLoud u g p s ((mQ u g).1 p t)) (s : Int) : Nat) : Int) := by rw [e23, up2_s, q19 _ (by decide), q15 _ (by decide), q12 _ (by decide), q10 _ (by decide), q8 _ (by decide), q6 _ (by decide)]; rfl
    have c139 : J23 139 = J 139 := by rw [q23 _ (by decide), q19 _ (by decide), q15 _ (by decide), q12 _ (by decide), q10 _ (by decide), q8 _ (by decide), q6 _ (by decide)]
    rw [show J23 (128 + 9) n = x by show J23 137 n = x; rw [c137, up1_s]]
    have fin : ∀ w : Int, w = trF (mQ u g) (g 1) T n p s t 7 → (v_X12_treads_184 128 (p : Int) (s : Int) t post') J23 (n : Int) w := by
      intro w hw7
      unfold v_X12_treads_184
      refine ⟨hb, ?_⟩
      simp only [Int.toNat_natCast]
      intro J29 e29
      refine ⟨⟨by omega, by omega⟩, ?_⟩
      intro J31 e31
      have n31 : J31 128 25 = (n : Int) := by rw [e31, up2_n _ _ _ (by decide), e29, up2_n _ _ _ (by decide), a23 _ (by decide)]; exact hR1
      rw [n31]
      refine ⟨⟨by omega, by omega⟩, ?_⟩
      intro J33 e33
      have q33 : ∀ c, c ≠ 128 → c ≠ 143 → c ≠ 139 → J33 c = J23 c := by
        intro c a1 a2 a3
        rw [e33, up2_n _ _ _ a1, e31, up2_n _ _ _ a2, e29, up2_n _ _ _ a3]
      have d139 : J33 139 = up1 (J 139) n w := by rw [e33, up2_n _ _ _ (by decide), e31, up2_n _ _ _ (by decide), e29, up2_s, c139]
      have d143 : J33 143 = up1 (J 143) p t := by rw [e33, up2_n _ _ _ (by decide), e31, up2_s, e29, up2_n _ _ _ (by decide), a23 _ (by decide)]
      have d128 : J33 128 = up1 (J 128) 25 ((n : Int) + 1) := by rw [e33, up2_s, e31, up2_n _ _ _ (by decide), e29, up2_n _ _ _ (by decide), a23 _ (by decide)]
      have cell : ∀ (j : Nat) (v : Int), J33 (132 + j) = up1 (J (132 + j)) n v → j < 8 → v = trF (mQ u g) (g 1) T n p s t j → ∀ k, k < n + 1 → J33 (132 + j) k = adF T n (trF (mQ u g) (g 1) T n p s t) j k := by
        intro j v hc hj hvv k hk
        rw [hc]
        by_cases hkn : k = n
        · subst hkn; rw [up1_s, adF_new, hvv]
        · rw [up1_n _ _ hkn, adF_old (by omega)]; exact hR2 j k hj (by omega)
      refine hq J33 ⟨by rw [d128, up1_s]; omega, ?_⟩ ?_ ?_ d143
      · intro j k hj hk
        match j, hj with
        | 0, h => exact cell 0 _ ((q33 132 (by decide) (by decide) (by decide)).trans c132) h rfl k hk
        | 1, h => exact cell 1 _ ((q33 133 (by decide) (by decide) (by decide)).trans c133) h rfl k hk
        | 2, h => exact cell 2 _ ((q33 134 (by decide) (by decide) (by decide)).trans c134) h rfl k hk
        | 3, h => exact cell 3 _ ((q33 135 (by decide) (by decide) (by decide)).trans c135) h rfl k hk
        | 4, h => exact cell 4 _ ((q33 136 (by decide) (by decide) (by decide)).trans c136) h rfl k hk
        | 5, h => exact cell 5 _ ((q33 137 (by decide) (by decide) (by decide)).trans c137) h hx k hk
        | 6, h => exact cell 6 _ ((q33 138 (by decide) (by decide) (by decide)).trans c138) h rfl k hk
        | 7, h => exact cell 7 _ d139 h hw7 k hk
        | j + 8, h9 => omega
      · intro c hc1 hc2 hc3
        rw [q33 c (by omega) hc3 (by omega), a23 c hc2]
      · intro k hk
        rw [d128, up1_n _ _ hk]
    refine ⟨hb, fun c => ?_, fun c => fin _ ?_⟩
    · have hy : x.toNat < n := by omega
      have hV5 := hV _ hy
      have r4 : J23 (128 + 8) x.toNat = T 4 x.toNat := by
        show J23 136 x.toNat = _
        rw [c136, up1_n _ _ (by omega)]; exact hR2 4 _ (by decide) hy
      rw [r4, divZ_two ⟨by omega, by omega⟩]
      refine ⟨hb, ⟨by omega, by omega⟩, n_ears m23 ⟨by omega, by omega⟩ ⟨by omega, by omega⟩ (fin _ ?_)⟩
      rw [trF_7, ← hx, if_neg c]; rfl
    · rw [trF_7, ← hx, if_pos c]
  unfold v_X12_treads
  refine m_latest (T := T) hR1 (by omega) (fun k hk => ⟨hR2 0 k (by decide) hk, hR2 1 k (by decide) hk⟩) (fun k hk => (hV k hk).1.1) ?_
  rw [hR1]
  refine ⟨fun c => main _ ?_, fun c => ?_⟩
  · unfold echoF; rw [if_neg (by omega)]
  · have hyn : (latF (T 1) (s : Int) n).toNat < n := by omega
    have hV5 := hV _ hyn
    rw [show J (128 + 6) (latF (T 1) (s : Int) n).toNat = T 2 (latF (T 1) (s : Int) n).toNat from hR2 2 _ (by decide) hyn]
    refine ⟨⟨by omega, by omega⟩, ⟨by omega, by omega⟩, n_of h (j := 1) rfl (by decide) ⟨fun c2 => main _ ?_, fun c2 => main _ ?_⟩⟩
    · unfold echoF; rw [if_neg (by omega)]
    · unfold echoF; rw [if_pos ⟨c, by omega⟩]
