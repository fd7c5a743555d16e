/-! the price of a step in a minute, on both sides -/
def hxF (g : Nat → Int) (p s : Nat) (t : Int) : Nat := gEars g (gLoud g p s (gShoe g p t)) (s : Int) ||| (if lO (gRun g).1 (gRun g).2 p s t ≠ -1 ∧ t - (gRun g).2 2 (lO (gRun g).1 (gRun g).2 p s t).toNat ≤ g 1 then gEars g ((gRun g).2 4 (lO (gRun g).1 (gRun g).2 p s t).toNat / 2) (s : Int) else 0)
def qP (fl : Int) (H : Nat) (b : Bool) : Nat := if fl = -1 then (if H ≠ 0 ∧ b = false then 1 else 0) else (if H &&& fl.toNat ≠ 0 then 2 else 0)
def qF (g : Nat → Int) (p mi : Nat) (fl : Int) (i s : Nat) : Nat := qP fl (hxF g p s ((mi + i : Nat) : Int)) (cvB (gRun g).1 (gRun g).2 p s ((mi + i : Nat) : Int))
theorem qF_2 (g : Nat → Int) (p mi : Nat) (fl : Int) (i s : Nat) : qF g p mi fl i s ≤ 2 := by
  unfold qF qP; split <;> split <;> omega
theorem hxF_lt {g : Nat → Int} (hv : HV g) (p s : Nat) (t : Int) : hxF g p s t < 64 := by
  unfold hxF
  refine Nat.or_lt_two_pow (n := 6) (gEars_lt hv _ _) ?_
  split
  · exact gEars_lt hv _ _
  · decide
theorem x_priceOf {J : mJ} {fl : Int} {H : Nat} {b : Bool} (h8 : J 70 8 = fl) (hf : fl = -1 ∨ 0 ≤ fl ∧ fl < 64) (hH : H < 64) {post' : Int → Prop} (hq : post' ((pw 1000 (qP fl H b) : Nat) : Int)) : v_X7_priceOf J 70 (H : Int) (bZ b) post' := by
  unfold v_X7_priceOf
  rw [h8]
  unfold qP at hq
  refine ⟨fun c => ?_, fun c => ?_⟩
  · rw [if_neg c] at hq
    obtain ⟨m, rfl⟩ : ∃ m : Nat, fl = (m : Int) := ⟨fl.toNat, by omega⟩
    rw [andZ_nat (by omega) (by omega)]
    rw [Int.toNat_natCast] at hq
    refine ⟨fun c2 => ?_, fun c2 => ?_⟩
    · rw [if_neg (by omega)] at hq; exact hq
    · rw [if_pos (by omega)] at hq; exact hq
  · rw [if_pos c] at hq
    refine ⟨fun c2 => ?_, fun c2 => ⟨fun c3 => ?_, fun c3 => ?_⟩⟩
    · rw [if_neg (by omega)] at hq; exact hq
    · have hb : b = true := by cases b; exact absurd rfl c3; rfl
      rw [if_neg (fun h => by rw [hb] at h; exact Bool.noConfusion h.2)] at hq; exact hq
    · have hb : b = false := by cases b; rfl; exact absurd c3 (by decide)
      rw [if_pos ⟨by omega, hb⟩] at hq; exact hq
theorem x_setPrices {J : mJ} {e h p mi i : Nat} {g : Nat → Int} {fl : Int} (hv : HV g) (hr : HR J h g) (hh : h ≤ 40) (he : 90 ≤ e) (hO : EvO J e g) (hW : WO J 66 (gRun g).1 (gRun g).2 p (mi + 1) 60) (hp : (p : Int) < g 3) (hm : mi ≤ 99) (h4 : J 70 4 = (p : Int)) (h7 : J 70 7 = (mi : Int)) (h8 : J 70 8 = fl) (hf : fl = -1 ∨ 0 ≤ fl ∧ fl < 64) (hi : 1 ≤ i ∧ i ≤ 60) {post' : mJ → Prop} (hq : ∀ J1, (∀ c, c ≠ 72 → J1 c = J c) → (∀ k, k < 24 * i → J1 72 k = J 72 k) → (∀ s : Nat, (s : Int) < g 0 → J1 72 (24 * i + s) = ((pw 1000 (qF g p mi fl i s) : Nat) : Int)) → post' J1) : v_X7_setPrices J 70 e h 66 (i : Int) post' := by
  have h0 := hv.1
  have hV := gRun_TV hv
  have hn := gRun_le hv
  unfold v_X7_setPrices
  rw [h4, h7]
  refine ⟨⟨by omega, by omega⟩, ?_⟩
  intro y2 ey
  rw [show (mi : Int) + (i : Int) = ((mi + i : Nat) : Int) by omega] at ey
  subst ey
  refine x_shoeAt hv hr hp ?_
  have ws := gShoe_rng hv hp ((mi + i : Nat) : Int)
  unfold v_X7_setPrices_26
  intro ZZ hZ
  refine lpN (S := fun s => ∀ J1 : mJ, (∀ c, c ≠ 72 → J1 c = J c) → (∀ k, k < 24 * i → J1 72 k = J 72 k) → (∀ s' : Nat, s' < s → J1 72 (24 * i + s') = ((pw 1000 (qF g p mi fl i s') : Nat) : Int)) → ZZ J1 ((mi + i : Nat) : Int) (gShoe g p ((mi + i : Nat) : Int)) (s : Int)) (N := (g 0).toNat) (fun s hs ih J1 fr f1 f2 => hZ _ _ _ _ ?_) (fun J1 fr f1 f2 => hZ _ _ _ _ ?_) J (fun _ _ => rfl) (fun _ _ => rfl) (fun s' h => absurd h (Nat.not_lt_zero _))
  · have hr1 : HR J1 h g := HR_frame (fun q hq => fr _ (by omega)) hr
    have hO1 : EvO J1 e g := EvO_frame (fun q hq => fr _ (by omega)) hO
    have hW1 : WO J1 66 (gRun g).1 (gRun g).2 p (mi + 1) 60 := by
      unfold WO; rw [fr 66 (by decide), fr (66 + 1) (by decide), fr (66 + 2) (by decide)]; exact hW
    rw [hr1.1.1, hr1.1.2.1, show J1 70 4 = (p : Int) by rw [fr 70 (by decide)]; exact h4]
    have lr := gLoud_rng hv (p := p) (s := s) (w := gShoe g p ((mi + i : Nat) : Int)) hp (by omega) ws
    have el := gEars_lt hv (gLoud g p s (gShoe g p ((mi + i : Nat) : Int))) (s : Int)
    have fin : v_X7_setPrices_117 70 e h 66 (i : Int) post' ZZ J1 ((mi + i : Nat) : Int) (gShoe g p ((mi + i : Nat) : Int)) (s : Int) ((hxF g p s ((mi + i : Nat) : Int) : Nat) : Int) := by
      unfold v_X7_setPrices_117
      rw [show ((i : Int) * 24 + (s : Int)).toNat = 24 * i + s by omega]
      refine ⟨⟨by omega, by omega⟩, ⟨by omega, by omega⟩, x_cover hV (by omega) hW1 (by decide) (by omega) (by omega) (by omega) (x_priceOf (by rw [fr 70 (by decide)]; exact h8) hf (hxF_lt hv _ _ _) ⟨⟨by omega, by omega⟩, ?_⟩)⟩
      rintro J2 rfl
      refine ⟨⟨by omega, by omega⟩, ?_⟩
      rintro _ rfl
      refine ih _ (fun c hc => by rw [up2_n _ _ _ hc]; exact fr c hc) (fun k hk => ?_) (fun s' hs' => ?_)
      · show up2 J1 (70 + 2) _ _ (70 + 2) k = _
        rw [up2_off _ _ (Or.inr (by omega))]; exact f1 k hk
      · show up2 J1 (70 + 2) _ _ (70 + 2) _ = _
        by_cases ee : s' = s
        · subst ee; rw [up2_at]; rfl
        · rw [up2_off _ _ (Or.inr (by omega))]; exact f2 s' (by omega)
    refine ⟨fun c => by omega, fun _ => x_loudOf hv hr1 hp (by omega) ws (x_hearersI hv hO1.2.1 (by omega) lr (x_latestOn hW1 (by decide) (by omega) (by omega) (by omega) ⟨fun c => ?_, fun c => ?_⟩))⟩
    · unfold hxF at fin
      rw [if_neg (fun h => h.1 c), Nat.or_zero] at fin
      exact fin
    · obtain ⟨l1, _⟩ := lO_spec c
      obtain ⟨_, _, t2, _, t4, _⟩ := hV (lO (gRun g).1 (gRun g).2 p s ((mi + i : Nat) : Int)).toNat (by omega)
      rw [show J1 (e + 3) (lO (gRun g).1 (gRun g).2 p s ((mi + i : Nat) : Int)).toNat = _ from hO1.1.2.1 2 _ (by decide) (by omega), show J1 (e + 5) (lO (gRun g).1 (gRun g).2 p s ((mi + i : Nat) : Int)).toNat = _ from hO1.1.2.1 4 _ (by decide) (by omega)]
      refine ⟨⟨by omega, by omega⟩, ⟨by omega, by omega⟩, fun c2 => ?_, fun c2 => ⟨⟨by omega, by omega⟩, ?_⟩⟩
      · unfold hxF at fin
        rw [if_neg (fun h => absurd h.2 (by omega)), Nat.or_zero] at fin
        exact fin
      · rw [divZ_two (by omega)]
        refine x_hearersI hv hO1.2.1 (by omega) (by omega) ?_
        have el2 := gEars_lt hv ((gRun g).2 4 (lO (gRun g).1 (gRun g).2 p s ((mi + i : Nat) : Int)).toNat / 2) (s : Int)
        rw [orZ_nat (by omega) (by omega)]
        rintro _ rfl
        unfold hxF at fin
        rw [if_pos ⟨c, by omega⟩] at fin
        exact fin
  · have hr1 : HR J1 h g := HR_frame (fun q hq => fr _ (by omega)) hr
    rw [hr1.1.1]
    exact ⟨fun _ => hq J1 fr f1 (fun s hs => f2 s (by omega)), fun c => by omega⟩
/-! the reference: one is absent -/
def UA (u : Nat → Int) (p : Nat) : Prop := u 13 = -1 ∧ u 15 = -1 ∧ u 17 = (p : Int) ∧ u 18 = -1 ∧ u 20 = -1 ∧ u 22 = 0
theorem ua_other {u g : Nat → Int} {p : Nat} (hu : UA u p) {p' : Nat} (hp : p' ≠ p) (t : Nat) : goT (mGo u g) p' t = goT (gGo g) p' t := by
  refine goT_cong (fun t on k => ?_) t
  rw [mGo_not (by rw [hu.2.2.1]; omega)]
  unfold mBeg; rw [if_neg (by rw [hu.2.1]; omega)]; rfl
theorem ua_own {u g : Nat → Int} {p : Nat} (hu : UA u p) (t : Nat) : (goT (mGo u g) p t).1 = false := by
  unfold goT
  rw [mGo_abs (by rw [hu.2.2.1])]
theorem ua_none {u g : Nat → Int} {p k : Nat} (hu : UA u p) (hk : k < (mRun u g).1) : (mRun u g).2 0 k ≠ (p : Int) := by
  obtain ⟨q, m, _, _, e0, _, e3, _⟩ := (mTW (u := u) (g := g)).1.2 k hk
  intro c
  have : q = p := by omega
  subst this
  rw [ua_own hu] at e3; exact Bool.noConfusion e3
theorem td_same {tr tr' : Tr} {P n n' p s : Nat} {T T' : Nat → Nat → Int} {t : Int} (hW : TW tr P 100 0 (n, T)) (hW' : TW tr' P 100 0 (n', T')) (he : ∀ p' t', p' ≠ p → tr p' t' = tr' p' t') (h : ∃ k, k < n ∧ T 0 k ≠ (p : Int) ∧ T 2 k = t ∧ T 1 k = (s : Int)) : ∃ k, k < n' ∧ T' 0 k ≠ (p : Int) ∧ T' 2 k = t ∧ T' 1 k = (s : Int) := by
  obtain ⟨⟨o1, l1⟩, _, c1⟩ := hW
  obtain ⟨⟨o2, l2⟩, _, c2⟩ := hW'
  obtain ⟨k, hk, h0, h2, h1⟩ := h
  obtain ⟨q, m, hq, hm, e0, e2, e3, e1⟩ := l1 k hk
  have hqp : q ≠ p := fun c => h0 (by show T 0 k = _; rw [← c]; exact e0)
  obtain ⟨k', hk', f0, f2⟩ := c2 q m hq (Or.inl hm) (by rw [← he q m hqp]; exact e3)
  obtain ⟨q', m', _, _, g0, g2, _, g1⟩ := l2 k' hk'
  change T' 0 k' = _ at f0 g0
  change T' 2 k' = _ at f2 g2
  change T 0 k = _ at e0
  change T 2 k = _ at e2
  change T 1 k = _ at e1
  change T' 1 k' = _ at g1
  have eq1 : q' = q := by omega
  have eq2 : m' = m := by omega
  subst eq1; subst eq2
  exact ⟨k', hk', by omega, by omega, by rw [g1, ← he q' m' hqp, ← e1]; exact h1⟩
theorem mTW2 {u g : Nat → Int} : TW (goT (mGo u g)) (g 3).toNat 100 0 ((mRun u g).1, (mRun u g).2) := mTW
theorem gTW2 {g : Nat → Int} : TW (goT (gGo g)) (g 3).toNat 100 0 ((gRun g).1, (gRun g).2) := gTW
def cvM (T : Nat → Nat → Int) (s : Nat) (t : Int) (n : Nat) : Bool := anyF (fun k => decide (T 1 k = (s : Int)) && decide (T 2 k = t)) n
theorem cv_eq {u g : Nat → Int} (hv : HV g) {p s : Nat} (hu : UA u p) (t : Int) : cvM (mRun u g).2 s t (mRun u g).1 = cvB (gRun g).1 (gRun g).2 p s t := by
  have hV := gRun_TV hv
  apply Bool.eq_iff_iff.mpr
  unfold cvM cvB
  rw [orF_bit, anyF_iff, anyF_iff]
  have e1 : (∃ k, k < (gRun g).1 ∧ (tdB (gRun g).2 p t k).testBit s = true) ↔ (∃ k, k < (gRun g).1 ∧ (gRun g).2 0 k ≠ (p : Int) ∧ (gRun g).2 2 k = t ∧ (gRun g).2 1 k = (s : Int)) := by
    constructor
    · rintro ⟨k, hk, h⟩
      obtain ⟨_, t1, _⟩ := hV k hk
      unfold tdB at h
      by_cases c : (gRun g).2 0 k ≠ (p : Int) ∧ (gRun g).2 2 k = t
      · rw [if_pos c, Nat.testBit_two_pow, decide_eq_true_eq] at h
        exact ⟨k, hk, c.1, c.2, by omega⟩
      · rw [if_neg c, Nat.zero_testBit] at h; exact Bool.noConfusion h
    · rintro ⟨k, hk, h0, h2, h1⟩
      refine ⟨k, hk, ?_⟩
      unfold tdB
      rw [if_pos ⟨h0, h2⟩, Nat.testBit_two_pow, decide_eq_true_eq]; omega
  rw [e1]
  constructor
  · rintro ⟨k, hk, h⟩
    rw [Bool.and_eq_true, decide_eq_true_eq, decide_eq_true_eq] at h
    exact td_same (mTW2 (u := u) (g := g)) (gTW2 (g := g)) (fun p' t' hp => ua_other hu hp t') ⟨k, hk, ua_none hu hk, h.2, h.1⟩
  · intro h
    obtain ⟨k, hk, h0, h2, h1⟩ := td_same (gTW2 (g := g)) (mTW2 (u := u) (g := g)) (fun p' t' hp => (ua_other hu hp t').symm) h
    exact ⟨k, hk, by rw [decide_eq_true h1, decide_eq_true h2]; rfl⟩
def lMk (T : Nat → Nat → Int) (p s : Nat) (t : Int) (n : Nat) : Int := latP (fun k => decide (T 1 k = (s : Int)) && ahB T p t k) n
theorem lM_eq {u g : Nat → Int} {p s : Nat} (hu : UA u p) (t : Int) : lMk (mRun u g).2 p s t (mRun u g).1 = lO (mRun u g).1 (mRun u g).2 p s t := by
  unfold lMk lO
  refine latP_cong _ (fun k hk => ?_)
  unfold otB
  rw [dec_eq (show ((mRun u g).2 0 k ≠ (p : Int) ∧ (mRun u g).2 1 k = (s : Int)) ↔ (mRun u g).2 1 k = (s : Int) from ⟨fun h => h.2, fun h => ⟨ua_none hu hk, h⟩⟩)]
theorem lO_ua {u g : Nat → Int} {p s : Nat} (hu : UA u p) (t : Int) : (lO (mRun u g).1 (mRun u g).2 p s t = -1 ↔ lO (gRun g).1 (gRun g).2 p s t = -1) ∧ (lO (mRun u g).1 (mRun u g).2 p s t ≠ -1 → (mRun u g).2 2 (lO (mRun u g).1 (mRun u g).2 p s t).toNat = (gRun g).2 2 (lO (gRun g).1 (gRun g).2 p s t).toNat ∧ (mRun u g).2 4 (lO (mRun u g).1 (mRun u g).2 p s t).toNat = (gRun g).2 4 (lO (gRun g).1 (gRun g).2 p s t).toNat) := by
  refine ⟨⟨fun h => lat_same' (mTW2 (u := u) (g := g)) (gTW2 (g := g)) (fun p' t' hp => ua_other hu hp t') h, fun h => lat_same' (gTW2 (g := g)) (mTW2 (u := u) (g := g)) (fun p' t' hp => (ua_other hu hp t').symm) h⟩, fun h => ?_⟩
  obtain ⟨h1, h2, h3⟩ := lat_same (mTW2 (u := u) (g := g)) (gTW2 (g := g)) (fun p' t' hp => ua_other hu hp t') h
  obtain ⟨a1, a2, a3, a4⟩ := lO_spec h
  obtain ⟨b1, b2, b3, b4⟩ := lO_spec h1
  refine ⟨h3, ?_⟩
  obtain ⟨m3, m4, _⟩ := mTQ (u := u) (g := g) (lO (mRun u g).1 (mRun u g).2 p s t).toNat (by omega)
  obtain ⟨g3, g4, _⟩ := gTQ (g := g) (lO (gRun g).1 (gRun g).2 p s t).toNat (by omega)
  rw [m4, m3, g4, g3, mQ_plain hu.1 hu.2.2.2.1 hu.2.2.2.2.1, h2, h3, a3, b3]
theorem n_costOf {J : mJ} {b p s mi i : Nat} {g u : Nat → Int} {fl some th : Int} (h : MH J b g u) (hu : UA u p) (hR : MR J (mRun u g).1 (mRun u g).2) (hp : (p : Int) < g 3) (hs : (s : Int) < g 0) (hm : mi ≤ 99) (hi : i ≤ 60) (hth : (th = 0 ∧ fl = some ∧ 0 ≤ fl ∧ fl < 64) ∨ (th = 1 ∧ fl = -1 ∧ some = ((2 ^ (g 2).toNat - 1 : Nat) : Int))) {post' : Int → Prop} (hq : post' ((pw 1000000 (qF g p mi fl i s) : Nat) : Int)) : v_X12_costOf J 128 (p : Int) (s : Int) ((mi + i : Nat) : Int) some th post' := by
  have hv := h.2.2.2.1
  have h0 := hv.1
  have h2 := hv.2.2.1
  have hV := mRun_TV (u := u) hv h.2.2.2.2.1 (Or.inl hu.1) (Or.inl hu.2.1)
  have hn := mRun_le (u := u) hv
  have ws := gShoe_rng hv hp ((mi + i : Nat) : Int)
  have lr := gLoud_rng hv (p := p) (s := s) (w := gShoe g p ((mi + i : Nat) : Int)) hp (by omega) ws
  have el := gEars_lt hv (gLoud g p s (gShoe g p ((mi + i : Nat) : Int))) (s : Int)
  have eF := earsF_lt (fun f => gHear (g (29 + 2 * f)) (g (30 + 2 * f)) (s : Int)  (gLoud g p s (gShoe g p ((mi + i : Nat) : Int)))) (g 2).toNat
  unfold v_X12_costOf
  refine n_shoeOf h hp ?_
  rw [mQ_plain hu.1 hu.2.2.2.1 hu.2.2.2.2.1]
  refine n_loudBy h hp (by omega) ws ?_
  rw [show mLoud u g = gLoud g from congrArg (fun q : Qs => q.2.1) (mQ_plain (g := g) hu.1 hu.2.2.2.1 hu.2.2.2.2.1)]
  refine n_ears h ⟨by omega, by omega⟩ lr ?_
  rw [mEars_m hu.2.2.2.2.1]
  generalize ht : ((mi + i : Nat) : Int) = t at *
  have tr : 0 ≤ t ∧ t ≤ 159 := by omega
  have hxF2 : hxF g p s t < 2 ^ (g 2).toNat := by
    unfold hxF
    refine Nat.or_lt_two_pow eF ?_
    split
    · exact earsF_lt _ _
    · exact Nat.two_pow_pos _
  have fin : v_X12_costOf_176 J 128 (p : Int) (s : Int) t some th post' ((hxF g p s t : Nat) : Int) (bZ (cvM (mRun u g).2 s t (mRun u g).1)) := by
    unfold v_X12_costOf_176
    have hx := hxF_lt hv p s t
    have hF : 2 ^ (g 2).toNat ≤ 2 ^ 6 := Nat.pow_le_pow_right (by decide) (by omega)
    rw [cv_eq hv hu]
    unfold qF qP at hq
    rw [ht] at hq
    rcases hth with ⟨e1, e2, e3⟩ | ⟨e1, e2, e3⟩
    · subst e2
      rw [if_neg (by omega)] at hq
      obtain ⟨m, rfl⟩ : ∃ m : Nat, fl = (m : Int) := ⟨fl.toNat, by omega⟩
      rw [andZ_nat (by omega) (by omega)]
      rw [Int.toNat_natCast] at hq
      refine ⟨fun c => ⟨fun _ => ?_, fun c2 => absurd e1 c2⟩, fun c => ?_⟩
      · rw [if_pos (by omega)] at hq; exact hq
      · rw [if_neg (by omega)] at hq; exact hq
    · rw [if_pos e2] at hq
      rw [e3, andZ_nat (by omega) (by omega), Nat.and_two_pow_sub_one_eq_mod, Nat.mod_eq_of_lt hxF2]
      refine ⟨fun c => ⟨fun c2 => by omega, fun _ => ⟨fun c2 => ?_, fun c2 => ?_⟩⟩, fun c => ?_⟩
      · have hb : cvB (gRun g).1 (gRun g).2 p s t = false := by
          revert c2; cases cvB (gRun g).1 (gRun g).2 p s t
          · intro _; rfl
          · intro c2; exact absurd c2 (by decide)
        rw [if_pos ⟨by omega, hb⟩] at hq; exact hq
      · rw [if_neg (fun h => by rw [h.2] at c2; exact absurd rfl c2)] at hq; exact hq
      · rw [if_neg (by omega)] at hq; exact hq
  unfold v_X12_costOf_28
  intro ZZ hZ
  refine lpN (S := fun k => ZZ ((gEars g (gLoud g p s (gShoe g p t)) (s : Int) : Nat) : Int) (lMk (mRun u g).2 p s t k) (bZ (cvM (mRun u g).2 s t k)) (k : Int)) (N := (mRun u g).1) (fun k hk ih => hZ _ _ _ _ ?_) (hZ _ _ _ _ ?_)
  · rw [hR.1, Int.toNat_natCast, show J (128 + 5) k = _ from hR.2 1 k (by decide) hk, show J (128 + 6) k = _ from hR.2 2 k (by decide) hk, show J (128 + 4) k = _ from hR.2 0 k (by decide) hk]
    have nx : (mRun u g).2 1 k = (s : Int) → ∀ s0 : Int, s0 = lMk (mRun u g).2 p s t (k + 1) → v_X12_costOf_103 J 128 (p : Int) (s : Int) t some th post' ZZ ((gEars g (gLoud g p s (gShoe g p t)) (s : Int) : Nat) : Int) (bZ (cvM (mRun u g).2 s t k)) (k : Int) s0 := by
      intro e1
      rintro _ rfl
      unfold v_X12_costOf_103
      rw [Int.toNat_natCast, show J (128 + 6) k = _ from hR.2 2 k (by decide) hk]
      have ec : cvM (mRun u g).2 s t (k + 1) = (cvM (mRun u g).2 s t k || decide ((mRun u g).2 2 k = t)) := by
        unfold cvM; rw [anyF, decide_eq_true e1, Bool.true_and]
      rw [ec] at ih
      refine ⟨fun c => ⟨⟨by omega, by omega⟩, ?_⟩, fun c => ⟨⟨by omega, by omega⟩, fun c2 => ⟨⟨by omega, by omega⟩, ?_⟩, fun c2 => ⟨⟨by omega, by omega⟩, ?_⟩⟩⟩
      · rintro _ rfl
        have : cvM (mRun u g).2 s t k = true := by
          revert c; cases cvM (mRun u g).2 s t k
          · intro c; exact absurd rfl c
          · intro _; rfl
        rw [this, Bool.true_or] at ih; exact ih
      · rintro _ rfl
        have : cvM (mRun u g).2 s t k = false := by
          revert c; cases cvM (mRun u g).2 s t k
          · intro _; rfl
          · intro c; exact absurd c (by decide)
        rw [this, decide_eq_false c2, Bool.false_or] at ih; exact ih
      · rintro _ rfl
        rw [decide_eq_true c2, Bool.or_true] at ih; exact ih
    have la : (mRun u g).2 1 k = (s : Int) → ahB (mRun u g).2 p t k = true → (k : Int) = lMk (mRun u g).2 p s t (k + 1) := fun e1 e2 => by
      unfold lMk; rw [latP, if_pos (by rw [decide_eq_true e1, e2]; rfl)]
    have lb : ¬ ahB (mRun u g).2 p t k = true → lMk (mRun u g).2 p s t k = lMk (mRun u g).2 p s t (k + 1) := fun e2 => by
      unfold lMk; rw [latP, if_neg (by rw [Bool.and_eq_true]; exact fun h => e2 h.2)]
    refine ⟨fun c => by omega, fun _ => ⟨⟨by omega, by omega⟩, fun c1 => ⟨⟨by omega, by omega⟩, fun c2 => ?_, fun c2 => ⟨⟨by omega, by omega⟩, fun c3 => ?_, fun c3 => ⟨⟨by omega, by omega⟩, fun c4 => ?_, fun c4 => ?_⟩⟩⟩, fun c1 => ⟨⟨by omega, by omega⟩, ?_⟩⟩⟩
    · exact ⟨fun c => absurd c (by decide), fun _ => nx c1 _ (la c1 (by unfold ahB; rw [decide_eq_true_eq]; omega))⟩
    · exact ⟨fun _ => nx c1 _ (lb (by unfold ahB; rw [decide_eq_true_eq]; omega)), fun c => absurd rfl c⟩
    · exact ⟨fun _ => nx c1 _ (lb (by unfold ahB; rw [decide_eq_true_eq]; omega)), fun c => absurd rfl c⟩
    · exact ⟨fun c => absurd c (by decide), fun _ => nx c1 _ (la c1 (by unfold ahB; rw [decide_eq_true_eq]; omega))⟩
    · rintro _ rfl
      have e1 : lMk (mRun u g).2 p s t (k + 1) = lMk (mRun u g).2 p s t k := by
        unfold lMk; rw [latP, if_neg (by rw [decide_eq_false c1, Bool.false_and]; decide)]
      have e2 : cvM (mRun u g).2 s t (k + 1) = cvM (mRun u g).2 s t k := by
        unfold cvM; rw [anyF, decide_eq_false c1, Bool.false_and, Bool.or_false]
      rw [e1, e2] at ih; exact ih
  · rw [hR.1]
    refine ⟨fun _ => ?_, fun c => absurd (Int.le_refl _) c⟩
    obtain ⟨q1, q2⟩ := lO_ua (g := g) (s := s) hu t
    rw [← lM_eq hu] at q1 q2
    have lm := latP_rng (fun k => decide ((mRun u g).2 1 k = (s : Int)) && ahB (mRun u g).2 p t k) (mRun u g).1
    change -1 ≤ lMk (mRun u g).2 p s t (mRun u g).1 ∧ lMk (mRun u g).2 p s t (mRun u g).1 < _ at lm
    unfold v_X12_costOf_134
    refine ⟨fun c => ?_, fun c => ?_⟩
    · unfold hxF at fin
      rw [if_neg (fun h => h.1 (q1.mp c)), Nat.or_zero] at fin
      exact fin
    · obtain ⟨r2, r4⟩ := q2 c
      obtain ⟨_, _, t2, _, t4, _⟩ := hV (lMk (mRun u g).2 p s t (mRun u g).1).toNat (by omega)
      rw [show J (128 + 6) (lMk (mRun u g).2 p s t (mRun u g).1).toNat = _ from hR.2 2 _ (by decide) (by omega), show J (128 + 8) (lMk (mRun u g).2 p s t (mRun u g).1).toNat = _ from hR.2 4 _ (by decide) (by omega)]
      have hx2 : lO (gRun g).1 (gRun g).2 p s t ≠ -1 := fun h => c (q1.mpr h)
      unfold hxF at fin
      refine ⟨⟨by omega, by omega⟩, ⟨by omega, by omega⟩, n_of h (j := 1) rfl (by decide) ⟨fun c2 => ?_, fun c2 => ⟨⟨by omega, by omega⟩, ?_⟩⟩⟩
      · rw [if_neg (fun h => absurd h.2 (by omega)), Nat.or_zero] at fin
        exact fin
      · rw [divZ_two (by omega)]
        refine n_ears h ⟨by omega, by omega⟩ (by omega) ?_
        rw [mEars_m hu.2.2.2.2.1, r4]
        have el2 := gEars_lt hv ((gRun g).2 4 (lO (gRun g).1 (gRun g).2 p s t).toNat / 2) (s : Int)
        rw [orZ_nat (by omega) (by omega)]
        rintro _ rfl
        rw [if_pos ⟨hx2, by omega⟩] at fin
        exact fin
/-- the reference's row of prices -/
def MC (J : mJ) (g : Nat → Int) (p mi : Nat) (fl : Int) : Prop := ∀ i s : Nat, 1 ≤ i → i ≤ 60 → (s : Int) < g 0 → J 144 (24 * i + s) = ((pw 1000000 (qF g p mi fl i s) : Nat) : Int)
theorem n_costs {J : mJ} {b p mi : Nat} {g : Nat → Int} {fl some th : Int} (h : MH J b g (J 128)) (hp : UP (J 128)) (hp3 : (p : Int) < g 3) (hm : mi ≤ 99) (hth : (th = 0 ∧ fl = some ∧ 0 ≤ fl ∧ fl < 64) ∨ (th = 1 ∧ fl = -1 ∧ some = ((2 ^ (g 2).toNat - 1 : Nat) : Int))) {post' : mJ → Prop} (hq : ∀ J1, MH J1 b g (J1 128) → (∀ c, (c < 128 ∨ 128 < c) → (c < 132 ∨ 144 < c) → J1 c = J c) → MC J1 g p mi fl → post' J1) : v_X12_costs J 128 (p : Int) (mi : Int) some th post' := by
  have hv := h.2.2.2.1
  have h0 := hv.1
  unfold v_X12_costs
  rintro J1 rfl
  have F0 : FK J (up2 J 128 17 (p : Int)) b g := FK_up ⟨h, fun _ _ _ => rfl⟩ (by decide) (fun e => by omega) (fun e => by omega)
  have k0 : ∀ i, i ≠ 17 → up2 J 128 17 (p : Int) 128 i = J 128 i := fun i h1 => by rw [up2_s, up1_n _ _ h1]
  have hu : UA (up2 J 128 17 (p : Int) 128) p := ⟨by rw [k0 13 (by decide)]; exact hp.1, by rw [k0 15 (by decide)]; exact hp.2.1, by rw [up2_s, up1_s], by rw [k0 18 (by decide)]; exact hp.2.2.2.1, by rw [k0 20 (by decide)]; exact hp.2.2.2.2.1, by rw [k0 22 (by decide)]; exact hp.2.2.2.2.2⟩
  refine FK_run F0 (Or.inl hu.1) (Or.inl hu.2.1) hu.2.2.2.2.2 (fun J2 hO F2 f2 => ?_)
  generalize up2 J 128 17 (p : Int) 128 = u at hu hO f2
  have hM2 : MH J2 b g u := ⟨F2.1.1, F2.1.2.1, F2.1.2.2.1, F2.1.2.2.2.1, by unfold UV; rw [← f2 19 (by decide), ← f2 21 (by decide)]; exact UV_of F2.1, fun k h1 h2 _ => f2 k (by omega)⟩
  have hR2 := hO.1
  unfold v_X12_costs_12
  intro ZZ hZ
  refine lpN (S := fun i => ∀ J3 : mJ, (∀ c, c ≠ 144 → J3 c = J2 c) → (∀ i' s : Nat, 1 ≤ i' → i' < i + 1 → (s : Int) < g 0 → J3 144 (24 * i' + s) = ((pw 1000000 (qF g p mi fl i' s) : Nat) : Int)) → ZZ J3 ((i + 1 : Nat) : Int)) (N := 60) (fun i hi ih J3 fr hC => hZ _ _ ?_) (fun J3 fr hC => hZ _ _ ?_) J2 (fun _ _ => rfl) (fun i' s h1 h2 => by omega)
  · refine ⟨fun c => by omega, fun _ => ?_⟩
    unfold v_X12_costs_22
    intro Z2 hZ2
    have hM : ∀ J4 : mJ, (∀ c, c ≠ 144 → J4 c = J2 c) → MH J4 b g u := fun J4 fr4 => MH_frame (fr4 129 (by decide)) (fun k _ _ _ => by rw [fr4 128 (by decide)]) hM2
    refine lpN (S := fun s => ∀ J4 : mJ, (∀ c, c ≠ 144 → J4 c = J2 c) → (∀ i' s : Nat, 1 ≤ i' → i' < i + 1 → (s : Int) < g 0 → J4 144 (24 * i' + s) = ((pw 1000000 (qF g p mi fl i' s) : Nat) : Int)) → (∀ s' : Nat, s' < s → J4 144 (24 * (i + 1) + s') = ((pw 1000000 (qF g p mi fl (i + 1) s') : Nat) : Int)) → Z2 J4 ((i + 1 : Nat) : Int) (s : Int)) (N := (g 0).toNat) (fun s hs ih2 J4 fr4 hA hB => hZ2 _ _ _ (n_of (hM J4 fr4) (j := 0) rfl (by decide) ?_)) (fun J4 fr4 hA hB => hZ2 _ _ _ (n_of (hM J4 fr4) (j := 0) rfl (by decide) ⟨fun _ => ⟨⟨by omega, by omega⟩, ?_⟩, fun c => by omega⟩)) J3 fr hC (fun s' h => absurd h (Nat.not_lt_zero _))
    · rw [show (24 * ((i + 1 : Nat) : Int) + (s : Int)).toNat = 24 * (i + 1) + s by omega, show (mi : Int) + ((i + 1 : Nat) : Int) = ((mi + (i + 1) : Nat) : Int) by omega]
      refine ⟨fun c => by omega, fun _ => ⟨⟨by omega, by omega⟩, ⟨by omega, by omega⟩, ⟨by omega, by omega⟩, n_costOf (hM J4 fr4) hu (MR_frame (fun j hj => fr4 _ (by omega)) (by rw [fr4 128 (by decide)]) hR2) hp3 (by omega) hm (by omega) hth ⟨⟨by omega, by omega⟩, ?_⟩⟩⟩
      rintro J5 rfl
      refine ⟨⟨by omega, by omega⟩, ?_⟩
      rintro _ rfl
      refine ih2 _ (fun c hc => by rw [up2_n _ _ _ hc]; exact fr4 c hc) (fun i' s' h1 h2 h3 => ?_) (fun s' h1 => ?_)
      · show up2 J4 (128 + 16) _ _ (128 + 16) _ = _
        rw [up2_off _ _ (Or.inr (by omega))]; exact hA i' s' h1 h2 h3
      · show up2 J4 (128 + 16) _ _ (128 + 16) _ = _
        by_cases ee : s' = s
        · subst ee; rw [up2_at]
        · rw [up2_off _ _ (Or.inr (by omega))]; exact hB s' (by omega)
    · rintro _ rfl
      refine ih J4 fr4 (fun i' s' h1 h2 h3 => ?_)
      by_cases ee : i' = i + 1
      · subst ee; exact hB s' (by omega)
      · exact hA i' s' h1 (by omega) h3
  · refine ⟨fun _ => hq J3 ?_ (fun c h1 h2 => ?_) (fun i s h1 h2 h3 => hC i s h1 (by omega) h3), fun c => by omega⟩
    · rw [fr 128 (by decide)]
      exact MH_frame (fr 129 (by decide)) (fun k _ _ _ => by rw [fr 128 (by decide)]) F2.1
    · rw [fr c (by omega)]; exact F2.2 c h1 (by omega)
