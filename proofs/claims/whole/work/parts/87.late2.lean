/-! late: what the step gives back, found in both ways -/
theorem latF_P (f : Nat → Int) (s : Int) : ∀ n, latF f s n = latP (fun k => decide (f k = s)) n
  | 0 => rfl
  | n + 1 => by
    rw [latF, latP, latF_P f s n]
    by_cases c : f n = s
    · rw [if_pos c, if_pos (decide_eq_true c)]
    · rw [if_neg c, if_neg (by rw [decide_eq_true_eq]; exact c)]
theorem latF_ge {f : Nat → Int} {s : Int} {j n : Nat} (h : f j = s) (hj : j < n) : (j : Int) ≤ latF f s n := by
  rw [latF_P]; exact latP_ge (P := fun k => decide (f k = s)) (decide_eq_true h) n hj
theorem latF_none {f : Nat → Int} {s : Int} {j n : Nat} (h : latF f s n = -1) (hj : j < n) : f j ≠ s := by
  rw [latF_P] at h
  have := latP_none n h j hj
  rw [decide_eq_false_iff_not] at this; exact this
def ownF (g : Nat → Int) (p h i : Nat) : Int := if bfF g p i = -1 then -1 else (h : Int) + bfF g p i
def byB (T : Nat → Nat → Int) (p : Nat) (a own : Int) : Bool := decide (a ≠ -1 ∧ (own = -1 ∨ own < T 2 a.toNat ∨ T 2 a.toNat = own ∧ (p : Int) < T 0 a.toNat))
def eLd (g : Nat → Int) (p h i : Nat) : Int :=
  if lO (gRun g).1 (gRun g).2 p (pthS g p i).1.toNat ((h + i : Nat) : Int) = -1 ∧ ownF g p h i = -1 then 0
  else if byB (gRun g).2 p (lO (gRun g).1 (gRun g).2 p (pthS g p i).1.toNat ((h + i : Nat) : Int)) (ownF g p h i) = true then (if ((h + i : Nat) : Int) - (gRun g).2 2 (lO (gRun g).1 (gRun g).2 p (pthS g p i).1.toNat ((h + i : Nat) : Int)).toNat ≤ g 1 then (gRun g).2 4 (lO (gRun g).1 (gRun g).2 p (pthS g p i).1.toNat ((h + i : Nat) : Int)).toNat / 2 else 0)
  else (if ((h + i : Nat) : Int) - ownF g p h i ≤ g 1 then gLoud g p (pthS g p i).1.toNat (gShoe g p (ownF g p h i)) / 2 else 0)
def lateT (g : Nat → Int) (p h i : Nat) : Int := popZ (oZ ((gEars g (gLoud g p (pthS g p i).1.toNat (gShoe g p ((h + i : Nat) : Int))) (pthS g p i).1 : Nat) : Int) ((gEars g (eLd g p h i) (pthS g p i).1 : Nat) : Int))
theorem lO_spec {n p s : Nat} {T : Nat → Nat → Int} {t : Int} (h : lO n T p s t ≠ -1) : (0 ≤ lO n T p s t ∧ lO n T p s t < (n : Int)) ∧ T 0 (lO n T p s t).toNat ≠ (p : Int) ∧ T 1 (lO n T p s t).toNat = (s : Int) ∧ (T 2 (lO n T p s t).toNat < t ∨ T 2 (lO n T p s t).toNat = t ∧ T 0 (lO n T p s t).toNat < (p : Int)) := by
  have hr := latP_rng (fun k => otB T p s k && ahB T p t k) n
  have ha := latP_at (P := fun k => otB T p s k && ahB T p t k) n h
  rw [Bool.and_eq_true] at ha
  unfold otB ahB at ha
  rw [decide_eq_true_eq, decide_eq_true_eq] at ha
  unfold lO at h ⊢
  unfold otB ahB at h ⊢
  exact ⟨⟨by unfold otB ahB at hr; omega, by unfold otB ahB at hr; omega⟩, ha.1.1, ha.1.2, ha.2⟩
theorem lO_ge {n p s k : Nat} {T : Nat → Nat → Int} {t : Int} (hk : k < n) (h1 : T 0 k ≠ (p : Int)) (h2 : T 1 k = (s : Int)) (h3 : T 2 k < t ∨ T 2 k = t ∧ T 0 k < (p : Int)) : (k : Int) ≤ lO n T p s t :=
  latP_ge (P := fun k => otB T p s k && ahB T p t k) (by show (otB T p s k && ahB T p t k) = true; unfold otB ahB; rw [decide_eq_true ⟨h1, h2⟩, decide_eq_true h3]; rfl) n hk
theorem late_key {u g : Nat → Int} (hv : HV g) {p h i k : Nat} (hu : UL u p h) (hp : (p : Int) < g 3) (hw : 0 < g (46 + 14 * p)) (hk : k < (mRun u g).1) (e0 : (mRun u g).2 0 k = (p : Int)) (e2 : (mRun u g).2 2 k = ((h + i : Nat) : Int)) : popZ (oZ ((mRun u g).2 6 k) ((mRun u g).2 7 k)) = lateT g p h i := by
  have mT := mTQ (u := u) (g := g)
  have gT := gTQ (g := g)
  have mW : TW (goT (mGo u g)) (g 3).toNat 100 0 ((mRun u g).1, (mRun u g).2) := mTW (u := u) (g := g)
  have gW : TW (goT (gGo g)) (g 3).toNat 100 0 ((gRun g).1, (gRun g).2) := gTW (g := g)
  obtain ⟨h13, h15, h16, h17, h18, h20, h22⟩ := hu
  have hu : UL u p h := ⟨h13, h15, h16, h17, h18, h20, h22⟩
  have heq : ∀ p' t', p' ≠ p → goT (mGo u g) p' t' = goT (gGo g) p' t' := fun p' t' hp' => ul_other hu hp' t'
  have own := fun j => (ul_own (u := u) (g := g) hu hw j).2
  have pr := pth_rng hv hp hw
  obtain ⟨⟨o2, l2⟩, _, c2⟩ := mW
  have mW : TW (goT (mGo u g)) (g 3).toNat 100 0 ((mRun u g).1, (mRun u g).2) := mTW (u := u) (g := g)
  generalize hT' : (mRun u g).2 = T' at *
  generalize hn' : (mRun u g).1 = n' at *
  -- columns by who, where, when
  have col4 : ∀ j, j < n' → T' 4 j = gLoud g (T' 0 j).toNat (T' 1 j).toNat (gShoe g (T' 0 j).toNat (T' 2 j)) := by
    intro j hj
    obtain ⟨m3, m4, _⟩ := mT j hj
    rw [m4, m3, mShoe_m h13]
    show mLoud u g _ _ _ = _
    unfold mLoud mCar; rw [h18, if_neg (by omega)]; rfl
  have gcol4 : ∀ j, j < (gRun g).1 → (gRun g).2 4 j = gLoud g ((gRun g).2 0 j).toNat ((gRun g).2 1 j).toNat (gShoe g ((gRun g).2 0 j).toNat ((gRun g).2 2 j)) := by
    intro j hj
    obtain ⟨m3, m4, _⟩ := gT j hj
    rw [m4, m3]; rfl
  -- a tread of his own
  have mine : ∀ j, j < n' → T' 0 j = (p : Int) → ∃ b : Nat, T' 2 j = ((h + b : Nat) : Int) ∧ (pthS g p b).2.2 = true ∧ T' 1 j = (pthS g p b).1 := by
    intro j hj ej
    obtain ⟨q, m, _, _, f0, f2, f3, f1⟩ := l2 j hj
    have eq : q = p := by omega
    subst eq
    by_cases hm : m < h
    · rw [ul_early hu hm] at f3; exact Bool.noConfusion f3
    · have em : m = h + (m - h) := by omega
      rw [em] at f1 f2 f3
      rw [own (m - h)] at f1 f3
      refine ⟨m - h, f2, f3, ?_⟩
      have := (pr (m - h)).1
      rw [f1]; show (((pthS g q (m - h)).1.toNat : Nat) : Int) = _; omega
  obtain ⟨i', e2', gi, e1⟩ := mine k hk e0
  have ei : i' = i := by omega
  subst ei
  have rs := (pr i').1
  have h0 := hv.1
  -- indices behind k are treads ahead of it
  have ahd : ∀ j, j < n' → ((T' 2 j < ((h + i' : Nat) : Int) ∨ T' 2 j = ((h + i' : Nat) : Int) ∧ T' 0 j < (p : Int)) ↔ j < k) := by
    intro j hj
    constructor
    · intro hl
      by_cases c : j < k
      · exact c
      · by_cases c2 : j = k
        · subst c2; omega
        · have := o2 k j (by omega) hj; omega
    · intro hl
      have := o2 j k hl hk; omega
  -- his tread j minutes after he begins
  have has : ∀ j, j < i' → ∃ q, q < k ∧ T' 0 q = (p : Int) ∧ T' 2 q = ((h + j : Nat) : Int) ∧ T' 1 q = (pthS g p j).1 := by
    intro j hj
    have gj : (pthS g p j).2.2 = true := by
      cases c : (pthS g p j).2.2 with
      | true => rfl
      | false =>
        have := pth_stop hv hp hw c (i' - j)
        rw [show j + (i' - j) = i' by omega, gi] at this; exact Bool.noConfusion this
    have ht : h + i' < 100 := by
      obtain ⟨q, m, _, hm, _, f2, _⟩ := l2 k hk
      omega
    obtain ⟨q, hq, q0, q2⟩ := c2 p (h + j) (by omega) (Or.inl (by omega)) (by rw [own j]; exact gj)
    obtain ⟨b, b2, _, b1⟩ := mine q hq q0
    have eb : b = j := by omega
    subst eb
    exact ⟨q, (ahd q hq).mp (by omega), q0, q2, b1⟩
  -- the claim
  obtain ⟨m3, m4, m5, m6, m7, _⟩ := mT k hk
  have claim : eLd g p h i' = if latF (T' 1) (pthS g p i').1 k ≠ -1 ∧ ((h + i' : Nat) : Int) - T' 2 (latF (T' 1) (pthS g p i').1 k).toNat ≤ g 1 then T' 4 (latF (T' 1) (pthS g p i').1 k).toNat / 2 else 0 := by
    have re := latF_rng (T' 1) (pthS g p i').1 k
    obtain ⟨s, es⟩ : ∃ s : Nat, (pthS g p i').1 = (s : Int) := ⟨(pthS g p i').1.toNat, by omega⟩
    have hbf : ownF g p h i' = if latF (fun j => (pthS g p j).1) (s : Int) i' = -1 then -1 else (h : Int) + latF (fun j => (pthS g p j).1) (s : Int) i' := by
      unfold ownF bfF; rw [es]
    have rb := latF_rng (fun j => (pthS g p j).1) (s : Int) i'
    unfold eLd
    rw [hbf, es, Int.toNat_natCast]
    rw [es] at re
    generalize hb : latF (fun j => (pthS g p j).1) (s : Int) i' = b at rb
    generalize he : latF (T' 1) (s : Int) k = e at re
    by_cases ce : e = -1
    · -- nothing was trodden there
      have ca : lO n' T' p s ((h + i' : Nat) : Int) = -1 := by
        by_cases c : lO n' T' p s ((h + i' : Nat) : Int) = -1
        · exact c
        · obtain ⟨z1, z2, z3, z4⟩ := lO_spec c
          have := (ahd _ (by omega)).mp z4
          exact absurd z3 (latF_none (by rw [he]; exact ce) this)
      have ca2 := lat_same' mW gW heq ca
      have cb : b = -1 := by
        by_cases c : b = -1
        · exact c
        · have hbat := latF_at (f := fun j => (pthS g p j).1) (s := (s : Int)) i' (by rw [hb]; exact c)
          rw [hb] at hbat
          obtain ⟨q, hq, _, _, q1⟩ := has b.toNat (by omega)
          exact absurd (by rw [q1]; exact hbat) (latF_none (f := T' 1) (s := (s : Int)) (by rw [he]; exact ce) hq)
      rw [ca2, if_pos cb, if_pos ⟨rfl, rfl⟩, if_neg (fun c => c.1 ce)]
    · have e1s : T' 1 e.toNat = (s : Int) := by rw [← he]; exact latF_at k (by rw [he]; exact ce)
      have hek : e.toNat < k := by omega
      have hen : e.toNat < n' := by omega
      have hmax : ∀ j, j < k → T' 1 j = (s : Int) → j ≤ e.toNat := fun j hj hj1 => by
        have := latF_ge (f := T' 1) hj1 hj
        rw [he] at this; omega
      have hel := (ahd e.toNat hen).mpr hek
      by_cases cp : T' 0 e.toNat = (p : Int)
      · -- his own
        obtain ⟨j, j2, gj, j1⟩ := mine e.toNat hen cp
        have hji : j < i' := by omega
        have hjb : (j : Int) ≤ b := by
          rw [← hb]; exact latF_ge (f := fun j => (pthS g p j).1) (by show (pthS g p j).1 = _; rw [← j1]; exact e1s) hji
        have hbat := latF_at (f := fun j => (pthS g p j).1) (s := (s : Int)) i' (by rw [hb]; omega)
        rw [hb] at hbat
        obtain ⟨q, hq, q0, q2, q1⟩ := has b.toNat (by omega)
        have hqe := hmax q hq (by rw [q1]; exact hbat)
        have hbj : b = (j : Int) := by
          by_cases c : q = e.toNat
          · subst c; omega
          · have := o2 q e.toNat (by omega) hen; omega
        rw [if_neg (c := b = -1) (by omega), if_neg (fun c => by omega)]
        have hby : byB (gRun g).2 p (lO (gRun g).1 (gRun g).2 p s ((h + i' : Nat) : Int)) ((h : Int) + b) = false := by
          refine decide_eq_false (fun c => ?_)
          obtain ⟨z0, z1, z2⟩ := lat_same gW mW (fun p' t' hp' => (heq p' t' hp').symm) c.1
          obtain ⟨y1, y2, y3, y4⟩ := lO_spec z0
          have hlk := (ahd _ (by omega)).mp y4
          have hle := hmax _ hlk y3
          have c2 := c.2
          rw [z1, z2] at c2
          by_cases ce2 : (lO n' T' p s ((h + i' : Nat) : Int)).toNat = e.toNat
          · rw [ce2] at y2; exact y2 cp
          · have := o2 _ e.toNat (show (lO n' T' p s ((h + i' : Nat) : Int)).toNat < e.toNat by omega) hen
            omega
        rw [hby, if_neg Bool.false_ne_true]
        have eo : (h : Int) + b = T' 2 e.toNat := by omega
        rw [eo, col4 e.toNat hen, cp, e1s, Int.toNat_natCast, Int.toNat_natCast]
        by_cases ck : ((h + i' : Nat) : Int) - T' 2 e.toNat ≤ g 1
        · rw [if_pos ck, if_pos ⟨ce, ck⟩]
        · rw [if_neg ck, if_neg (fun c => ck c.2)]
      · -- another one's
        have hae := lO_ge (s := s) hen cp e1s hel
        have hane : lO n' T' p s ((h + i' : Nat) : Int) ≠ -1 := by omega
        obtain ⟨y1, y2, y3, y4⟩ := lO_spec hane
        have hlk := (ahd _ (by omega)).mp y4
        have hle := hmax _ hlk y3
        have hlo : (lO n' T' p s ((h + i' : Nat) : Int)).toNat = e.toNat := by omega
        obtain ⟨z0, z1, z2⟩ := lat_same mW gW heq hane
        rw [hlo] at z1 z2
        obtain ⟨x1, x2, x3, x4⟩ := lO_spec z0
        rw [if_neg (fun c => z0 c.1)]
        have hby : byB (gRun g).2 p (lO (gRun g).1 (gRun g).2 p s ((h + i' : Nat) : Int)) (if b = -1 then -1 else (h : Int) + b) = true := by
          refine decide_eq_true ⟨z0, ?_⟩
          rw [← z1, ← z2]
          by_cases cb : b = -1
          · rw [if_pos cb]; exact Or.inl rfl
          · rw [if_neg cb]
            have hbat := latF_at (f := fun j => (pthS g p j).1) (s := (s : Int)) i' (by rw [hb]; exact cb)
            rw [hb] at hbat
            obtain ⟨q, hq, q0, q2, q1⟩ := has b.toNat (by omega)
            have hqe := hmax q hq (by rw [q1]; exact hbat)
            have hne : q ≠ e.toNat := fun c => cp (by rw [← c]; exact q0)
            have := o2 q e.toNat (by omega) hen
            omega
        rw [hby, if_pos rfl]
        have e4 : (gRun g).2 4 (lO (gRun g).1 (gRun g).2 p s ((h + i' : Nat) : Int)).toNat = T' 4 e.toNat := by
          rw [gcol4 _ (by omega), col4 e.toNat hen, ← z1, ← z2, x3, e1s]
        rw [e4, ← z2]
        by_cases ck : ((h + i' : Nat) : Int) - T' 2 e.toNat ≤ g 1
        · rw [if_pos ck, if_pos ⟨ce, ck⟩]
        · rw [if_neg ck, if_neg (fun c => ck c.2)]
  unfold lateT
  have t6 : T' 6 k = ((gEars g (gLoud g p (pthS g p i').1.toNat (gShoe g p ((h + i' : Nat) : Int))) (pthS g p i').1 : Nat) : Int) := by
    rw [m6, col4 k hk, e0, e1, e2, Int.toNat_natCast]
    show ((mEars u g _ _ : Nat) : Int) = _
    rw [mEars_m h20]
  have t7 : T' 7 k = ((gEars g (eLd g p h i') (pthS g p i').1 : Nat) : Int) := by
    rw [m7, m5, e1, e2, claim]
    unfold echoF
    show (if (if _ then _ else _) = -1 then (0 : Int) else ((mEars u g _ _ : Nat) : Int)) = _
    rw [mEars_m h20]
    by_cases c : latF (T' 1) (pthS g p i').1 k ≠ -1 ∧ ((h + i' : Nat) : Int) - T' 2 (latF (T' 1) (pthS g p i').1 k).toNat ≤ g 1
    · rw [if_pos c, if_pos c, if_neg c.1]
    · rw [if_neg c, if_neg c, if_pos rfl, gEars_zero]; rfl
  rw [t6, t7]
def lateN (g : Nat → Int) (p h : Nat) : Int := sumZ (fun i => if (pthS g p i).2.2 = true ∧ h + i < 100 then lateT g p h i else 0) 100
theorem sumZ_split (f : Nat → Int) (a : Nat) : ∀ b, sumZ f (a + b) = sumZ f a + sumZ (fun i => f (a + i)) b
  | 0 => (Int.add_zero _).symm
  | b + 1 => by rw [← Nat.add_assoc, sumZ, sumZ_split f a b, sumZ]; omega
theorem sumZ_zero {f : Nat → Int} : ∀ n, (∀ k, k < n → f k = 0) → sumZ f n = 0
  | 0, _ => rfl
  | n + 1, h => by rw [sumZ, sumZ_zero n (fun k hk => h k (by omega)), h n (by omega)]; rfl
theorem late_sum {u g : Nat → Int} (hv : HV g) {p h : Nat} (hu : UL u p h) (hh : h ≤ 60) (hp : (p : Int) < g 3) (hw : 0 < g (46 + 14 * p)) : sumZ (fun k => if (mRun u g).2 0 k = (p : Int) then popZ (oZ ((mRun u g).2 6 k) ((mRun u g).2 7 k)) else 0) (mRun u g).1 = lateN g p h := by
  have l2 := (mTW (u := u) (g := g)).1.2
  have e1 : sumZ (fun k => if (mRun u g).2 0 k = (p : Int) then popZ (oZ ((mRun u g).2 6 k) ((mRun u g).2 7 k)) else 0) (mRun u g).1 = sumZ (fun k => if (mRun u g).2 0 k = (p : Int) then (fun t => lateT g p h (t - h)) ((mRun u g).2 2 k).toNat else 0) (mRun u g).1 := by
    refine sumZ_cong _ (fun k hk => ?_)
    by_cases c : (mRun u g).2 0 k = (p : Int)
    · rw [if_pos c, if_pos c]
      obtain ⟨q, m, _, _, f0, f2, f3, f1⟩ := l2 k hk
      have eq : q = p := by omega
      subst eq
      by_cases hm : m < h
      · rw [ul_early hu hm] at f3; exact Bool.noConfusion f3
      · rw [late_key (i := m - h) hv hu hp hw hk c (by rw [f2]; omega), f2, Int.toNat_natCast]
    · rw [if_neg c, if_neg c]
  rw [e1]
  have e2 := sum_person (tr := goT (mGo u g)) (q := mQ u g) (keep := g 1) (P := (g 3).toNat) (p := p) (by omega) (fun t => lateT g p h (t - h))
  have e3 : sumZ (fun k => if (mRun u g).2 0 k = (p : Int) then (fun t => lateT g p h (t - h)) ((mRun u g).2 2 k).toNat else 0) (mRun u g).1 = sumZ (fun t => if (goT (mGo u g) p t).1 = true then (fun t => lateT g p h (t - h)) t else 0) 100 := e2
  rw [e3, show 100 = h + (100 - h) by omega, sumZ_split, sumZ_zero h (fun k hk => by rw [ul_early hu hk, if_neg Bool.false_ne_true]), Int.zero_add]
  unfold lateN
  have e4 : sumZ (fun i => if (pthS g p i).2.2 = true ∧ h + i < 100 then lateT g p h i else 0) 100 = sumZ (fun i => if (pthS g p i).2.2 = true ∧ h + i < 100 then lateT g p h i else 0) (100 - h) := by
    rw [show sumZ (fun i => if (pthS g p i).2.2 = true ∧ h + i < 100 then lateT g p h i else 0) 100 = sumZ (fun i => if (pthS g p i).2.2 = true ∧ h + i < 100 then lateT g p h i else 0) ((100 - h) + h) by rw [show (100 - h) + h = 100 by omega], sumZ_split, sumZ_zero h (fun k hk => by rw [if_neg (by omega)]), Int.add_zero]
  rw [e4]
  refine sumZ_cong _ (fun i hi => ?_)
  rw [(ul_own (u := u) (g := g) hu hw i).2]
  by_cases c : (pthS g p i).2.2 = true
  · rw [if_pos c, if_pos ⟨c, by omega⟩]
    show lateT g p h (h + i - h) = _
    rw [Nat.add_sub_cancel_left]
  · rw [if_neg c, if_neg (fun c2 => c c2.1)]
