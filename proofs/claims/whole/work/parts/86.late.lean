/-! late: the minute in which one had better begin -/
/-- two evenings that differ in p alone: the latest tread of another one is the same -/
theorem lat_same {tr tr' : Tr} {P n n' p s : Nat} {T T' : Nat → Nat → Int} {t : Int} (hW : TW tr P 100 0 (n, T)) (hW' : TW tr' P 100 0 (n', T')) (he : ∀ p' t', p' ≠ p → tr p' t' = tr' p' t') : (lO n T p s t ≠ -1 → lO n' T' p s t ≠ -1 ∧ T 0 (lO n T p s t).toNat = T' 0 (lO n' T' p s t).toNat ∧ T 2 (lO n T p s t).toNat = T' 2 (lO n' T' p s t).toNat) := by
  obtain ⟨⟨o1, l1⟩, _, c1⟩ := hW
  obtain ⟨⟨o2, l2⟩, _, c2⟩ := hW'
  -- a tread that fits in one fits in the other
  have tr1 : ∀ {tr tr' : Tr} {n n' : Nat} {T T' : Nat → Nat → Int}, (∀ p' t', p' ≠ p → tr p' t' = tr' p' t') → (∀ k, k < n → ∃ p t : Nat, p < P ∧ t < 100 ∧ T 0 k = (p : Int) ∧ T 2 k = (t : Int) ∧ (tr p t).1 = true ∧ T 1 k = ((tr p t).2.toNat : Int)) → (∀ k, k < n' → ∃ p t : Nat, p < P ∧ t < 100 ∧ T' 0 k = (p : Int) ∧ T' 2 k = (t : Int) ∧ (tr' p t).1 = true ∧ T' 1 k = ((tr' p t).2.toNat : Int)) → (∀ p' t' : Nat, p' < P → (t' < 100 ∨ t' = 100 ∧ p' < 0) → (tr' p' t').1 = true → ∃ k, k < n' ∧ T' 0 k = (p' : Int) ∧ T' 2 k = (t' : Int)) → ∀ k, k < n → (otB T p s k && ahB T p t k) = true → ∃ k', k' < n' ∧ T' 0 k' = T 0 k ∧ T' 2 k' = T 2 k ∧ (otB T' p s k' && ahB T' p t k') = true := by
    intro tr tr' n n' T T' he l l' c k hk hb
    rw [Bool.and_eq_true] at hb
    obtain ⟨hb1, hb2⟩ := hb
    unfold otB at hb1; unfold ahB at hb2
    rw [decide_eq_true_eq] at hb1 hb2
    obtain ⟨q, m, hq, hm, e0, e2, e3, e1⟩ := l k hk
    have hqp : q ≠ p := fun c => hb1.1 (by rw [e0, c])
    obtain ⟨k', hk', f0, f2⟩ := c q m hq (Or.inl hm) (by rw [← he q m hqp]; exact e3)
    obtain ⟨q', m', _, _, g0, g2, _, g1⟩ := l' k' hk'
    have eq1 : q' = q := by omega
    have eq2 : m' = m := by omega
    subst eq1; subst eq2
    refine ⟨k', hk', by rw [f0, e0], by rw [f2, e2], ?_⟩
    unfold otB ahB
    rw [Bool.and_eq_true, decide_eq_true_eq, decide_eq_true_eq, g1, ← he q' m' hqp, ← e1, f0, ← e0, f2, ← e2]
    exact ⟨hb1, hb2⟩
  intro h
  have hr := latP_rng (fun k => otB T p s k && ahB T p t k) n
  have ha := latP_at (P := fun k => otB T p s k && ahB T p t k) n h
  have hmax : ∀ j, j < n → (otB T p s j && ahB T p t j) = true → (j : Int) ≤ latP (fun k => otB T p s k && ahB T p t k) n := fun j hj hb => latP_ge (P := fun k => otB T p s k && ahB T p t k) hb n hj
  unfold lO at h ⊢
  generalize latP (fun k => otB T p s k && ahB T p t k) n = a at h hr ha hmax
  obtain ⟨k', hk', f0, f2, hb'⟩ := tr1 he l1 l2 c2 a.toNat (by omega) ha
  have hge := latP_ge (P := fun k => otB T' p s k && ahB T' p t k) hb' n' hk'
  have hr' := latP_rng (fun k => otB T' p s k && ahB T' p t k) n'
  have ha' := latP_at (P := fun k => otB T' p s k && ahB T' p t k) n' (by omega)
  generalize latP (fun k => otB T' p s k && ahB T' p t k) n' = a' at hge hr' ha'
  have hk : k' = a'.toNat := by
    by_cases c : k' = a'.toNat
    · exact c
    · exfalso
      obtain ⟨j, hj, j0, j2, hbj⟩ := tr1 (fun p' t' hp => (he p' t' hp).symm) l2 l1 c1 a'.toNat (by omega) ha'
      have hja := hmax j hj hbj
      have o := o2 k' a'.toNat (by omega) (by omega)
      have oj : j = a.toNat ∨ j < a.toNat := by omega
      rcases oj with oj | oj
      · subst oj; omega
      · have := o1 j a.toNat oj (by omega); omega
  subst hk
  exact ⟨by omega, f0.symm, f2.symm⟩
theorem lat_same' {tr tr' : Tr} {P n n' p s : Nat} {T T' : Nat → Nat → Int} {t : Int} (hW : TW tr P 100 0 (n, T)) (hW' : TW tr' P 100 0 (n', T')) (he : ∀ p' t', p' ≠ p → tr p' t' = tr' p' t') (h : lO n T p s t = -1) : lO n' T' p s t = -1 := by
  by_cases c : lO n' T' p s t = -1
  · exact c
  · exact absurd h (lat_same hW' hW (fun p' t' hp => (he p' t' hp).symm) c).1
/-- what one's treads add up to, by minutes -/
theorem sum_person {tr : Tr} {q : Qs} {keep : Int} {P p : Nat} (hp : p < P) (G : Nat → Int) : sumZ (fun k => if (runT tr q keep P 100).2 0 k = (p : Int) then G ((runT tr q keep P 100).2 2 k).toNat else 0) (runT tr q keep P 100).1 = sumZ (fun t => if (tr p t).1 = true then G t else 0) 100 := by
  have W := runT_ind (tr := tr) (q := q) (keep := keep) (P := P) (fun t p' r => sumZ (fun k => if r.2 0 k = (p : Int) then G (r.2 2 k).toNat else 0) r.1 = sumZ (fun t => if (tr p t).1 = true then G t else 0) t + (if p < p' then (if (tr p t).1 = true then G t else 0) else 0)) rfl (fun t p' r ht hp' h => ?_) (fun t r ht h => ?_) 100 (Nat.le_refl _)
  · rw [if_neg (c := p < 0) (by omega), Int.add_zero] at W; exact W
  · show sumZ _ (stT tr q keep r p' t).1 = _
    generalize sumZ (fun t => if (tr p t).1 = true then G t else 0) t = X at h ⊢
    generalize hY : (if (tr p t).1 = true then G t else 0) = Y at h ⊢
    unfold stT
    by_cases hc : (tr p' t).1 = true
    · rw [if_pos hc]
      show sumZ (fun k => if adF r.2 r.1 _ 0 k = (p : Int) then G (adF r.2 r.1 _ 2 k).toNat else 0) (r.1 + 1) = _
      rw [sumZ, sumZ_cong (f' := fun k => if r.2 0 k = (p : Int) then G (r.2 2 k).toNat else 0) r.1 (fun k hk => by rw [adF_old hk, adF_old hk]), h, adF_new, adF_new]
      show _ + (if (p' : Int) = (p : Int) then G (t : Int).toNat else 0) = _
      rw [Int.toNat_natCast]
      by_cases e : p' = p
      · subst e
        rw [if_pos hc] at hY
        rw [if_neg (c := p' < p') (by omega), if_pos (c := (p' : Int) = (p' : Int)) rfl, if_pos (c := p' < p' + 1) (by omega)]; omega
      · rw [if_neg (c := (p' : Int) = (p : Int)) (by omega)]
        by_cases e2 : p < p'
        · rw [if_pos (c := p < p') e2, if_pos (c := p < p' + 1) (by omega)]; omega
        · rw [if_neg (c := p < p') e2, if_neg (c := p < p' + 1) (by omega)]; omega
    · rw [if_neg hc]
      show sumZ (fun k => if r.2 0 k = (p : Int) then G (r.2 2 k).toNat else 0) r.1 = _
      rw [h]
      by_cases e : p' = p
      · subst e
        rw [if_neg hc] at hY
        rw [if_neg (c := p' < p') (by omega), if_pos (c := p' < p' + 1) (by omega)]; omega
      · by_cases e2 : p < p'
        · rw [if_pos (c := p < p') e2, if_pos (c := p < p' + 1) (by omega)]
        · rw [if_neg (c := p < p') e2, if_neg (c := p < p' + 1) (by omega)]
  · show sumZ (fun k => if r.2 0 k = (p : Int) then G (r.2 2 k).toNat else 0) r.1 = _
    rw [h, if_pos (c := p < P) hp, if_neg (c := p < 0) (by omega), sumZ, Int.add_zero]
/-- one's path, whenever he begins: where, to which goal, does he tread there -/
def pthS (g : Nat → Int) (p : Nat) : Nat → Int × Nat × Bool
  | 0 => (g (45 + 14 * p), 0, true)
  | i + 1 => if opG (fun q => g (47 + 14 * p + q)) (pthS g p i).1 (g (46 + 14 * p)).toNat (pthS g p i).2.1 < (g (46 + 14 * p)).toNat then (nxF (pthS g p i).1 (g (47 + 14 * p + opG (fun q => g (47 + 14 * p + q)) (pthS g p i).1 (g (46 + 14 * p)).toNat (pthS g p i).2.1)) (g (43 + 14 * p)), opG (fun q => g (47 + 14 * p + q)) (pthS g p i).1 (g (46 + 14 * p)).toNat (pthS g p i).2.1, true) else ((pthS g p i).1, opG (fun q => g (47 + 14 * p + q)) (pthS g p i).1 (g (46 + 14 * p)).toNat (pthS g p i).2.1, false)
theorem opG_rng {gl : Nat → Int} {on : Int} {N k : Nat} (hk : k ≤ N) : k ≤ opG gl on N k ∧ opG gl on N k ≤ N := by
  have := opF_rng gl on (N - k) k
  unfold opG; omega
theorem pth_rng {g : Nat → Int} (hv : HV g) {p : Nat} (hp : (p : Int) < g 3) (hw : 0 < g (46 + 14 * p)) : ∀ i, (0 ≤ (pthS g p i).1 ∧ (pthS g p i).1 < g 0) ∧ (pthS g p i).2.1 ≤ (g (46 + 14 * p)).toNat ∧ ((pthS g p i).2.2 = false → (pthS g p i).2.1 = (g (46 + 14 * p)).toNat)
  | 0 => by
    obtain ⟨_, _, _, _, _, _, h45, _⟩ := hv.2.2.2.2.2.2.2.1 p hp
    exact ⟨h45 hw, Nat.zero_le _, fun c => Bool.noConfusion c⟩
  | i + 1 => by
    obtain ⟨r1, r2, r3⟩ := pth_rng hv hp hw i
    obtain ⟨_, _, h43, _, _, _, _, _, hgl⟩ := hv.2.2.2.2.2.2.2.1 p hp
    have ho := opG_rng (gl := fun q => g (47 + 14 * p + q)) (on := (pthS g p i).1) r2
    rw [pthS]
    split
    · next c => exact ⟨nxF_rng r1 (hgl _ (by omega)) (by omega), ho.2, fun c => Bool.noConfusion c⟩
    · next c => exact ⟨r1, ho.2, fun _ => by show opG _ _ _ _ = _; omega⟩
theorem pth_stop {g : Nat → Int} (hv : HV g) {p : Nat} (hp : (p : Int) < g 3) (hw : 0 < g (46 + 14 * p)) {i : Nat} (h : (pthS g p i).2.2 = false) : ∀ d, (pthS g p (i + d)).2.2 = false
  | 0 => h
  | d + 1 => by
    obtain ⟨r1, r2, r3⟩ := pth_rng hv hp hw (i + d)
    have e := r3 (pth_stop hv hp hw h d)
    have ho := opG_rng (gl := fun q => g (47 + 14 * p + q)) (on := (pthS g p (i + d)).1) r2
    rw [← Nat.add_assoc, pthS, if_neg (by omega)]
/-- flags of one who begins in minute h -/
def UL (u : Nat → Int) (p h : Nat) : Prop := u 13 = -1 ∧ u 15 = (p : Int) ∧ u 16 = (h : Int) ∧ u 17 = -1 ∧ u 18 = -1 ∧ u 20 = -1 ∧ u 22 = 0
theorem goS_cong {go go' : Nat → Int → Int → Nat → Bool × Int × Nat} {p : Nat} (h : ∀ t on k, go p t on k = go' p t on k) : ∀ t, goS go p t = goS go' p t
  | 0 => rfl
  | t + 1 => by rw [goS, goS, goS_cong h t, h]
theorem goT_cong {go go' : Nat → Int → Int → Nat → Bool × Int × Nat} {p : Nat} (h : ∀ t on k, go p t on k = go' p t on k) (t : Nat) : goT go p t = goT go' p t := by
  unfold goT; rw [goS_cong h t, goS_cong h (t + 1), h]
theorem ul_other {u g : Nat → Int} {p h : Nat} (hu : UL u p h) {p' : Nat} (hp : p' ≠ p) (t : Nat) : goT (mGo u g) p' t = goT (gGo g) p' t := by
  refine goT_cong (fun t on k => ?_) t
  unfold mGo gGo mBeg
  rw [hu.2.2.2.1, if_neg (by omega), hu.2.1, if_neg (by omega)]
theorem ul_own {u g : Nat → Int} {p h : Nat} (hu : UL u p h) (hw : 0 < g (46 + 14 * p)) : ∀ i, goS (mGo u g) p (h + i + 1) = ((pthS g p i).1, (pthS g p i).2.1) ∧ goT (mGo u g) p (h + i) = ((pthS g p i).2.2, (pthS g p i).1) := by
  have em : ∀ t on k, mGo u g p t on k = goF (fun q => g (47 + 14 * p + q)) (g (46 + 14 * p)).toNat (h : Int) (g (45 + 14 * p)) (g (43 + 14 * p)) t on k := fun t on k => by
    unfold mGo mBeg
    rw [hu.2.2.2.1, if_neg (by omega), hu.2.1, if_pos rfl, hu.2.2.1]
  have early : ∀ t, t ≤ h → goS (mGo u g) p t = (-1, 0) := by
    intro t
    induction t with
    | zero => intro _; rfl
    | succ t ih => intro ht; rw [goS, em, ih (by omega)]; unfold goF; rw [if_pos (Or.inr (by omega))]
  have step0 : (mGo u g) p (h : Int) (goS (mGo u g) p h).1 (goS (mGo u g) p h).2 = (true, g (45 + 14 * p), 0) := by
    rw [em, early h (Nat.le_refl _)]; unfold goF; rw [if_neg (by omega), if_pos rfl]
  intro i
  have key : ∀ i, goS (mGo u g) p (h + i + 1) = ((pthS g p i).1, (pthS g p i).2.1) ∧ (mGo u g p ((h + i : Nat) : Int) (goS (mGo u g) p (h + i)).1 (goS (mGo u g) p (h + i)).2).1 = (pthS g p i).2.2 := by
    intro i
    induction i with
    | zero =>
      refine ⟨?_, ?_⟩
      · rw [goS]; show (mGo u g p (h : Int) (goS (mGo u g) p h).1 (goS (mGo u g) p h).2).2 = _; rw [step0]; rfl
      · show (mGo u g p (h : Int) (goS (mGo u g) p h).1 (goS (mGo u g) p h).2).1 = _; rw [step0]; rfl
    | succ i ih =>
      have e : mGo u g p ((h + (i + 1) : Nat) : Int) (goS (mGo u g) p (h + (i + 1))).1 (goS (mGo u g) p (h + (i + 1))).2 = ((pthS g p (i + 1)).2.2, (pthS g p (i + 1)).1, (pthS g p (i + 1)).2.1) := by
        rw [← Nat.add_assoc, ih.1, em]
        unfold goF
        rw [if_neg (by omega), if_neg (by omega), pthS]
        split <;> rfl
      refine ⟨?_, by rw [e]⟩
      rw [goS, e]
  refine ⟨(key i).1, ?_⟩
  unfold goT
  rw [(key i).1, (key i).2]
theorem ul_early {u g : Nat → Int} {p h : Nat} (hu : UL u p h) {t : Nat} (ht : t < h) : (goT (mGo u g) p t).1 = false := by
  unfold goT
  show (mGo u g p (t : Int) _ _).1 = false
  unfold mGo mBeg
  rw [hu.2.2.2.1, if_neg (by omega), hu.2.1, if_pos rfl, hu.2.2.1]
  unfold goF; rw [if_pos (Or.inr (by omega))]
theorem gEars_zero (g : Nat → Int) (s : Int) : gEars g 0 s = 0 := by
  have : ∀ n, earsF (fun f => gHear (g (29 + 2 * f)) (g (30 + 2 * f)) s 0) n = 0 := by
    intro n
    induction n with
    | zero => rfl
    | succ n ih => rw [earsF, if_neg (by unfold gHear; rw [decide_eq_true_eq]; omega), ih]
  exact this _
/-- how loud the step gives back what was trodden last there, as the class finds it -/
def bfF (g : Nat → Int) (p i : Nat) : Int := latF (fun j => (pthS g p j).1) (pthS g p i).1 i
def byO (T : Nat → Nat → Int) (p : Nat) (a own : Int) : Prop := a ≠ -1 ∧ (own = -1 ∨ own < T 2 a.toNat ∨ T 2 a.toNat = own ∧ (p : Int) < T 0 a.toNat)
