/-! what a run is: all columns of a tread by its first three; treads lie by minutes and numbers; they are those of who goes when -/
theorem runT_ind {tr : Tr} {q : Qs} {keep : Int} {P : Nat} (W : Nat → Nat → Ts → Prop) (h0 : W 0 0 (0, fun _ _ => 0)) (hs : ∀ t p r, t < 100 → p < P → W t p r → W t (p + 1) (stT tr q keep r p t)) (hr : ∀ t r, t < 100 → W t P r → W (t + 1) 0 r) : ∀ t, t ≤ 100 → W t 0 (runT tr q keep P t)
  | 0, _ => h0
  | t + 1, ht => by
    have ih := runT_ind W h0 hs hr t (by omega)
    have row : ∀ p, p ≤ P → W t p (rowT tr q keep t (runT tr q keep P t) p) := by
      intro p
      induction p with
      | zero => intro _; exact ih
      | succ p ihp => intro hp; exact hs t p _ (by omega) (by omega) (ihp (by omega))
    exact hr t _ (by omega) (row P (Nat.le_refl _))
theorem echoF_cong {T T' : Nat → Nat → Int} {n : Nat} {s t keep : Int} (h1 : ∀ k, k < n → T 1 k = T' 1 k) (h2 : ∀ k, k < n → T 2 k = T' 2 k) : echoF T n s t keep = echoF T' n s t keep := by
  unfold echoF
  rw [latF_cong n h1]
  have hr := latF_rng (T' 1) s n
  by_cases hl : latF (T' 1) s n = -1
  · rw [hl]; simp
  · rw [h2 _ (by omega)]
def TQ (q : Qs) (keep : Int) (n : Nat) (T : Nat → Nat → Int) : Prop := ∀ k, k < n → T 3 k = q.1 (T 0 k).toNat (T 2 k) ∧ T 4 k = q.2.1 (T 0 k).toNat (T 1 k).toNat (T 3 k) ∧ T 5 k = echoF T k (T 1 k) (T 2 k) keep ∧ T 6 k = ((q.2.2 (T 4 k) (T 1 k) : Nat) : Int) ∧ T 7 k = (if T 5 k = -1 then 0 else ((q.2.2 (T 4 (T 5 k).toNat / 2) (T 1 k) : Nat) : Int)) ∧ T 8 k = (if T 5 k = -1 then 1 else T 8 (T 5 k).toNat + 1)
theorem TQ_add {q : Qs} {keep : Int} {n : Nat} {T : Nat → Nat → Int} (h : TQ q keep n T) (p s : Nat) (t : Int) : TQ q keep (n + 1) (adF T n (trF q keep T n p s t)) := by
  intro k hk
  have hc : echoF (adF T n (trF q keep T n p s t)) k (adF T n (trF q keep T n p s t) 1 k) (adF T n (trF q keep T n p s t) 2 k) keep = echoF T k (adF T n (trF q keep T n p s t) 1 k) (adF T n (trF q keep T n p s t) 2 k) keep := echoF_cong (fun i hi => adF_old (by omega)) (fun i hi => adF_old (by omega))
  rw [hc]
  by_cases hkn : k < n
  · have hb := h k hkn
    have he := echoF_rng (T := T) (n := k) (s := T 1 k) (t := T 2 k) (keep := keep)
    simp only [adF_old hkn]
    by_cases h5 : T 5 k = -1
    · rw [if_pos h5, if_pos h5] at *; exact hb
    · have h5' := hb.2.2.1
      rw [adF_old (j := 4) (k := (T 5 k).toNat) (by omega), adF_old (j := 8) (k := (T 5 k).toNat) (by omega)]; exact hb
  · have hkn : k = n := by omega
    subst hkn
    have he := echoF_rng (T := T) (n := k) (s := (s : Int)) (t := t) (keep := keep)
    simp only [adF_new]
    refine ⟨rfl, rfl, rfl, rfl, ?_, ?_⟩
    · show trF q keep T k p s t 7 = if echoF T k s t keep = -1 then 0 else ((q.2.2 (adF T k (trF q keep T k p s t) 4 (echoF T k s t keep).toNat / 2) s : Nat) : Int)
      rw [trF_7]
      by_cases h5 : echoF T k s t keep = -1
      · rw [if_pos h5, if_pos h5]
      · rw [if_neg h5, if_neg h5, adF_old (by omega)]
    · show trF q keep T k p s t 8 = if echoF T k s t keep = -1 then 1 else adF T k (trF q keep T k p s t) 8 (echoF T k s t keep).toNat + 1
      rw [trF_8]
      by_cases h5 : echoF T k s t keep = -1
      · rw [if_pos h5, if_pos h5]
      · rw [if_neg h5, if_neg h5, adF_old (by omega)]
theorem runT_TQ {tr : Tr} {q : Qs} {keep : Int} {P t : Nat} (ht : t ≤ 100) : TQ q keep (runT tr q keep P t).1 (runT tr q keep P t).2 := by
  refine runT_ind (fun _ _ r => TQ q keep r.1 r.2) (fun k hk => absurd hk (Nat.not_lt_zero _)) (fun t p r _ _ h => ?_) (fun _ _ _ h => h) t ht
  show TQ q keep (stT tr q keep r p t).1 (stT tr q keep r p t).2
  unfold stT
  split
  · exact TQ_add h _ _ _
  · exact h
/-- treads lie by minutes, of one minute by people; each is one of tr -/
def TL (tr : Tr) (P : Nat) (n : Nat) (T : Nat → Nat → Int) : Prop := (∀ i k, i < k → k < n → T 2 i < T 2 k ∨ T 2 i = T 2 k ∧ T 0 i < T 0 k) ∧ (∀ k, k < n → ∃ p t : Nat, p < P ∧ t < 100 ∧ T 0 k = (p : Int) ∧ T 2 k = (t : Int) ∧ (tr p t).1 = true ∧ T 1 k = ((tr p t).2.toNat : Int))
def TW (tr : Tr) (P : Nat) (t p : Nat) (r : Ts) : Prop := TL tr P r.1 r.2 ∧ (∀ k, k < r.1 → r.2 2 k < (t : Int) ∨ r.2 2 k = (t : Int) ∧ r.2 0 k < (p : Int)) ∧ (∀ p' t' : Nat, p' < P → (t' < t ∨ t' = t ∧ p' < p) → (tr p' t').1 = true → ∃ k, k < r.1 ∧ r.2 0 k = (p' : Int) ∧ r.2 2 k = (t' : Int))
theorem runT_TW {tr : Tr} {q : Qs} {keep : Int} {P t : Nat} (ht : t ≤ 100) : TW tr P t 0 (runT tr q keep P t) := by
  refine runT_ind (TW tr P) ⟨⟨fun i k _ hk => absurd hk (Nat.not_lt_zero _), fun k hk => absurd hk (Nat.not_lt_zero _)⟩, fun k hk => absurd hk (Nat.not_lt_zero _), fun p' t' _ h => by omega⟩ ?_ ?_ t ht
  · intro t p r ht hp h
    obtain ⟨⟨h1, h2⟩, h3, h4⟩ := h
    unfold stT
    by_cases hc : (tr p t).1 = true
    · rw [if_pos hc]
      refine ⟨⟨fun i k hi hk => ?_, fun k hk => ?_⟩, fun k hk => ?_, fun p' t' hp' h hg => ?_⟩
      · by_cases hkn : k < r.1
        · show adF _ _ _ 2 i < adF _ _ _ 2 k ∨ adF _ _ _ 2 i = adF _ _ _ 2 k ∧ adF _ _ _ 0 i < adF _ _ _ 0 k
          rw [adF_old hkn, adF_old hkn, adF_old (by omega), adF_old (by omega)]; exact h1 i k hi hkn
        · have hkn : k = r.1 := by have : k < r.1 + 1 := hk; omega
          subst hkn
          show adF _ _ _ 2 i < adF _ _ _ 2 r.1 ∨ adF _ _ _ 2 i = adF _ _ _ 2 r.1 ∧ adF _ _ _ 0 i < adF _ _ _ 0 r.1
          rw [adF_new, adF_new, adF_old hi, adF_old hi]
          exact h3 i hi
      · by_cases hkn : k < r.1
        · show ∃ p' t' : Nat, p' < P ∧ t' < 100 ∧ adF _ _ _ 0 k = (p' : Int) ∧ adF _ _ _ 2 k = (t' : Int) ∧ (tr p' t').1 = true ∧ adF _ _ _ 1 k = ((tr p' t').2.toNat : Int)
          rw [adF_old hkn, adF_old hkn, adF_old hkn]; exact h2 k hkn
        · have hkn : k = r.1 := by have : k < r.1 + 1 := hk; omega
          subst hkn
          refine ⟨p, t, hp, ht, ?_, ?_, hc, ?_⟩
          · show adF _ _ _ 0 r.1 = _
            rw [adF_new]; rfl
          · show adF _ _ _ 2 r.1 = _
            rw [adF_new]; rfl
          · show adF _ _ _ 1 r.1 = _
            rw [adF_new]; rfl
      · by_cases hkn : k < r.1
        · show adF _ _ _ 2 k < _ ∨ adF _ _ _ 2 k = _ ∧ adF _ _ _ 0 k < _
          rw [adF_old hkn, adF_old hkn]
          have := h3 k hkn
          omega
        · have hkn : k = r.1 := by have : k < r.1 + 1 := hk; omega
          subst hkn
          show adF _ _ _ 2 r.1 < _ ∨ adF _ _ _ 2 r.1 = _ ∧ adF _ _ _ 0 r.1 < _
          rw [adF_new, adF_new]
          refine Or.inr ⟨rfl, ?_⟩
          show (p : Int) < ((p + 1 : Nat) : Int)
          omega
      · show ∃ k, k < r.1 + 1 ∧ adF _ _ _ 0 k = _ ∧ adF _ _ _ 2 k = _
        by_cases he : t' = t ∧ p' = p
        · refine ⟨r.1, by omega, ?_, ?_⟩
          · rw [adF_new, he.2]; rfl
          · rw [adF_new, he.1]; rfl
        · obtain ⟨k, hk, e1, e2⟩ := h4 p' t' hp' (by omega) hg
          exact ⟨k, by omega, by rw [adF_old hk]; exact e1, by rw [adF_old hk]; exact e2⟩
    · rw [if_neg hc]
      refine ⟨⟨h1, h2⟩, fun k hk => by have := h3 k hk; omega, fun p' t' hp' h hg => ?_⟩
      by_cases he : t' = t ∧ p' = p
      · rw [he.1, he.2] at hg; exact absurd hg hc
      · exact h4 p' t' hp' (by omega) hg
  · intro t r ht h
    obtain ⟨h12, h3, h4⟩ := h
    refine ⟨h12, fun k hk => ?_, fun p' t' hp' h hg => h4 p' t' hp' (by omega) hg⟩
    have := h3 k hk
    omega
/-- who goes when alone says how many treads, whose, where, when, and which echoes -/
theorem run_sk {tr : Tr} {q q' : Qs} {keep : Int} {P : Nat} : ∀ t, (runT tr q keep P t).1 = (runT tr q' keep P t).1 ∧ ∀ j k, (j < 3 ∨ j = 5) → (runT tr q keep P t).2 j k = (runT tr q' keep P t).2 j k
  | 0 => ⟨rfl, fun _ _ _ => rfl⟩
  | t + 1 => by
    have ih := run_sk (tr := tr) (q := q) (q' := q') (keep := keep) (P := P) t
    have row : ∀ p, (rowT tr q keep t (runT tr q keep P t) p).1 = (rowT tr q' keep t (runT tr q' keep P t) p).1 ∧ ∀ j k, (j < 3 ∨ j = 5) → (rowT tr q keep t (runT tr q keep P t) p).2 j k = (rowT tr q' keep t (runT tr q' keep P t) p).2 j k := by
      intro p
      induction p with
      | zero => exact ih
      | succ p ihp =>
        rw [rowT, rowT]
        generalize rowT tr q keep t (runT tr q keep P t) p = r at ihp
        generalize rowT tr q' keep t (runT tr q' keep P t) p = r' at ihp
        obtain ⟨e1, e2⟩ := ihp
        unfold stT
        by_cases hc : (tr p t).1 = true
        · rw [if_pos hc, if_pos hc]
          refine ⟨by show r.1 + 1 = r'.1 + 1; rw [e1], fun j k hj => ?_⟩
          show adF r.2 r.1 _ j k = adF r'.2 r'.1 _ j k
          by_cases hk : k = r.1
          · rw [hk, adF_new, e1, adF_new]
            have hec : ∀ s t keep, echoF r.2 r.1 s t keep = echoF r'.2 r'.1 s t keep := fun s t keep => by rw [e1]; exact echoF_cong (fun k _ => e2 1 k (by omega)) (fun k _ => e2 2 k (by omega))
            rcases hj with hj | hj
            · match j, hj with
              | 0, _ => rfl
              | 1, _ => rfl
              | 2, _ => rfl
            · subst hj
              show echoF r.2 r'.1 _ _ _ = echoF r'.2 r'.1 _ _ _
              rw [← e1, hec, e1]
          · have hk' : k ≠ r'.1 := by omega
            show (if k = r.1 then _ else r.2 j k) = (if k = r'.1 then _ else r'.2 j k)
            rw [if_neg hk, if_neg hk']; exact e2 j k hj
        · rw [if_neg hc, if_neg hc]; exact ⟨e1, e2⟩
    exact row P
theorem gTQ {g : Nat → Int} : TQ (gQ g) (g 1) (gRun g).1 (gRun g).2 := runT_TQ (Nat.le_refl _)
theorem gTW {g : Nat → Int} : TW (goT (gGo g)) (g 3).toNat 100 0 (gRun g) := runT_TW (Nat.le_refl _)
theorem mTQ {u g : Nat → Int} : TQ (mQ u g) (g 1) (mRun u g).1 (mRun u g).2 := runT_TQ (Nat.le_refl _)
theorem mTW {u g : Nat → Int} : TW (goT (mGo u g)) (g 3).toNat 100 0 (mRun u g) := runT_TW (Nat.le_refl _)
theorem gRun_e7 {g : Nat → Int} {k : Nat} (hk : k < (gRun g).1) (h : (gRun g).2 5 k = -1) : (gRun g).2 7 k = 0 := by
  rw [(gTQ k hk).2.2.2.2.1, if_pos h]
