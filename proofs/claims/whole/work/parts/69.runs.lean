/-! the run of an evening, pure: minute by minute, one after the other -/
abbrev Ts : Type := Nat × (Nat → Nat → Int)
/-- who goes when: person, minute: does he tread, where is he then -/
abbrev Tr : Type := Nat → Nat → Bool × Int
def stT (tr : Tr) (q : Qs) (keep : Int) (r : Ts) (p t : Nat) : Ts := if (tr p t).1 = true then (r.1 + 1, adF r.2 r.1 (trF q keep r.2 r.1 p (tr p t).2.toNat (t : Int))) else r
def rowT (tr : Tr) (q : Qs) (keep : Int) (t : Nat) (r : Ts) : Nat → Ts
  | 0 => r
  | p + 1 => stT tr q keep (rowT tr q keep t r p) p t
def runT (tr : Tr) (q : Qs) (keep : Int) (P : Nat) : Nat → Ts
  | 0 => (0, fun _ _ => 0)
  | t + 1 => rowT tr q keep t (runT tr q keep P t) P
/-- an ear that hears with at most six flats; a shoe 0 to 9; loudness 0 to 18 -/
def QV9 (g : Nat → Int) (q : Qs) : Prop := (∀ p : Nat, (p : Int) < g 3 → ∀ t : Int, 0 ≤ q.1 p t ∧ q.1 p t ≤ 9) ∧ (∀ p s : Nat, (p : Int) < g 3 → s < 24 → ∀ w : Int, 0 ≤ w ∧ w ≤ 9 → 0 ≤ q.2.1 p s w ∧ q.2.1 p s w ≤ 18) ∧ (∀ l s : Int, q.2.2 l s < 64)
theorem echoF_rng {T : Nat → Nat → Int} {n : Nat} {s t keep : Int} : -1 ≤ echoF T n s t keep ∧ echoF T n s t keep < (n : Int) := by
  have := latF_rng (T 1) s n
  unfold echoF; split <;> omega
theorem TV_add {g : Nat → Int} {q : Qs} (hq : QV9 g q) {n : Nat} {T : Nat → Nat → Int} (hV : TV g n T) {p s : Nat} {t keep : Int} (hp : (p : Int) < g 3) (hs : (s : Int) < g 0) (hs24 : s < 24) (ht : 0 ≤ t ∧ t ≤ 99) : TV g (n + 1) (adF T n (trF q keep T n p s t)) := by
  intro k hk
  by_cases hkn : k < n
  · simp only [adF_old hkn]; exact hV k hkn
  · have hkn : k = n := by omega
    subst hkn
    simp only [adF_new]
    have hsh := hq.1 p hp t
    have hlo := hq.2.1 p s hp hs24 _ hsh
    have he := echoF_rng (T := T) (n := k) (s := (s : Int)) (t := t) (keep := keep)
    have h6 := hq.2.2 (q.2.1 p s (q.1 p t)) (s : Int)
    refine ⟨⟨by show (0 : Int) ≤ (p : Int); omega, hp⟩, ⟨by show (0 : Int) ≤ (s : Int); omega, hs⟩, ht, hsh, hlo, he, ⟨by show (0 : Int) ≤ ((q.2.2 (q.2.1 p s (q.1 p t)) s : Nat) : Int); omega, by show ((q.2.2 (q.2.1 p s (q.1 p t)) s : Nat) : Int) < 64; omega⟩, ?_, ?_⟩
    · rw [trF_7]
      split
      · exact ⟨by decide, by decide⟩
      · have := hq.2.2 (T 4 (echoF T k s t keep).toNat / 2) (s : Int)
        omega
    · rw [trF_8]
      split
      · omega
      · have := (hV (echoF T k s t keep).toNat (by omega)).2.2.2.2.2.2.2.2
        omega
theorem gGo_k {g : Nat → Int} {p k : Nat} {t on : Int} (hk : (k : Int) ≤ g (46 + 14 * p)) : ((gGo g p t on k).2.2 : Int) ≤ g (46 + 14 * p) := by
  have hor := opF_rng (fun q => g (47 + 14 * p + q)) on ((g (46 + 14 * p)).toNat - k) k
  unfold gGo goF opG
  split
  · exact hk
  · split
    · exact hk
    · split <;> (show ((opF (fun q => g (47 + 14 * p + q)) on ((g (46 + 14 * p)).toNat - k) k : Nat) : Int) ≤ _; omega)
theorem gGo_on {g : Nat → Int} (hv : HV g) {p k : Nat} {t on : Int} (hp : (p : Int) < g 3) (hk : (k : Int) ≤ g (46 + 14 * p)) (ho : 0 < g (46 + 14 * p) → g (44 + 14 * p) < t → 0 ≤ on ∧ on < g 0) (ho1 : -1 ≤ on ∧ on < g 0) : (-1 ≤ (gGo g p t on k).2.1 ∧ (gGo g p t on k).2.1 < g 0) ∧ (0 < g (46 + 14 * p) → g (44 + 14 * p) < t + 1 → 0 ≤ (gGo g p t on k).2.1) ∧ ((gGo g p t on k).1 = true → 0 ≤ (gGo g p t on k).2.1) := by
  obtain ⟨-, -, hrise, hbeg, hgoals, hiff, hst, -, hgl⟩ := hv.2.2.2.2.2.2.2.1 p hp
  have hor := opF_rng (fun q => g (47 + 14 * p + q)) on ((g (46 + 14 * p)).toNat - k) k
  unfold gGo goF opG
  split
  next h1 => exact ⟨ho1, fun a b => by rcases h1 with h1 | h1 <;> omega, fun c => Bool.noConfusion c⟩
  next h1 =>
    split
    next h2 =>
      have := hst (by omega)
      exact ⟨⟨by show -1 ≤ g (45 + 14 * p); omega, this.2⟩, fun _ _ => this.1, fun _ => this.1⟩
    next h2 =>
      have hon := ho (by omega) (by omega)
      split
      next h3 =>
        have hto := hgl _ (show ((opF (fun q => g (47 + 14 * p + q)) on ((g (46 + 14 * p)).toNat - k) k : Nat) : Int) < g (46 + 14 * p) by omega)
        have hn := nxF_rng hon hto (rise := g (43 + 14 * p)) (by omega)
        exact ⟨⟨Int.le_trans (by decide) hn.1, hn.2⟩, fun _ _ => hn.1, fun _ => hn.1⟩
      next h3 => exact ⟨⟨by show -1 ≤ on; omega, hon.2⟩, fun _ _ => hon.1, fun _ => hon.1⟩
/-- the walk of each of the house g: where he is and at which goal, before minute t -/
def goS (go : Nat → Int → Int → Nat → Bool × Int × Nat) (p : Nat) : Nat → Int × Nat
  | 0 => (-1, 0)
  | t + 1 => (go p (t : Int) (goS go p t).1 (goS go p t).2).2
def goT (go : Nat → Int → Int → Nat → Bool × Int × Nat) : Tr := fun p t => ((go p (t : Int) (goS go p t).1 (goS go p t).2).1, (goS go p (t + 1)).1)
def TrV (g : Nat → Int) (tr : Tr) : Prop := ∀ p t : Nat, (p : Int) < g 3 → (-1 ≤ (tr p t).2 ∧ (tr p t).2 < g 0) ∧ ((tr p t).1 = true → 0 ≤ (tr p t).2)
theorem goS_rng {g : Nat → Int} (hv : HV g) {p : Nat} (hp : (p : Int) < g 3) : ∀ t, ((goS (gGo g) p t).2 : Int) ≤ g (46 + 14 * p) ∧ (0 < g (46 + 14 * p) → g (44 + 14 * p) < (t : Int) → 0 ≤ (goS (gGo g) p t).1 ∧ (goS (gGo g) p t).1 < g 0) ∧ (-1 ≤ (goS (gGo g) p t).1 ∧ (goS (gGo g) p t).1 < g 0)
  | 0 => by
    have h0 := hv.1
    obtain ⟨-, -, -, hb, hg, hi, -⟩ := hv.2.2.2.2.2.2.2.1 p hp
    refine ⟨by show ((0 : Nat) : Int) ≤ _; omega, fun a b => ?_, by show (-1 : Int) ≤ -1; omega, by show (-1 : Int) < _; omega⟩
    exfalso; omega
  | t + 1 => by
    obtain ⟨i1, i2, i3⟩ := goS_rng hv hp t
    have h := gGo_on hv hp i1 i2 i3
    refine ⟨gGo_k i1, fun a b => ⟨h.2.1 a (by omega), h.1.2⟩, h.1⟩
theorem gTrV {g : Nat → Int} (hv : HV g) : TrV g (goT (gGo g)) := fun p t hp => by
  obtain ⟨i1, i2, i3⟩ := goS_rng hv hp t
  have h := gGo_on hv hp i1 i2 i3
  exact ⟨h.1, h.2.2⟩
theorem rowT_le {tr : Tr} {q : Qs} {keep : Int} {t : Nat} {r : Ts} : ∀ p, (rowT tr q keep t r p).1 ≤ r.1 + p
  | 0 => Nat.le_refl _
  | p + 1 => by
    have ih := rowT_le (tr := tr) (q := q) (keep := keep) (t := t) (r := r) p
    rw [rowT, stT]; split
    · show _ + 1 ≤ _; omega
    · omega
theorem runT_le {tr : Tr} {q : Qs} {keep : Int} {P : Nat} : ∀ t, (runT tr q keep P t).1 ≤ t * P
  | 0 => Nat.zero_le _
  | t + 1 => by
    have ih := runT_le (tr := tr) (q := q) (keep := keep) (P := P) t
    have := rowT_le (tr := tr) (q := q) (keep := keep) (t := t) (r := runT tr q keep P t) P
    rw [runT, Nat.succ_mul]; omega
theorem rowT_TV {g : Nat → Int} (h0 : g 0 ≤ 24) {tr : Tr} (htr : TrV g tr) {q : Qs} (hq : QV9 g q) {keep : Int} {t : Nat} (ht : t < 100) {r : Ts} (hr : TV g r.1 r.2) : ∀ p : Nat, (p : Int) ≤ g 3 → TV g (rowT tr q keep t r p).1 (rowT tr q keep t r p).2
  | 0, _ => hr
  | p + 1, hp => by
    have ih := rowT_TV h0 htr hq (keep := keep) ht hr p (by omega)
    have h1 := htr p t (by omega)
    rw [rowT, stT]; split
    next h =>
      have := h1.2 h
      exact TV_add hq ih (by omega) (by omega) (by omega) ⟨by omega, by omega⟩
    next => exact ih
theorem runT_TV {g : Nat → Int} (h0 : g 0 ≤ 24) {tr : Tr} (htr : TrV g tr) {q : Qs} (hq : QV9 g q) {keep : Int} {P : Nat} (hP : (P : Int) ≤ g 3) : ∀ t : Nat, t ≤ 100 → TV g (runT tr q keep P t).1 (runT tr q keep P t).2
  | 0, _ => fun k hk => absurd hk (Nat.not_lt_zero _)
  | t + 1, ht => rowT_TV h0 htr hq (by omega) (runT_TV h0 htr hq hP t (by omega)) P hP
/-- one's last minute -/
def lasF (T : Nat → Nat → Int) (n : Nat) (p : Int) : Int := if latF (T 0) p n = -1 then -1 else T 2 (latF (T 0) p n).toNat
theorem lasF_add {q : Qs} {keep : Int} {T : Nat → Nat → Int} {n p s i : Nat} {t : Int} : lasF (adF T n (trF q keep T n p s t)) (n + 1) (i : Int) = if i = p then t else lasF T n (i : Int) := by
  have e1 : latF (adF T n (trF q keep T n p s t) 0) (i : Int) (n + 1) = if (p : Int) = (i : Int) then (n : Int) else latF (T 0) (i : Int) n := by
    rw [latF, adF_new, latF_cong (f' := T 0) n (fun k hk => adF_old hk)]; rfl
  have hr := latF_rng (T 0) (i : Int) n
  unfold lasF
  rw [e1]
  by_cases h : i = p
  · subst h
    rw [if_pos rfl, if_pos rfl, if_neg (by omega), Int.toNat_natCast, adF_new]; rfl
  · rw [if_neg (show ¬ (p : Int) = (i : Int) by omega), if_neg h]
    split
    · rfl
    · exact adF_old (by omega)
