/-! the treads of an evening: T j k, j: 0 who 1 step 2 minute 3 shoe 4 loud 5 echo 6 heard 7 echoed 8 rings -/
def latF (f : Nat → Int) (s : Int) : Nat → Int
  | 0 => -1
  | n + 1 => if f n = s then (n : Int) else latF f s n
theorem latF_rng (f : Nat → Int) (s : Int) : ∀ n, -1 ≤ latF f s n ∧ latF f s n < (n : Int)
  | 0 => ⟨Int.le_refl _, by simp [latF]⟩
  | n + 1 => by
    have ih := latF_rng f s n
    rw [latF]; split <;> omega
theorem latF_cong {f f' : Nat → Int} {s : Int} : ∀ n, (∀ k, k < n → f k = f' k) → latF f s n = latF f' s n
  | 0, _ => rfl
  | n + 1, h => by rw [latF, latF, latF_cong n (fun k hk => h k (by omega)), h n (by omega)]
/-- how things sound: the shoe of p in minute t, how loud he is on s in shoe w, who hears it -/
abbrev Qs : Type := (Nat → Int → Int) × (Nat → Nat → Int → Int) × (Int → Int → Nat)
def echoF (T : Nat → Nat → Int) (n : Nat) (s t keep : Int) : Int := if latF (T 1) s n ≠ -1 ∧ t - T 2 (latF (T 1) s n).toNat ≤ keep then latF (T 1) s n else -1
/-- the next tread -/
def trF (q : Qs) (keep : Int) (T : Nat → Nat → Int) (n p s : Nat) (t : Int) : Nat → Int := fun j =>
  if j = 0 then (p : Int) else if j = 1 then (s : Int) else if j = 2 then t else if j = 3 then q.1 p t
  else if j = 4 then q.2.1 p s (q.1 p t) else if j = 5 then echoF T n s t keep
  else if j = 6 then ((q.2.2 (q.2.1 p s (q.1 p t)) s : Nat) : Int)
  else if j = 7 then (if echoF T n s t keep = -1 then 0 else ((q.2.2 (T 4 (echoF T n s t keep).toNat / 2) s : Nat) : Int))
  else (if echoF T n s t keep = -1 then 1 else T 8 (echoF T n s t keep).toNat + 1)
def adF (T : Nat → Nat → Int) (n : Nat) (r : Nat → Int) : Nat → Nat → Int := fun j k => if k = n then r j else T j k
theorem adF_old {T : Nat → Nat → Int} {n : Nat} {r : Nat → Int} {j k : Nat} (h : k < n) : adF T n r j k = T j k := by simp [adF, Nat.ne_of_lt h]
theorem adF_new {T : Nat → Nat → Int} {n : Nat} {r : Nat → Int} {j : Nat} : adF T n r j n = r j := by simp [adF]
theorem m_latest {J : mJ} {n : Nat} {T : Nat → Nat → Int} (hn : J 128 25 = (n : Int)) (hn2 : n ≤ 640) (hT : ∀ k, k < n → J 132 k = T 0 k ∧ J 133 k = T 1 k) (hw : ∀ k, k < n → 0 ≤ T 0 k) {s : Int} {post' : Int → Prop} (hq : post' (latF (T 1) s n)) : v_X12_latest J 128 s (-1) post' := by
  unfold v_X12_latest
  rw [hn]
  refine ⟨⟨by omega, by omega⟩, ?_⟩
  rintro _ rfl
  intro ZZ hZ
  have key : ∀ m : Nat, m ≤ n → latF (T 1) s m = latF (T 1) s n → ZZ ((m : Int) - 1) := by
    intro m
    induction m with
    | zero =>
      intro _ he
      apply hZ
      refine ⟨fun _ => ?_, fun c => absurd (by omega) c⟩
      rw [← he] at hq
      exact hq
    | succ m ih =>
      intro hm he
      have e1 : (((m + 1 : Nat) : Int) - 1) = (m : Int) := by omega
      rw [e1]
      apply hZ
      simp only [Int.toNat_natCast]
      rw [(hT m (by omega)).1, (hT m (by omega)).2]
      have h0 := hw m (by omega)
      rw [latF] at he
      refine ⟨fun c => by omega, fun _ => ⟨⟨by omega, by omega⟩, fun c => ⟨⟨by omega, by omega⟩, ?_⟩, fun c => ⟨⟨by omega, by omega⟩, fun c2 => by omega, fun _ => ?_⟩⟩⟩
      · rintro _ rfl
        rw [if_neg c] at he
        exact ih (by omega) he
      · rw [if_pos c] at he
        rw [← he] at hq
        exact hq
  exact key n (Nat.le_refl _) rfl
theorem HR_frame {J J1 : mJ} {h : Nat} {g : Nat → Int} (hf : ∀ k, k < 14 → J1 (h + k) = J (h + k)) (hr : HR J h g) : HR J1 h g := by
  have h0 : J1 h = J h := hf 0 (by decide)
  unfold HR
  rw [h0, hf 1 (by decide), hf 2 (by decide), hf 3 (by decide), hf 4 (by decide), hf 5 (by decide), hf 6 (by decide), hf 7 (by decide), hf 8 (by decide), hf 9 (by decide), hf 10 (by decide), hf 11 (by decide), hf 12 (by decide), hf 13 (by decide)]
  exact hr
