/-! an array filled; the table of who hears what, in the class -/
def fillZ (J : mJ) (a n : Nat) (v : Int) : mJ := fun c => if c = a then (fun i => if i < n then v else J a i) else J c
theorem fillZ_up (J : mJ) (a k : Nat) (v : Int) : up2 (fillZ J a k v) a k v = fillZ J a (k + 1) v := by
  funext c i
  by_cases hc : c = a
  · subst hc
    by_cases hi : i = k
    · subst hi; simp [up2, up1, fillZ]
    · have : (i < k) ↔ (i < k + 1) := by omega
      simp [up2, up1, fillZ, hi, this]
  · simp [up2, fillZ, hc]
theorem fillZ_0 (J : mJ) (a : Nat) (v : Int) : fillZ J a 0 v = J := by
  funext c i
  by_cases hc : c = a
  · subst hc; simp [fillZ]
  · simp [fillZ, hc]
theorem p_fill {J : mJ} {a n : Nat} {v : Int} (hn : n ≤ 100000) {post' : mJ → Prop} (h : post' (fillZ J a n v)) : v_J7_fill_53178 J a n v post' := by
  refine ⟨⟨by omega, by omega⟩, ?_⟩
  rintro _ rfl
  intro ZZ hZ
  have key : ∀ d k : Nat, k + d = n → ZZ (fillZ J a k v) (k : Int) (n : Int) := by
    intro d
    induction d with
    | zero =>
      intro k hk
      have hk : k = n := by omega
      subst hk
      exact hZ _ _ _ ⟨fun _ => h, fun c => absurd (Int.le_refl _) c⟩
    | succ d ih =>
      intro k hk
      have ih := ih (k + 1) (by omega)
      apply hZ
      refine ⟨fun c => by omega, fun _ => ⟨⟨by omega, by omega⟩, ?_⟩⟩
      rintro _ rfl
      refine ⟨⟨by omega, by omega⟩, ?_⟩
      rintro _ rfl
      rw [Int.toNat_natCast, fillZ_up]
      exact ih
  have := key n 0 (Nat.zero_add _)
  rw [fillZ_0] at this
  exact this
/-- the table while it is made: rows below s are done; of row s the flats below f, and flat f too where the loudness is below l0 -/
def lisV (g : Nat → Int) (s f l0 i : Nat) : Int :=
  if i / 19 < s then ((gEars g ((i % 19 : Nat) : Int) ((i / 19 : Nat) : Int) : Nat) : Int)
  else if i / 19 = s then ((earsF (fun q => gHear (g (29 + 2 * q)) (g (30 + 2 * q)) ((s : Nat) : Int) ((i % 19 : Nat) : Int)) (if i % 19 < l0 then f + 1 else f) : Nat) : Int)
  else 0
def lisM (J : mJ) (a : Nat) (g : Nat → Int) (s f l0 : Nat) : mJ := fun c => if c = a then (fun i => if i < 456 then lisV g s f l0 i else J a i) else J c
theorem lisM_up {J : mJ} {a : Nat} {g : Nat → Int} {s f l0 : Nat} (hl : l0 < 19) (hs : s < 24) (hf : f < 6) (hear : gHear (g (29 + 2 * f)) (g (30 + 2 * f)) (s : Int) (l0 : Int) = true) : up2 (lisM J a g s f l0) a (s * 19 + l0) (orZ (lisM J a g s f l0 a (s * 19 + l0)) (shlZ 1 (f : Int))) = lisM J a g s f (l0 + 1) := by
  have hd : (s * 19 + l0) / 19 = s := by omega
  have hm : (s * 19 + l0) % 19 = l0 := by omega
  have hlt : s * 19 + l0 < 456 := by omega
  funext c i
  by_cases hc : c = a
  · subst hc
    by_cases hi : i = s * 19 + l0
    · subst hi
      have e1 := earsF_lt (fun q => gHear (g (29 + 2 * q)) (g (30 + 2 * q)) (s : Int) (l0 : Int)) f
      have hpw : 2 ^ f ≤ 2 ^ 6 := Nat.pow_le_pow_right (by decide) (by omega)
      simp only [up2, up1, lisM, lisV, if_true, if_pos hlt, hd, hm, Nat.lt_irrefl, if_false, Nat.lt_succ_self]
      rw [shlZ_one (by omega), orZ_nat (by omega) (by omega)]
      conv => rhs; rw [earsF]
      rw [if_pos hear]
    · simp only [up2, up1, lisM, if_true, if_neg hi]
      by_cases hb : i < 456
      · rw [if_pos hb, if_pos hb]
        unfold lisV
        by_cases h1 : i / 19 < s
        · rw [if_pos h1, if_pos h1]
        · rw [if_neg h1, if_neg h1]
          by_cases h2 : i / 19 = s
          · rw [if_pos h2, if_pos h2]
            have : (i % 19 < l0) ↔ (i % 19 < l0 + 1) := by omega
            simp only [this]
          · rw [if_neg h2, if_neg h2]
      · rw [if_neg hb, if_neg hb]
  · simp [up2, lisM, hc]
theorem earsF_skip {P : Nat → Bool} {f : Nat} (h : P f = false) : earsF P (f + 1) = earsF P f := by rw [earsF, if_neg (by rw [h]; decide)]
/-- flat f's first loudness l1: below it nothing is heard, from it on all -/
theorem lisM_skip {J : mJ} {a : Nat} {g : Nat → Int} {s f l1 : Nat} (h : ∀ l, l < l1 → l < 19 → gHear (g (29 + 2 * f)) (g (30 + 2 * f)) (s : Int) ((l : Nat) : Int) = false) : lisM J a g s f 0 = lisM J a g s f l1 := by
  funext c i
  by_cases hc : c = a
  · subst hc
    simp only [lisM, if_true]
    by_cases hb : i < 456
    · rw [if_pos hb, if_pos hb]
      unfold lisV
      by_cases h1 : i / 19 < s
      · rw [if_pos h1, if_pos h1]
      · rw [if_neg h1, if_neg h1]
        by_cases h2 : i / 19 = s
        · rw [if_pos h2, if_pos h2, if_neg (Nat.not_lt_zero _)]
          by_cases h3 : i % 19 < l1
          · rw [if_pos h3, earsF_skip (h _ h3 (by omega))]
          · rw [if_neg h3]
        · rw [if_neg h2, if_neg h2]
    · rw [if_neg hb, if_neg hb]
  · simp [lisM, hc]
theorem lisM_next {J : mJ} {a : Nat} {g : Nat → Int} {s f l1 : Nat} (h : 19 ≤ l1) : lisM J a g s f l1 = lisM J a g s (f + 1) 0 := by
  funext c i
  by_cases hc : c = a
  · subst hc
    simp only [lisM, if_true]
    by_cases hb : i < 456
    · rw [if_pos hb, if_pos hb]
      unfold lisV
      have h3 : i % 19 < l1 := by omega
      simp only [if_pos h3, if_neg (Nat.not_lt_zero _)]
    · rw [if_neg hb, if_neg hb]
  · simp [lisM, hc]
theorem lisM_row {J : mJ} {a : Nat} {g : Nat → Int} {s : Nat} : lisM J a g s (g 2).toNat 0 = lisM J a g (s + 1) 0 0 := by
  funext c i
  by_cases hc : c = a
  · subst hc
    simp only [lisM, if_true]
    by_cases hb : i < 456
    · rw [if_pos hb, if_pos hb]
      unfold lisV
      by_cases h1 : i / 19 < s
      · rw [if_pos h1, if_pos (by omega)]
      · rw [if_neg h1]
        by_cases h2 : i / 19 = s
        · rw [if_pos h2, if_neg (Nat.not_lt_zero _), if_pos (show i / 19 < s + 1 by omega), h2]
          rfl
        · rw [if_neg h2, if_neg (by omega)]
          by_cases h4 : i / 19 = s + 1
          · rw [if_pos h4, if_neg (Nat.not_lt_zero _)]; rfl
          · rw [if_neg h4]
    · rw [if_neg hb, if_neg hb]
  · simp [lisM, hc]
theorem x_listen {J : mJ} {e h : Nat} {g : Nat → Int} (hv : HV g) (hr : HR J h g) (hne : ∀ k, k < 14 → h + k ≠ e + 12) {post' : mJ → Prop} (hq : post' (lisM J (e + 12) g (g 0).toNat 0 0)) : v_X2_listen J e h post' := by
  have h0 := hv.1
  have h2 := hv.2.2.1
  have hk : ∀ (c : Nat), c ≠ e + 12 → ∀ s f l, lisM J (e + 12) g s f l c = J c := fun c hc s f l => by simp [lisM, hc]
  have hh : ∀ k, k < 14 → ∀ s f l, lisM J (e + 12) g s f l (h + k) = J (h + k) := fun k hk' s f l => hk _ (hne k hk') s f l
  have hh0 : ∀ s f l, lisM J (e + 12) g s f l h = J h := fun s f l => hh 0 (by decide) s f l
  refine p_fill (by decide) ?_
  have e0 : fillZ J (e + 12) 456 0 = lisM J (e + 12) g 0 0 0 := by
    funext c i
    by_cases hc : c = e + 12
    · subst hc
      simp only [fillZ, lisM, if_true]
      by_cases hb : i < 456
      · rw [if_pos hb, if_pos hb]
        unfold lisV
        rw [if_neg (Nat.not_lt_zero _)]
        split
        · rw [if_neg (Nat.not_lt_zero _)]; rfl
        · rfl
      · rw [if_neg hb, if_neg hb]
    · simp [fillZ, lisM, hc]
  rw [e0]
  intro Z1 hZ1
  have key1 : ∀ d s : Nat, s + d = (g 0).toNat → Z1 (lisM J (e + 12) g s 0 0) (s : Int) := by
    intro d
    induction d with
    | zero =>
      intro s hs
      have hs : s = (g 0).toNat := by omega
      apply hZ1
      rw [hh0, hr.1.1]
      exact ⟨fun _ => by subst hs; exact hq, fun c => absurd (by omega) c⟩
    | succ d ih1 =>
      intro s hs
      have ih1 := ih1 (s + 1) (by omega)
      apply hZ1
      rw [hh0, hr.1.1]
      refine ⟨fun c => by omega, fun _ => ?_⟩
      intro Z2 hZ2
      have key2 : ∀ d2 f : Nat, f + d2 = (g 2).toNat → Z2 (lisM J (e + 12) g s f 0) (s : Int) (f : Int) := by
        intro d2
        induction d2 with
        | zero =>
          intro f hf
          have hf : f = (g 2).toNat := by omega
          apply hZ2
          rw [hh0, hr.1.2.2.1]
          refine ⟨fun _ => ⟨⟨by omega, by omega⟩, ?_⟩, fun c => absurd (by omega) c⟩
          rintro _ rfl
          rw [hf, lisM_row]
          exact ih1
        | succ d2 ih2 =>
          intro f hf
          have ih2 := ih2 (f + 1) (by omega)
          have hfi : (f : Int) < g 2 := by omega
          have hF := hv.2.2.2.2.2.2.1 f hfi
          apply hZ2
          rw [hh0, hr.1.2.2.1]
          simp only [Int.toNat_natCast]
          rw [hh 2 (by decide), hh 3 (by decide), (hr.2.2.1 f hfi).1, (hr.2.2.1 f hfi).2]
          have ha := absZ_rng (a := g (29 + 2 * f) - (s : Int)) (m := 24) ⟨by omega, by omega⟩
          refine ⟨fun c => by omega, fun _ => ⟨⟨by omega, by omega⟩, ⟨by omega, by omega⟩, ⟨by omega, by omega⟩, ?_⟩⟩
          intro far hfar
          refine ⟨⟨by omega, by omega⟩, ⟨by omega, by omega⟩, ?_⟩
          intro l1 hl1
          have hl1' : l1 = maxZ 1 (absZ (g (29 + 2 * f) - (s : Int)) - g (30 + 2 * f)) := by rw [hl1, hfar]
          have hmax : 1 ≤ l1 ∧ absZ (g (29 + 2 * f) - (s : Int)) - g (30 + 2 * f) ≤ l1 ∧ (l1 = 1 ∨ l1 = absZ (g (29 + 2 * f) - (s : Int)) - g (30 + 2 * f)) := by
            rw [hl1']; unfold maxZ; split <;> omega
          obtain ⟨m1, m2, m3⟩ := hmax
          obtain ⟨n1, hn1⟩ : ∃ n1 : Nat, l1 = (n1 : Int) := ⟨l1.toNat, by omega⟩
          rw [lisM_skip (l1 := n1) (fun l hl _ => decide_eq_false (by omega))]
          intro Z3 hZ3
          have key3 : ∀ d3 l : Nat, n1 ≤ l → l + d3 = max n1 19 → Z3 (lisM J (e + 12) g s f l) (s : Int) (f : Int) (l : Int) := by
            intro d3
            induction d3 with
            | zero =>
              intro l hl hd
              apply hZ3
              refine ⟨fun _ => ⟨⟨by omega, by omega⟩, ?_⟩, fun c => absurd (by omega) c⟩
              rintro _ rfl
              rw [lisM_next (by omega)]
              exact ih2
            | succ d3 ih3 =>
              intro l hl hd
              have hl19 : l < 19 := by omega
              have ih3 := ih3 (l + 1) (by omega) (by omega)
              apply hZ3
              refine ⟨fun c => by omega, fun _ => ⟨⟨by omega, by omega⟩, ⟨by omega, by omega⟩, ⟨by omega, by omega⟩, ⟨by omega, by omega⟩, ?_⟩⟩
              have ei : ((s : Int) * 19 + (l : Int)).toNat = s * 19 + l := by omega
              rw [ei, lisM_up hl19 (by omega) (by omega) (decide_eq_true (by omega))]
              rintro _ rfl
              refine ⟨⟨by omega, by omega⟩, ?_⟩
              rintro _ rfl
              exact ih3
          rw [hn1]
          exact key3 _ n1 (Nat.le_refl _) (Nat.add_sub_cancel' (Nat.le_max_left _ _))
      exact key2 _ 0 (Nat.zero_add _)
  exact key1 _ 0 (Nat.zero_add _)
/-- the table as it stands -/
def EarT (J : mJ) (e : Nat) (g : Nat → Int) : Prop := ∀ s l : Nat, (s : Int) < g 0 → l < 19 → J (e + 12) (s * 19 + l) = ((gEars g (l : Int) (s : Int) : Nat) : Int)
theorem lisM_T {J : mJ} {e : Nat} {g : Nat → Int} (hv : HV g) : EarT (lisM J (e + 12) g (g 0).toNat 0 0) e g := by
  intro s l hs hl
  have h0 := hv.1
  have hd : (s * 19 + l) / 19 = s := by omega
  have hm : (s * 19 + l) % 19 = l := by omega
  simp only [lisM, lisV, if_true, hd, hm]
  rw [if_pos (by omega), if_pos (by omega)]
theorem x_hearers {J : mJ} {e h : Nat} {g : Nat → Int} (hv : HV g) (hT : EarT J e g) {s l : Nat} (hs : (s : Int) < g 0) (hl : l < 19) {post' : Int → Prop} (hq : post' ((gEars g (l : Int) (s : Int) : Nat) : Int)) : v_X2_hearers J e h (s : Int) (l : Int) post' := by
  have h0 := hv.1
  have ei : ((s : Int) * 19 + (l : Int)).toNat = s * 19 + l := by omega
  unfold v_X2_hearers
  rw [ei, hT s l hs hl]
  exact ⟨fun c => by omega, fun _ => ⟨fun c => by omega, fun _ => ⟨fun c => by omega, fun _ => ⟨fun _ => ⟨⟨by omega, by omega⟩, ⟨by omega, by omega⟩, ⟨by omega, by omega⟩, hq⟩, fun c => absurd (by omega) c⟩⟩⟩⟩
