/-! apart: the fewest shoes -/
def digN (P c p : Nat) : Nat := c / 6 ^ (P - 1 - p) % 6
def okD (mx : Nat → Nat → Bool) (S : Nat) (w : Nat → Nat) (a : Nat) : Bool := decide (w a < S) && ! anyF (fun b => decide (w a = w b) && mx a b) a
def vdB (mx : Nat → Nat → Bool) (S P c : Nat) : Bool := ! anyF (fun a => ! okD mx S (digN P c) a) P
theorem anyF_cong {P Q : Nat → Bool} : ∀ n, (∀ k, k < n → P k = Q k) → anyF P n = anyF Q n
  | 0, _ => rfl
  | n + 1, h => by rw [anyF, anyF, anyF_cong n (fun k hk => h k (by omega)), h n (by omega)]
theorem anyF_false {P : Nat → Bool} {n : Nat} : anyF P n = false ↔ ∀ k, k < n → P k = false := by
  rw [Bool.eq_false_iff, Ne, anyF_iff]
  constructor
  · intro h k hk; exact Bool.eq_false_iff.mpr (fun c => h ⟨k, hk, c⟩)
  · rintro h ⟨k, hk, c⟩; rw [h k hk] at c; exact Bool.noConfusion c
theorem vdB_iff {mx : Nat → Nat → Bool} {S P c : Nat} : vdB mx S P c = true ↔ ∀ a, a < P → okD mx S (digN P c) a = true := by
  unfold vdB
  rw [Bool.not_eq_true', anyF_false]
  constructor
  · intro h a ha; have := h a ha; rw [Bool.not_eq_false'] at this; exact this
  · intro h a ha; rw [h a ha]; rfl
theorem okD_cong {mx : Nat → Nat → Bool} {S a : Nat} {w w' : Nat → Nat} (h : ∀ i, i ≤ a → w i = w' i) : okD mx S w a = okD mx S w' a := by
  unfold okD
  rw [h a (Nat.le_refl _), anyF_cong a (fun b hb => by rw [h b (by omega)])]
theorem digN_lt (P c p : Nat) : digN P c p < 6 := Nat.mod_lt _ (by decide)
theorem dig_pre {P p c c0 i : Nat} (hp : p ≤ P) (hi : i < p) (hc : c / 6 ^ (P - p) = c0) : digN P c i = digN p c0 i := by
  unfold digN
  rw [← hc, Nat.div_div_eq_div_mul, ← Nat.pow_add, show P - p + (p - 1 - i) = P - 1 - i by omega]
theorem dig_last {p c0 s : Nat} (hs : s < 6) : digN (p + 1) (c0 * 6 + s) p = s := by
  unfold digN
  rw [show p + 1 - 1 - p = 0 by omega, Nat.pow_zero, Nat.div_one]; omega
theorem dig_up {p c0 s i : Nat} (hs : s < 6) (hi : i < p) : digN (p + 1) (c0 * 6 + s) i = digN p c0 i :=
  dig_pre (by omega) hi (by rw [show p + 1 - p = 1 by omega, Nat.pow_one]; omega)
/-- the first of those that fit, in a stretch; none -/
def isFs (P : Nat → Bool) (k d c : Nat) : Prop := k ≤ c ∧ c < k + d ∧ P c = true ∧ ∀ i, k ≤ i → i < c → P i = false
def isNo (P : Nat → Bool) (k d : Nat) : Prop := ∀ i, k ≤ i → i < k + d → P i = false
theorem fst_isFs {P : Nat → Bool} {k : Nat} : ∀ d {c : Nat}, isFs P k d c → fstF P k d = (c : Int)
  | 0, c, h => by have := h.1; have := h.2.1; omega
  | d + 1, c, h => by
    obtain ⟨h1, h2, h3, h4⟩ := h
    rw [fstF]
    by_cases e : k = c
    · subst e; rw [if_pos h3]
    · rw [if_neg (by rw [h4 k (Nat.le_refl _) (by omega)]; decide)]
      exact fst_isFs d ⟨by omega, by omega, h3, fun i g1 g2 => h4 i (by omega) g2⟩
theorem fst_isNo {P : Nat → Bool} {k : Nat} : ∀ d, isNo P k d → fstF P k d = -1
  | 0, _ => rfl
  | d + 1, h => by
    rw [fstF, if_neg (by rw [h k (Nat.le_refl _) (by omega)]; decide)]
    exact fst_isNo d (fun i g1 g2 => h i (by omega) (by omega))
theorem fst_cases (P : Nat → Bool) (k : Nat) : ∀ d, isNo P k d ∨ ∃ c, isFs P k d c
  | 0 => Or.inl (fun i h1 h2 => by omega)
  | d + 1 => by
    rcases fst_cases P k d with h | ⟨c, h⟩
    · cases e : P (k + d) with
      | false => exact Or.inl (fun i h1 h2 => by
          by_cases e2 : i = k + d
          · rw [e2]; exact e
          · exact h i h1 (by omega))
      | true => exact Or.inr ⟨k + d, by omega, by omega, e, fun i h1 h2 => h i h1 (by omega)⟩
    · exact Or.inr ⟨c, h.1, by have := h.2.1; omega, h.2.2.1, h.2.2.2⟩
/-- who is mixed with whom -/
def hdF (n : Nat) (T : Nat → Nat → Int) (f : Nat) : Nat := orF (fun k => if bt (T 6 k) f = true then 2 ^ (T 0 k).toNat else 0) n
def mixF (n : Nat) (T : Nat → Nat → Int) (F p : Nat) : Nat := orF (fun f => if (hdF n T f).testBit p = true then hdF n T f else 0) F
def mxB (n : Nat) (T : Nat → Nat → Int) (a b : Nat) : Bool := decide ((hoF T n a &&& hoF T n b) ≠ 0)
theorem hd_bit {n f p : Nat} {T : Nat → Nat → Int} : (hdF n T f).testBit p = anyF (fun k => bt (T 6 k) f && decide ((T 0 k).toNat = p)) n := by
  unfold hdF
  rw [orF_bit]
  refine anyF_cong n (fun k _ => ?_)
  by_cases c : bt (T 6 k) f = true
  · rw [if_pos c, c, Bool.true_and, Nat.testBit_two_pow]
  · rw [if_neg c, Bool.eq_false_iff.mpr c, Bool.false_and]; exact Nat.zero_testBit p
theorem ho_bit {g : Nat → Int} {n f p : Nat} {T : Nat → Nat → Int} (hV : TV g n T) : (hoF T n p).testBit f = anyF (fun k => bt (T 6 k) f && decide ((T 0 k).toNat = p)) n := by
  unfold hoF
  rw [orF_bit]
  refine anyF_cong n (fun k hk => ?_)
  obtain ⟨t0, _⟩ := hV k hk
  by_cases c : T 0 k = (p : Int)
  · rw [if_pos c, decide_eq_true (by omega), Bool.and_true]; rfl
  · rw [if_neg c, decide_eq_false (by omega), Bool.and_false]; exact Nat.zero_testBit f
theorem hd_lt {g : Nat → Int} {n f : Nat} {T : Nat → Nat → Int} (hg : g 3 ≤ 6) (hV : TV g n T) : hdF n T f < 2 ^ 6 := orF_lt (b := 6) n (fun k hk => by
  obtain ⟨t0, _⟩ := hV k hk
  show (if bt (T 6 k) f = true then 2 ^ (T 0 k).toNat else 0) < 2 ^ 6
  split
  · exact Nat.pow_lt_pow_right (by decide) (by omega)
  · decide)
theorem mix_eq {g : Nat → Int} (hv : HV g) (p q : Nat) : (mixF (gRun g).1 (gRun g).2 (g 2).toNat p).testBit q = mxB (gRun g).1 (gRun g).2 p q := by
  have hV := gRun_TV hv
  have hb : ∀ f r, (hdF (gRun g).1 (gRun g).2 f).testBit r = (hoF (gRun g).2 (gRun g).1 r).testBit f := fun f r => by rw [hd_bit, ho_bit hV]
  unfold mixF mxB
  rw [orF_bit]
  apply Bool.eq_iff_iff.mpr
  rw [anyF_iff, decide_eq_true_eq]
  constructor
  · rintro ⟨f, hf, h⟩
    have h2 : (hdF (gRun g).1 (gRun g).2 f).testBit p = true ∧ (hdF (gRun g).1 (gRun g).2 f).testBit q = true := by
      by_cases c : (hdF (gRun g).1 (gRun g).2 f).testBit p = true
      · rw [if_pos c] at h; exact ⟨c, h⟩
      · rw [if_neg c, Nat.zero_testBit] at h; exact Bool.noConfusion h
    intro c
    have : (hoF (gRun g).2 (gRun g).1 p &&& hoF (gRun g).2 (gRun g).1 q).testBit f = true := by rw [Nat.testBit_and, ← hb, ← hb, h2.1, h2.2]; rfl
    rw [c, Nat.zero_testBit] at this; exact Bool.noConfusion this
  · intro h
    have hex : ∃ f, f < (g 2).toNat ∧ (hoF (gRun g).2 (gRun g).1 p &&& hoF (gRun g).2 (gRun g).1 q).testBit f = true := by
      apply Classical.byContradiction
      intro hno
      apply h
      apply Nat.eq_of_testBit_eq
      intro i
      rw [Nat.zero_testBit]
      by_cases hi : i < (g 2).toNat
      · exact Bool.eq_false_iff.mpr (fun c => hno ⟨i, hi, c⟩)
      · have hl : hoF (gRun g).2 (gRun g).1 q < 2 ^ (g 2).toNat := orF_lt (b := (g 2).toNat) _ (fun k hk => by
          have := (T67 gTQ (fun l s => gQ_F l s) hk).1
          show (if (gRun g).2 0 k = (q : Int) then ((gRun g).2 6 k).toNat else 0) < _
          split
          · exact this
          · exact Nat.two_pow_pos _)
        rw [Nat.testBit_and, Nat.testBit_lt_two_pow (Nat.lt_of_lt_of_le hl (Nat.pow_le_pow_right (by decide) (by omega))), Bool.and_false]
    obtain ⟨f, hf, h⟩ := hex
    rw [Nat.testBit_and, Bool.and_eq_true, ← hb, ← hb] at h
    exact ⟨f, hf, by rw [if_pos h.1]; exact h.2⟩
theorem x_findMixed {J : mJ} {e h : Nat} {g : Nat → Int} (hv : HV g) (hr : HR J h g) (hh : h ≤ 40) (he : 90 ≤ e) (hO : EvO J e g) {post' : mJ → Prop} (hq : ∀ J1, (∀ c, (c < 82 ∨ 83 < c) → J1 c = J c) → (∀ p : Nat, (p : Int) < g 3 → J1 82 p = ((mixF (gRun g).1 (gRun g).2 (g 2).toNat p : Nat) : Int)) → post' J1) : v_X9_findMixed J 80 e h post' := by
  have hn := gRun_le hv
  have h2 := hv.2.2.1
  have h3 := hv.2.2.2.1
  have hV := gRun_TV hv
  have hlt : ∀ n f, n ≤ (gRun g).1 → hdF n (gRun g).2 f < 2 ^ 6 := fun n f hnn => hd_lt (g := g) (by omega) (fun k hk => hV k (by omega))
  unfold v_X9_findMixed
  refine p_fill (by decide) (p_fill (by decide) ?_)
  have f0 : ∀ c, c ≠ 82 → c ≠ 83 → fillZ (fillZ J (80 + 3) 6 0) (80 + 2) 6 0 c = J c := fun c h1 h2 => by rw [fillZ_n h1, fillZ_n h2]
  have z2 : ∀ p : Nat, p < 6 → fillZ (fillZ J (80 + 3) 6 0) (80 + 2) 6 0 82 p = 0 := fun p hp => fillZ_s hp
  have z3 : ∀ f : Nat, f < 6 → fillZ (fillZ J (80 + 3) 6 0) (80 + 2) 6 0 83 f = 0 := fun f hf => by rw [fillZ_n (by decide)]; exact fillZ_s hf
  generalize fillZ (fillZ J (80 + 3) 6 0) (80 + 2) 6 0 = J0 at f0 z2 z3
  unfold v_X9_findMixed_18
  intro ZZ hZ
  refine lpN (S := fun k => ∀ J1, (∀ c, c ≠ 83 → J1 c = J0 c) → (∀ f : Nat, (f : Int) < g 2 → J1 83 f = ((hdF k (gRun g).2 f : Nat) : Int)) → ZZ J1 (k : Int)) (N := (gRun g).1) (fun k hk ih J1 fr hd => hZ _ _ ?_) (fun J1 fr hd => hZ _ _ ?_) J0 (fun _ _ => rfl) (fun f hf => z3 f (by omega))
  · rw [fr e (by omega), f0 e (by omega) (by omega), hO.1.1]
    refine ⟨fun c => by omega, fun _ => ?_⟩
    unfold v_X9_findMixed_28
    intro Z2 hZ2
    obtain ⟨t0, _, _, _, _, _, t6, _⟩ := hV k hk
    obtain ⟨w, ew⟩ : ∃ w : Nat, (gRun g).2 0 k = (w : Int) := ⟨((gRun g).2 0 k).toNat, by omega⟩
    refine lpN (S := fun f => ∀ J1, (∀ c, c ≠ 83 → J1 c = J0 c) → (∀ f' : Nat, (f' : Int) < g 2 → J1 83 f' = ((hdF (if f' < f then k + 1 else k) (gRun g).2 f' : Nat) : Int)) → Z2 J1 (k : Int) (f : Int)) (N := (g 2).toNat) (fun f hf ih2 J1 fr hd => hZ2 _ _ _ ?_) (fun J1 fr hd => hZ2 _ _ _ ?_) J1 fr (fun f hf => by rw [if_neg (by omega)]; exact hd f hf)
    · have hr1 : HR J1 h g := HR_frame (fun q hq => by rw [fr _ (by omega), f0 _ (by omega) (by omega)]) hr
      rw [hr1.1.2.2.1]
      simp only [Int.toNat_natCast]
      rw [show J1 (e + 7) k = (gRun g).2 6 k by rw [fr _ (by omega), f0 _ (by omega) (by omega)]; exact hO.1.2.1 6 k (by decide) hk, show J1 (e + 1) k = (gRun g).2 0 k by rw [fr _ (by omega), f0 _ (by omega) (by omega)]; exact hO.1.2.1 0 k (by decide) hk, ew]
      have hdf := hd f (by omega)
      rw [if_neg (by omega)] at hdf
      have es : hdF (k + 1) (gRun g).2 f = hdF k (gRun g).2 f ||| (if bt ((gRun g).2 6 k) f = true then 2 ^ ((gRun g).2 0 k).toNat else 0) := rfl
      refine ⟨fun c => by omega, fun _ => ⟨⟨by omega, by omega⟩, p_hasZ ⟨by omega, by omega⟩ (by omega) ⟨fun c => ⟨⟨by omega, by omega⟩, ?_⟩, fun c => ⟨⟨by omega, by omega⟩, ⟨by omega, by omega⟩, ⟨by omega, by omega⟩, ?_⟩⟩⟩⟩
      · rintro _ rfl
        refine ih2 J1 fr (fun f' hf' => ?_)
        rw [hd f' hf']
        by_cases e : f' = f
        · subst e
          rw [if_neg (Nat.lt_irrefl _), if_pos (Nat.lt_succ_self _), es, if_neg (by rw [c]; decide), Nat.or_zero]
        · by_cases b : f' < f
          · rw [if_pos b, if_pos (by omega)]
          · rw [if_neg b, if_neg (by omega)]
      · rintro J2 rfl
        refine ⟨⟨by omega, by omega⟩, ?_⟩
        rintro _ rfl
        refine ih2 _ (fun c hc => by rw [up2_n _ _ _ hc]; exact fr c hc) (fun f' hf' => ?_)
        show up2 J1 (80 + 3) f _ (80 + 3) f' = _
        rw [up2_s]
        by_cases e : f' = f
        · subst e
          rw [up1_s, if_pos (Nat.lt_succ_self _)]
          show orZ (J1 83 f') _ = _
          have l1 := hlt k f' (by omega)
          have l2 : 2 ^ w ≤ 2 ^ 5 := Nat.pow_le_pow_right (by decide) (by omega)
          rw [hdf, shlZ_one (by omega), orZ_nat (by omega) (by omega), es, if_pos c, ew, Int.toNat_natCast]
        · rw [up1_n _ _ e]
          show J1 83 f' = _
          rw [hd f' hf']
          by_cases b : f' < f
          · rw [if_pos b, if_pos (by omega)]
          · rw [if_neg b, if_neg (by omega)]
    · have hr1 : HR J1 h g := HR_frame (fun q hq => by rw [fr _ (by omega), f0 _ (by omega) (by omega)]) hr
      rw [hr1.1.2.2.1]
      refine ⟨fun _ => ⟨⟨by omega, by omega⟩, ?_⟩, fun c => by omega⟩
      rintro _ rfl
      exact ih J1 fr (fun f hf => by have := hd f hf; rw [if_pos (by omega)] at this; exact this)
  · rw [fr e (by omega), f0 e (by omega) (by omega), hO.1.1]
    refine ⟨fun _ => ?_, fun c => absurd (Int.le_refl _) c⟩
    have hl := fun f => hlt (gRun g).1 f (Nat.le_refl _)
    have ml : ∀ p F, orF (fun f => if (hdF (gRun g).1 (gRun g).2 f).testBit p = true then hdF (gRun g).1 (gRun g).2 f else 0) F < 2 ^ 6 := fun p F => orF_lt (b := 6) F (fun f _ => by
      have := hl f
      show (if _ then _ else _) < _
      split
      · exact this
      · decide)
    unfold v_X9_findMixed_83
    intro Z2 hZ2
    refine lpN (S := fun p => ∀ J2, (∀ c, c ≠ 82 → J2 c = J1 c) → (∀ p' : Nat, p' < 6 → J2 82 p' = if p' < p then ((mixF (gRun g).1 (gRun g).2 (g 2).toNat p' : Nat) : Int) else 0) → Z2 J2 (p : Int)) (N := (g 3).toNat) (fun p hp ih2 J2 fr2 hm => hZ2 _ _ ?_) (fun J2 fr2 hm => hZ2 _ _ ?_) J1 (fun _ _ => rfl) (fun p' hp' => by rw [if_neg (by omega), fr 82 (by decide)]; exact z2 p' hp')
    · have hr2 : ∀ J3 : mJ, (∀ c, c ≠ 82 → J3 c = J1 c) → HR J3 h g := fun J3 f3 => HR_frame (fun q hq => by rw [f3 _ (by omega), fr _ (by omega), f0 _ (by omega) (by omega)]) hr
      rw [(hr2 J2 fr2).1.2.2.2.1]
      refine ⟨fun c => by omega, fun _ => ?_⟩
      unfold v_X9_findMixed_96
      intro Z3 hZ3
      refine lpN (S := fun f => ∀ J3, (∀ c, c ≠ 82 → J3 c = J1 c) → (∀ p' : Nat, p' < 6 → J3 82 p' = if p' < p then ((mixF (gRun g).1 (gRun g).2 (g 2).toNat p' : Nat) : Int) else if p' = p then ((orF (fun f => if (hdF (gRun g).1 (gRun g).2 f).testBit p = true then hdF (gRun g).1 (gRun g).2 f else 0) f : Nat) : Int) else 0) → Z3 J3 (p : Int) (f : Int)) (N := (g 2).toNat) (fun f hf ih3 J3 fr3 hm3 => hZ3 _ _ _ ?_) (fun J3 fr3 hm3 => hZ3 _ _ _ ?_) J2 fr2 (fun p' hp' => ?_)
      · rw [(hr2 J3 fr3).1.2.2.1]
        simp only [Int.toNat_natCast]
        have e83 : J3 (80 + 3) f = ((hdF (gRun g).1 (gRun g).2 f : Nat) : Int) := by rw [fr3 (80 + 3) (by decide)]; exact hd f (by omega)
        rw [e83]
        have l1 := hl f
        have ep := hm3 p (by omega)
        rw [if_neg (Nat.lt_irrefl _), if_pos rfl] at ep
        refine ⟨fun c => by omega, fun _ => ⟨⟨by omega, by omega⟩, p_X11_has (by omega) (by omega) ⟨fun c => ⟨⟨by omega, by omega⟩, ?_⟩, fun c => ⟨⟨by omega, by omega⟩, ⟨by omega, by omega⟩, ⟨by omega, by omega⟩, ?_⟩⟩⟩⟩
        · rintro _ rfl
          refine ih3 J3 fr3 (fun p' hp' => ?_)
          rw [hm3 p' hp', orF, if_neg (c := (hdF (gRun g).1 (gRun g).2 f).testBit p = true) (by rw [c]; decide), Nat.or_zero]
        · rintro J4 rfl
          refine ⟨⟨by omega, by omega⟩, ?_⟩
          rintro _ rfl
          refine ih3 _ (fun c hc => by rw [up2_n _ _ _ hc]; exact fr3 c hc) (fun p' hp' => ?_)
          show up2 J3 (80 + 2) p _ (80 + 2) p' = _
          rw [up2_s]
          by_cases e : p' = p
          · subst e
            rw [up1_s, if_neg (Nat.lt_irrefl _), if_pos rfl]
            show orZ (J3 82 p') _ = _
            have l2 := ml p' f
            rw [ep, orZ_nat (by omega) (by omega), orF, if_pos c]
          · rw [up1_n _ _ e]
            show J3 82 p' = _
            rw [hm3 p' hp', if_neg e, if_neg e]
      · rw [(hr2 J3 fr3).1.2.2.1]
        refine ⟨fun _ => ⟨⟨by omega, by omega⟩, ?_⟩, fun c => by omega⟩
        rintro _ rfl
        refine ih2 J3 fr3 (fun p' hp' => ?_)
        rw [hm3 p' hp']
        by_cases e : p' = p
        · subst e
          rw [if_neg (Nat.lt_irrefl _), if_pos rfl, if_pos (Nat.lt_succ_self _)]; rfl
        · by_cases b : p' < p
          · rw [if_pos b, if_pos (by omega)]
          · rw [if_neg b, if_neg e, if_neg (by omega)]
      · rw [hm p' hp']
        by_cases b : p' < p
        · rw [if_pos b, if_pos b]
        · rw [if_neg b, if_neg b]
          by_cases e : p' = p
          · rw [if_pos e]; rfl
          · rw [if_neg e]
    · have hr2 : HR J2 h g := HR_frame (fun q hq => by rw [fr2 _ (by omega), fr _ (by omega), f0 _ (by omega) (by omega)]) hr
      rw [hr2.1.2.2.2.1]
      refine ⟨fun _ => hq J2 (fun c hc => by rw [fr2 c (by omega), fr c (by omega), f0 c (by omega) (by omega)]) (fun p hp => ?_), fun c => by omega⟩
      rw [hm p (by omega), if_pos (by omega)]
/-- dressed one by one: the class's recursion, at the machine's own ints -/
theorem p_isFree {J : mJ} {p : Nat} {mx : Nat → Nat → Bool} {w : Nat → Nat} {M : Nat} (hp : p < 6) (hM : J 82 p = (M : Int)) (hl : M < 64) (hmx : ∀ q, q < p → M.testBit q = mx p q) (hw : ∀ i, i ≤ p → J 81 i = (w i : Int)) {post' : Bool → Prop} (hq : post' (! anyF (fun b => decide (w p = w b) && mx p b) p)) : v_X9_isFree J 82 6 81 6 (p : Int) post' := by
  unfold v_X9_isFree v_X9_isFree_2
  intro ZZ hZ
  refine lpN (S := fun q => anyF (fun b => decide (w p = w b) && mx p b) q = false → ZZ (q : Int)) (N := p) (fun q hqp ih ha => hZ _ ?_) (fun ha => hZ _ ⟨fun _ => by rw [ha] at hq; exact hq, fun c => absurd (Int.le_refl _) c⟩) rfl
  simp only [Int.toNat_natCast]
  rw [hM, hw q (by omega), hw p (Nat.le_refl _)]
  have nf : (decide (w p = w q) && mx p q) = false → ∀ y, y = (q : Int) + 1 → ZZ y := by
    intro hf
    rintro _ rfl
    exact ih (by rw [anyF, ha, hf]; rfl)
  refine ⟨fun c => by omega, fun _ => ⟨⟨by omega, by omega⟩, p_X11_has (by omega) (by omega) ⟨fun c => ⟨⟨by omega, by omega⟩, nf ?_⟩, fun c => ⟨⟨by omega, by omega⟩, ⟨by omega, by omega⟩, fun c2 => ⟨⟨by omega, by omega⟩, nf ?_⟩, fun c2 => ?_⟩⟩⟩⟩
  · rw [← hmx q hqp, c, Bool.and_false]
  · rw [decide_eq_false (by omega), Bool.false_and]
  · rw [(anyF_iff (P := fun b => decide (w p = w b) && mx p b) p).mpr ⟨q, hqp, by rw [decide_eq_true (by omega), ← hmx q hqp, c]; rfl⟩] at hq; exact hq
theorem nat_zi (n : Nat) (h : n < 1000) : ir (n : Int) := ⟨by omega, by omega⟩
theorem w_giveOut {mx : Nat → Nat → Bool} {M : Nat → Nat} {S P : Nat} (hP : P ≤ 6) (hS : S ≤ 6) (hl : ∀ p, p < P → M p < 64) (hmx : ∀ p q, p < P → q < p → (M p).testBit q = mx p q) : ∀ (d p c0 : Nat) (J : mJ), P - p < d → p ≤ P → irm J → (∀ i, i < P → J 82 i = (M i : Int)) → (∀ i, i < p → J 81 i = (digN p c0 i : Int)) → (∀ i, i < p → okD mx S (digN p c0) i = true) → ∀ post : Bool → mI → Prop, (∀ J1 c, irm J1 → (∀ x, x ≠ 81 → J1 x = J x) → isFs (vdB mx S P) (c0 * 6 ^ (P - p)) (6 ^ (P - p)) c → (∀ i, i < P → J1 81 i = (digN P c i : Int)) → post true (zz J1)) → (∀ J1, irm J1 → (∀ x, x ≠ 81 → J1 x = J x) → (∀ i, i < p → J1 81 i = J 81 i) → isNo (vdB mx S P) (c0 * 6 ^ (P - p)) (6 ^ (P - p)) → post false (zz J1)) → w_X9_giveOut d (zz J) 82 6 81 6 (zi (S : Int)) (zi (P : Int)) (zi (p : Int)) post
  | 0, p, c0, J, hd, _, _, _, _, _, _, _, _ => absurd hd (Nat.not_lt_zero _)
  | d + 1, p, c0, J, hd, hp, hJ, hM, hw, hok, post, hT, hF => by
    show w_X9_giveOut_b (w_X9_giveOut d) (zz J) 82 6 81 6 (zi (S : Int)) (zi (P : Int)) (zi (p : Int)) post
    unfold w_X9_giveOut_b
    have iP : ir (P : Int) := ⟨by omega, by omega⟩
    have ip : ir (p : Int) := ⟨by omega, by omega⟩
    have iS : ir (S : Int) := ⟨by omega, by omega⟩
    rw [zle (x := zi (P : Int)) (y := zi (p : Int)) rfl rfl iP ip, zlt (x := zi (p : Int)) (y := Int32.ofNat 6) (b := 6) rfl rfl ip ⟨by omega, by omega⟩]
    refine ⟨fun c => ?_, fun c => ⟨fun _ => ?_, fun c2 => by omega⟩⟩
    · have ep : p = P := by omega
      subst ep
      refine hT J c0 hJ (fun _ _ => rfl) ?_ hw
      rw [Nat.sub_self, Nat.pow_zero, Nat.mul_one]
      exact ⟨Nat.le_refl _, by omega, vdB_iff.mpr hok, fun i h1 h2 => by omega⟩
    · have hpP : p < P := by omega
      unfold w_X9_giveOut_18
      intro ZZ hZ
      have hD : 6 ^ (P - p) = 6 * 6 ^ (P - p - 1) := by rw [show P - p = (P - p - 1) + 1 by omega, Nat.pow_succ, Nat.add_sub_cancel]; omega
      generalize hE : 6 ^ (P - p - 1) = E at hD
      have hEp : 0 < E := by rw [← hE]; exact Nat.pow_pos (by decide)
      -- codes of one child
      have child : ∀ s c, c0 * 6 ^ (P - p) + s * E ≤ c → c < c0 * 6 ^ (P - p) + s * E + E → c / 6 ^ (P - (p + 1)) = c0 * 6 + s := by
        intro s c h1 h2
        rw [show P - (p + 1) = P - p - 1 by omega, hE]
        rw [hD] at h1 h2
        have e1 : c0 * (6 * E) + s * E = (c0 * 6 + s) * E := by rw [Nat.add_mul, Nat.mul_assoc]
        rw [e1] at h1 h2
        apply Nat.div_eq_of_lt_le h1
        rw [Nat.succ_mul]; exact h2
      refine lpN (S := fun s => ∀ J1, irm J1 → (∀ x, x ≠ 81 → J1 x = J x) → (∀ i, i < p → J1 81 i = J 81 i) → isNo (vdB mx S P) (c0 * 6 ^ (P - p)) (s * E) → ZZ (zz J1) (zi (s : Int))) (N := S) (fun s hs ih J1 hJ1 fr pr hno => hZ _ _ ?_) (fun J1 hJ1 fr pr hno => hZ _ _ ?_) J hJ (fun _ _ => rfl) (fun _ _ => rfl) (fun i h1 h2 => by omega)
      · have is : ir (s : Int) := ⟨by omega, by omega⟩
        rw [zle (x := zi (S : Int)) (y := zi (s : Int)) rfl rfl iS is]
        refine ⟨fun c => by omega, fun _ => ⟨zvp rfl ip (by omega) (by omega), ?_⟩⟩
        rw [zcl (x := zi (p : Int)) rfl ip (by omega), Int.toNat_natCast]
        rintro I1 rfl
        rw [show up2 (zz J1) 81 p (zi (s : Int)) = zz (up2 J1 81 p (s : Int)) from zup rfl]
        have hJ2 : irm (up2 J1 81 p (s : Int)) := irm_up hJ1 is
        have fr2 : ∀ x, x ≠ 81 → up2 J1 81 p (s : Int) x = J x := fun x hx => by rw [up2_n _ _ _ hx]; exact fr x hx
        have w2 : ∀ i, i < p + 1 → up2 J1 81 p (s : Int) 81 i = (digN (p + 1) (c0 * 6 + s) i : Int) := fun i hi => by
          rw [up2_s]
          by_cases e : i = p
          · rw [e, up1_s, dig_last (by omega)]
          · rw [up1_n _ _ e, pr i (by omega), hw i (by omega), dig_up (by omega) (by omega)]
        have pr2 : ∀ i, i < p → up2 J1 81 p (s : Int) 81 i = J 81 i := fun i hi => by rw [up2_s, up1_n _ _ (by omega)]; exact pr i hi
        have m2 : ∀ i, i < P → up2 J1 81 p (s : Int) 82 i = (M i : Int) := fun i hi => by rw [fr2 82 (by decide)]; exact hM i hi
        generalize up2 J1 81 p (s : Int) = J2 at hJ2 fr2 w2 pr2 m2
        have ws : digN (p + 1) (c0 * 6 + s) p = s := dig_last (by omega)
        have none : isNo (vdB mx S P) (c0 * 6 ^ (P - p) + s * E) E → isNo (vdB mx S P) (c0 * 6 ^ (P - p)) ((s + 1) * E) := fun hn i h1 h2 => by
          rw [Nat.succ_mul] at h2
          by_cases b : i < c0 * 6 ^ (P - p) + s * E
          · exact hno i h1 b
          · exact hn i (by omega) (by omega)
        have ez : zi (s : Int) + 1 = zi ((s + 1 : Nat) : Int) := (za (x := zi (s : Int)) (y := 1) (b := 1) rfl rfl).trans (by congr 1)
        refine vw_X9_isFree (post' := fun b => b = ! anyF (fun b => decide (digN (p + 1) (c0 * 6 + s) p = digN (p + 1) (c0 * 6 + s) b) && mx p b) p) hJ2 rfl ip (fun r er => ?_) (p_isFree (by omega) (m2 p hpP) (hl p hpP) (fun q hq => hmx p q hpP hq) (fun i hi => w2 i (by omega)) rfl)
        refine ⟨fun c1 => ?_, fun c1 => ?_⟩
        · rintro _ rfl
          rw [ez]
          refine ih J2 hJ2 fr2 pr2 (none (fun i h1 h2 => ?_))
          apply Bool.eq_false_iff.mpr
          intro cv
          have cp := vdB_iff.mp cv p hpP
          have ch := child s i h1 h2
          rw [okD_cong (w' := digN (p + 1) (c0 * 6 + s)) (fun j hj => dig_pre (by omega) (by omega) ch)] at cp
          unfold okD at cp
          rw [Bool.and_eq_true] at cp
          rw [c1] at er
          rw [← er] at cp; exact Bool.noConfusion cp.2
        · have okp : ∀ i, i < p + 1 → okD mx S (digN (p + 1) (c0 * 6 + s)) i = true := fun i hi => by
            by_cases e : i = p
            · subst e
              unfold okD
              rw [← er, c1, ws, decide_eq_true hs]; rfl
            · rw [okD_cong (w' := digN p c0) (fun j hj => dig_up (by omega) (by omega))]; exact hok i (by omega)
          have ez2 : zi (p : Int) + 1 = zi ((p + 1 : Nat) : Int) := (za (x := zi (p : Int)) (y := 1) (b := 1) rfl rfl).trans (by congr 1)
          rw [ez2]
          have e2 : (c0 * 6 + s) * 6 ^ (P - (p + 1)) = c0 * 6 ^ (P - p) + s * E := by
            rw [show P - (p + 1) = P - p - 1 by omega, hE, hD, Nat.add_mul, Nat.mul_assoc]
          have e3 : 6 ^ (P - (p + 1)) = E := by rw [show P - (p + 1) = P - p - 1 by omega, hE]
          refine w_giveOut hP hS hl hmx d (p + 1) (c0 * 6 + s) J2 (by omega) (by omega) hJ2 m2 w2 okp _ (fun J3 c hJ3 f3 hc hwc => ?_) (fun J3 hJ3 f3 p3 hn => ?_)
          · rw [e2, e3] at hc
            refine ⟨fun c => Bool.noConfusion c, fun _ => hT J3 c hJ3 (fun x hx => by rw [f3 x hx]; exact fr2 x hx) ⟨?_, ?_, hc.2.2.1, fun i h1 h2 => ?_⟩ hwc⟩
            · have := hc.1; omega
            · have h1 := hc.2.1
              have : s * E + E ≤ 6 * E := by
                rw [← Nat.succ_mul]; exact Nat.mul_le_mul_right E (by omega)
              rw [hD] at h1 ⊢; omega
            · by_cases b : i < c0 * 6 ^ (P - p) + s * E
              · exact hno i h1 b
              · exact hc.2.2.2 i (by omega) h2
          · rw [e2, e3] at hn
            refine ⟨fun _ => ?_, fun c => Bool.noConfusion c⟩
            rintro _ rfl
            rw [ez]
            exact ih J3 hJ3 (fun x hx => by rw [f3 x hx]; exact fr2 x hx) (fun i hi => by rw [p3 i (by omega)]; exact pr2 i hi) (none hn)
      · rw [zle (x := zi (S : Int)) (y := zi (S : Int)) rfl rfl iS iS]
        refine ⟨fun _ => hF J1 hJ1 fr pr (fun i h1 h2 => ?_), fun c => absurd (Int.le_refl _) c⟩
        by_cases b : i < c0 * 6 ^ (P - p) + S * E
        · exact hno i h1 b
        · -- a shoe beyond those given out
          apply Bool.eq_false_iff.mpr
          intro cv
          have cp := vdB_iff.mp cv p hpP
          unfold okD at cp
          rw [Bool.and_eq_true, decide_eq_true_eq] at cp
          have ed : digN P i p = i / E % 6 := by unfold digN; rw [show P - 1 - p = P - p - 1 by omega, hE]
          rw [hD] at h1 h2 b
          have q1 : c0 * 6 + S ≤ i / E := by
            rw [Nat.le_div_iff_mul_le hEp, Nat.add_mul, Nat.mul_assoc]; omega
          have q2 : i / E < c0 * 6 + 6 := by
            rw [Nat.div_lt_iff_lt_mul hEp, Nat.add_mul, Nat.mul_assoc]; omega
          rw [ed] at cp
          omega
/-- as many shoes as people are enough -/
theorem sum_dig {P : Nat} (hP : P ≤ 6) (mx : Nat → Nat → Bool) : ∃ c, c < 6 ^ P ∧ vdB mx P P c = true := by
  have key : ∀ p, p ≤ 6 → ∃ c, c < 6 ^ p ∧ ∀ i, i < p → digN p c i = i := by
    intro p
    induction p with
    | zero => intro _; exact ⟨0, by decide, fun i hi => absurd hi (Nat.not_lt_zero _)⟩
    | succ p ih =>
      intro hp
      obtain ⟨c, h1, h2⟩ := ih (by omega)
      refine ⟨c * 6 + p, by rw [Nat.pow_succ]; omega, fun i hi => ?_⟩
      by_cases e : i = p
      · rw [e, dig_last (by omega)]
      · rw [dig_up (by omega) (by omega)]; exact h2 i (by omega)
  obtain ⟨c, h1, h2⟩ := key P hP
  refine ⟨c, h1, vdB_iff.mpr (fun a ha => ?_)⟩
  unfold okD
  rw [h2 a ha, decide_eq_true ha, Bool.true_and, Bool.not_eq_true', anyF_false]
  intro b hb
  rw [h2 b (by omega), decide_eq_false (by omega), Bool.false_and]
/-- the fewest shoes, and the first way to give them out -/
def isAp (mx : Nat → Nat → Bool) (P S c : Nat) : Prop := 1 ≤ S ∧ S ≤ P ∧ isFs (vdB mx S P) 0 (6 ^ P) c ∧ ∀ S', 1 ≤ S' → S' < S → isNo (vdB mx S' P) 0 (6 ^ P)
theorem ap_ex {P : Nat} (hP : P ≤ 6) (h1 : 1 ≤ P) (mx : Nat → Nat → Bool) : ∃ S c, isAp mx P S c := by
  have key : ∀ d S, S + d = P → 1 ≤ S → (∀ S', 1 ≤ S' → S' < S → isNo (vdB mx S' P) 0 (6 ^ P)) → ∃ S c, isAp mx P S c := by
    intro d
    induction d with
    | zero =>
      intro S e hs hno
      have e : S = P := by omega
      subst e
      rcases fst_cases (vdB mx S S) 0 (6 ^ S) with h | ⟨c, h⟩
      · obtain ⟨c, hc, hb⟩ := sum_dig hP mx
        rw [h c (Nat.zero_le _) (by omega)] at hb; exact Bool.noConfusion hb
      · exact ⟨S, c, hs, Nat.le_refl _, h, hno⟩
    | succ d ih =>
      intro S e hs hno
      rcases fst_cases (vdB mx S P) 0 (6 ^ P) with h | ⟨c, h⟩
      · refine ih (S + 1) (by omega) (by omega) (fun S' g1 g2 => ?_)
        by_cases e2 : S' = S
        · rw [e2]; exact h
        · exact hno S' g1 (by omega)
      · exact ⟨S, c, hs, by omega, h, hno⟩
  exact key (P - 1) 1 (by omega) (Nat.le_refl _) (fun S' g1 g2 => by omega)
