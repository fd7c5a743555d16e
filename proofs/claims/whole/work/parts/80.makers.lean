/-! makers -/
theorem mLoud_plain {u g : Nat → Int} (h : UP u) : mLoud u g = gLoud g := congrArg (fun q : Qs => q.2.1) (mQ_plain (g := g) h.1 h.2.2.2.1 h.2.2.2.2.1)
theorem mEars_plain {u g : Nat → Int} (h : UP u) : mEars u g = gEars g := congrArg (fun q : Qs => q.2.2) (mQ_plain (g := g) h.1 h.2.2.2.1 h.2.2.2.2.1)
theorem mShoe_plain {u g : Nat → Int} (h : UP u) : (mQ u g).1 = gShoe g := congrArg (fun q : Qs => q.1) (mQ_plain (g := g) h.1 h.2.2.2.1 h.2.2.2.2.1)
theorem mFlat_plain {u g : Nat → Int} (h : UP u) (f : Nat) : mFlat u g f = g (29 + 2 * f) := by
  unfold mFlat; rw [h.2.2.2.2.1, if_neg (by omega)]
/-- flat f hears one of the shoe w on step s, half as loud -/
def eP (g : Nat → Int) (f s : Nat) (w : Int) (p : Nat) : Bool := decide (g (41 + 14 * p) = w) && gHear (g (29 + 2 * f)) (g (30 + 2 * f)) (s : Int) (gLoud g p s w / 2)
def eFit (g : Nat → Int) (f s : Nat) (w : Int) : Bool := decide (w = -1) || anyF (eP g f s w) (g 3).toNat
def spP (g r : Nat → Int) (k p f s : Nat) : Bool := gHear (g (29 + 2 * f)) (g (30 + 2 * f)) (s : Int) (gLoud g p s (r (3 + 4 * k))) && eFit g f s (r (4 + 4 * k))
def stepsF (g r : Nat → Int) (k p : Nat) : Nat := if r (1 + 4 * k) < g 2 ∧ gShoe g p (r (2 + 4 * k)) = r (3 + 4 * k) then earsF (spP g r k p (r (1 + 4 * k)).toNat) (g 0).toNat else 0
def makersF (g r : Nat → Int) (k : Nat) : Nat := earsF (fun p => decide (stepsF g r k p ≠ 0)) (g 3).toNat
def liesF (g r : Nat → Int) : Nat := earsF (fun k => decide (makersF g r k = 0)) (r 0).toNat
theorem x_echoFits {J : mJ} {h : Nat} {g : Nat → Int} (hv : HV g) (hr : HR J h g) {f s : Nat} (hf : (f : Int) < g 2) (hs : s < 24) {w : Int} (hw : -1 ≤ w ∧ w ≤ 9) {post' : Bool → Prop} (hq : post' (eFit g f s w)) : v_X10_echoFits J h (f : Int) (s : Int) w post' := by
  unfold eFit at hq
  have h3 := hv.2.2.2.1
  refine ⟨fun c => ?_, fun c => ?_⟩
  · rw [decide_eq_false c, Bool.false_or] at hq
    unfold v_X10_echoFits_10
    intro ZZ hZ
    refine lpN (S := fun p => anyF (eP g f s w) p = false → ZZ (p : Int)) (N := (g 3).toNat) (fun p hp ih ha => hZ _ ?_) (fun ha => hZ _ ?_) rfl
    · rw [hr.1.2.2.2.1]
      simp only [Int.toNat_natCast]
      obtain ⟨r4, _⟩ := hr.2.2.2.1 p (by omega)
      rw [r4]
      have nx : eP g f s w p = false → ∀ y, y = (p : Int) + 1 → ZZ y := by
        intro hf
        rintro _ rfl
        exact ih (by rw [anyF, ha, hf]; rfl)
      have lr := gLoud_rng hv (p := p) (s := s) (w := w) (by omega) hs (by omega)
      refine ⟨fun c => by omega, fun _ => ⟨⟨by omega, by omega⟩, fun c2 => ⟨⟨by omega, by omega⟩, nx ?_⟩, fun c2 => x_loudOf hv hr (by omega) hs (by omega) ?_⟩⟩
      · unfold eP; rw [decide_eq_false c2, Bool.false_and]
      · rw [divZ_two (by omega)]
        refine x_hears hv hr hf ⟨by omega, by omega⟩ ⟨by omega, by omega⟩ ⟨fun c3 => ⟨⟨by omega, by omega⟩, nx ?_⟩, fun c3 => ?_⟩
        · unfold eP; rw [c3, Bool.and_false]
        · rw [(anyF_iff _).mpr ⟨p, hp, by unfold eP; rw [decide_eq_true c2, c3]; rfl⟩] at hq; exact hq
    · rw [hr.1.2.2.2.1]
      rw [ha] at hq
      exact ⟨fun _ => hq, fun c => by omega⟩
  · rw [decide_eq_true c, Bool.true_or] at hq; exact hq
theorem x_stepsOf {J : mJ} {h o : Nat} {g r : Nat → Int} (hv : HV g) (hr : HR J h g) (rv : RdV r) (rr : RdR J o r) {k p : Nat} (hk : (k : Int) < r 0) (hp : (p : Int) < g 3) {post' : Int → Prop} (hq : post' ((stepsF g r k p : Nat) : Int)) : v_X10_stepsOf J h o (k : Int) (p : Int) post' := by
  have h3 := hv.2.2.2.1
  have h0 := hv.1
  have hr0 := rv.1
  obtain ⟨v1, v2, v3, v4⟩ := rv.2 k hk
  obtain ⟨q1, q2, q3, q4⟩ := rr.2 k hk
  unfold v_X10_stepsOf
  simp only [Int.toNat_natCast]
  rw [q1, q2, q3]
  refine ⟨⟨by omega, by omega⟩, ?_⟩
  rintro _ rfl
  unfold stepsF at hq
  refine x_hasF hv hr (fun c => ⟨fun _ => ?_, fun c2 => Bool.noConfusion c2⟩) (fun f ef hf hf6 => ⟨fun c2 => Bool.noConfusion c2, fun _ => ⟨⟨by omega, by omega⟩, x_shoeAt hv hr hp ⟨⟨by omega, by omega⟩, fun c => ?_, fun c => ?_⟩⟩⟩)
  · rw [if_neg (by omega)] at hq; exact hq
  · rw [if_pos ⟨by omega, c⟩, ef, Int.toNat_natCast] at hq
    rw [ef]
    unfold v_X10_stepsOf_45
    intro ZZ hZ
    refine lpN (S := fun s => ZZ (f : Int) ((earsF (spP g r k p f) s : Nat) : Int) (s : Int)) (N := (g 0).toNat) (fun s hs ih => hZ _ _ _ ?_) (hZ _ _ _ ?_)
    · rw [hr.1.1]
      simp only [Int.toNat_natCast]
      rw [q3, q4]
      have lr := gLoud_rng hv (p := p) (s := s) (w := r (3 + 4 * k)) hp (by omega) v3
      have nx : ¬ spP g r k p f s = true → ∀ y, y = (s : Int) + 1 → ZZ (f : Int) ((earsF (spP g r k p f) s : Nat) : Int) y := by
        intro hb
        rintro _ rfl
        rw [ears_f hb]; exact ih
      refine ⟨fun c => by omega, fun _ => ⟨⟨by omega, by omega⟩, x_loudOf hv hr hp (by omega) v3 (x_hears hv hr hf ⟨by omega, by omega⟩ lr ⟨fun c2 => ⟨⟨by omega, by omega⟩, nx ?_⟩, fun c2 => ⟨⟨by omega, by omega⟩, x_echoFits hv hr hf (by omega) v4 ⟨fun c3 => ⟨⟨by omega, by omega⟩, nx ?_⟩, fun c3 => ?_⟩⟩⟩)⟩⟩
      · unfold spP; rw [c2, Bool.false_and]; decide
      · unfold spP; rw [c3, Bool.and_false]; decide
      · rintro _ rfl
        refine ⟨⟨by omega, by omega⟩, ?_⟩
        rintro _ rfl
        rw [ears_t (by omega) (by unfold spP; rw [c2, c3]; rfl)]; exact ih
    · rw [hr.1.1]; exact ⟨fun _ => hq, fun c => by omega⟩
  · rw [if_neg (fun c2 => c c2.2)] at hq; exact hq
theorem x_makersOf {J : mJ} {h o : Nat} {g r : Nat → Int} (hv : HV g) (hr : HR J h g) (rv : RdV r) (rr : RdR J o r) {k : Nat} (hk : (k : Int) < r 0) {post' : Int → Prop} (hq : post' ((makersF g r k : Nat) : Int)) : v_X10_makersOf J h o (k : Int) post' := by
  have h3 := hv.2.2.2.1
  unfold v_X10_makersOf v_X10_makersOf_5
  intro ZZ hZ
  refine lpN (S := fun p => ZZ ((earsF (fun p => decide (stepsF g r k p ≠ 0)) p : Nat) : Int) (p : Int)) (N := (g 3).toNat) (fun p hp ih => hZ _ _ ?_) (hZ _ _ ?_)
  · rw [hr.1.2.2.2.1]
    refine ⟨fun c => by omega, fun _ => x_stepsOf hv hr rv rr hk (by omega) ⟨fun c => ⟨⟨by omega, by omega⟩, ?_⟩, fun c => ?_⟩⟩
    · rintro _ rfl
      rw [ears_f (P := fun p => decide (stepsF g r k p ≠ 0)) (by rw [decide_eq_true_eq]; omega)]; exact ih
    · rintro _ rfl
      refine ⟨⟨by omega, by omega⟩, ?_⟩
      rintro _ rfl
      rw [ears_t (P := fun p => decide (stepsF g r k p ≠ 0)) (by omega) (by rw [decide_eq_true_eq]; omega)]; exact ih
  · rw [hr.1.2.2.2.1]; exact ⟨fun _ => hq, fun c => by omega⟩
theorem x_liesOf {J : mJ} {h o : Nat} {g r : Nat → Int} (hv : HV g) (hr : HR J h g) (rv : RdV r) (rr : RdR J o r) {post' : Int → Prop} (hq : post' ((liesF g r : Nat) : Int)) : v_X10_liesOf J h o post' := by
  have h3 := rv.1
  unfold v_X10_liesOf v_X10_liesOf_4
  intro ZZ hZ
  refine lpN (S := fun k => ZZ ((earsF (fun k => decide (makersF g r k = 0)) k : Nat) : Int) (k : Int)) (N := (r 0).toNat) (fun k hk ih => hZ _ _ ?_) (hZ _ _ ?_)
  · rw [rr.1]
    refine ⟨fun c => by omega, fun _ => x_makersOf hv hr rv rr (by omega) ⟨fun c => ⟨⟨by omega, by omega⟩, ?_⟩, fun c => ?_⟩⟩
    · rintro _ rfl
      rw [ears_f (P := fun k => decide (makersF g r k = 0)) (by rw [decide_eq_true_eq]; omega)]; exact ih
    · rintro _ rfl
      refine ⟨⟨by omega, by omega⟩, ?_⟩
      rintro _ rfl
      rw [ears_t (P := fun k => decide (makersF g r k = 0)) (by omega) (by rw [decide_eq_true_eq]; omega)]; exact ih
  · rw [rr.1]; exact ⟨fun _ => hq, fun c => by omega⟩
def aMakers (A : Nat → Int) (a1 a2 a3 : Int) : Int := if (0 ≤ a1 ∧ a1 < A 0) ∧ (0 ≤ a2 ∧ a2 < A 1) ∧ -1 ≤ a3 ∧ a3 < rH A a2.toNat 0 then (if a3 = -1 then ((liesF (gH A a1.toNat) (rH A a2.toNat) : Nat) : Int) else ((makersF (gH A a1.toNat) (rH A a2.toNat) a3.toNat : Nat) : Int)) else -2
theorem x_hasSound {J : mJ} {o : Nat} {r : Nat → Int} (rr : RdR J o r) {a : Int} {post' : Bool → Prop} (h0 : ¬ (0 ≤ a ∧ a < r 0) → post' false) (h1 : 0 ≤ a ∧ a < r 0 → post' true) : v_X6_hasSound J o a post' := by
  unfold v_X6_hasSound
  rw [rr.1]
  exact ⟨fun c => h0 (by omega), fun c => ⟨fun c2 => h0 (by omega), fun c2 => h1 (by omega)⟩⟩
theorem x_makers {J : mJ} {a1 a2 a3 : Int} (hI : TI J 1 (J 129)) {post' : Int → Prop} (hq : post' (aMakers (J 129) a1 a2 a3)) : v_X11_makers J a1 a2 a3 post' := by
  unfold v_X11_makers
  refine x_houseAt hI (fun c => ⟨fun _ => x_readingAt hI (fun c2 => ⟨fun _ => lf1 hq ?_, fun q c2 => (by cases c2)⟩) (fun l el hl hl2 rv rr => ⟨fun c2 => (by cases c2), fun q _ => lf1 hq ?_⟩), fun q c2 => (by cases c2)⟩) (fun k ek hk hk2 hv hr => ⟨fun c2 => (by cases c2), fun q eq => ?_⟩)
  · unfold aMakers; rw [if_neg (fun c3 => c c3.1)]
  · unfold aMakers; rw [if_neg (fun c3 => c c3.1)]
  · cases eq
    refine x_readingAt hI (fun c => ⟨fun _ => lf1 hq ?_, fun q c2 => (by cases c2)⟩) (fun l el hl hl2 rv rr => ⟨fun c2 => (by cases c2), fun q eq => ?_⟩)
    · unfold aMakers; rw [if_neg (fun c3 => c c3.2.1)]
    · cases eq
      subst ek; subst el
      unfold aMakers at hq
      rw [Int.toNat_natCast, Int.toNat_natCast] at hq
      generalize gH (J 129) k = g at hv hr hq
      generalize rH (J 129) l = r at rv rr hq
      have v0 := rv.1
      have go : -1 ≤ a3 ∧ a3 < r 0 → v_X11_makers_41 J (k : Int) (l : Int) a3 post' (19 + 19 * l) (5 + 19 * k) := by
        intro ca
        rw [if_pos ⟨⟨by omega, hk⟩, ⟨by omega, hl⟩, ca⟩] at hq
        refine ⟨fun c => ?_, fun c => ?_⟩
        · rw [if_neg c] at hq
          obtain ⟨i, rfl⟩ : ∃ i : Nat, a3 = (i : Int) := ⟨a3.toNat, by omega⟩
          exact x_makersOf hv hr rv rr ca.2 hq
        · rw [if_pos c] at hq; exact x_liesOf hv hr rv rr hq
      refine ⟨fun c => go (by omega), fun c => x_hasSound rr (fun c2 => ⟨fun c2 => Bool.noConfusion c2, fun _ => ?_⟩) (fun c2 => ⟨fun _ => go (by omega), fun c2 => Bool.noConfusion c2⟩)⟩
      rw [if_neg (by omega)] at hq; exact hq
/-- the reference -/
theorem MH_up {J : mJ} {b : Nat} {g u : Nat → Int} {i : Nat} {v : Int} (hi : i < 12 ∨ 24 < i) (h : MH J b g u) : MH (up2 J 128 i v) b g u :=
  MH_frame (up2_n _ _ _ (by decide)) (fun k h1 h2 _ => by rw [up2_s, up1_n _ _ (by omega)]) h
theorem n_areRead {J : mJ} {a1 a2 : Int} {t : Nat} (hI : TI J t (J 129)) (hU : UV (J 128)) {post' : Bool → mJ → Prop} (h0 : ¬ ((0 ≤ a1 ∧ a1 < J 129 0) ∧ (0 ≤ a2 ∧ a2 < J 129 1)) → ∀ J1, MF J J1 → post' false J1) (h1 : ∀ (k l : Nat) (J1 : mJ), a1 = (k : Int) → a2 = (l : Int) → (k : Int) < J 129 0 → (l : Int) < J 129 1 → MH J1 (610 + 149 * k) (gH (J 129) k) (J1 128) → UP (J1 128) → MS J1 (908 + 41 * l) (rH (J 129) l) → (∀ c, c ≠ 128 → J1 c = J c) → post' true J1) : v_X12_areRead J 128 a1 a2 post' := by
  unfold v_X12_areRead
  refine n_isHouse hI hU (fun c => ⟨fun _ => h0 (fun c2 => c c2.1) J (MF_refl hU), fun c2 => Bool.noConfusion c2⟩) (fun k J1 ek hk hk2 hM hp f1 f2 => ⟨fun c2 => Bool.noConfusion c2, fun _ => ?_⟩)
  have e129 := f1 129 (by decide)
  have h3 := hI.2.2.1
  refine n_isOf1 (by rw [e129]; exact h3) ?_
  rw [e129]
  by_cases hc : 0 ≤ a2 ∧ a2 < J 129 1
  · rw [decide_eq_true hc]
    refine ⟨fun _ => ⟨fun _ => ⟨⟨by omega, by omega⟩, ⟨by omega, by omega⟩, ?_⟩, fun c => absurd c (by decide)⟩, fun c2 => Bool.noConfusion c2⟩
    rintro J5 rfl
    obtain ⟨l, rfl⟩ : ∃ l : Nat, a2 = (l : Int) := ⟨a2.toNat, by omega⟩
    have e128 : ∀ i, i ≠ 44 → up2 J1 128 44 (908 + 41 * (l : Int)) 128 i = J1 128 i := fun i hi => by rw [up2_s, up1_n _ _ hi]
    refine h1 k l _ ek rfl hk hc.2 ?_ ?_ ⟨by rw [up2_s, up1_s]; omega, by omega, fun j => ?_, (hI.2.2.2.2.2.2 l (by omega)).1⟩ (fun c hc => by rw [up2_n _ _ _ hc]; exact f1 c hc)
    · obtain ⟨m1, m2, m3, m4, m5, m6⟩ := MH_up (i := 44) (v := 908 + 41 * (l : Int)) (by omega) hM
      exact ⟨m1, m2, m3, m4, UV_up m5 (by decide) (by decide), fun _ _ _ _ => rfl⟩
    · unfold UP; rw [e128 13 (by decide), e128 15 (by decide), e128 17 (by decide), e128 18 (by decide), e128 20 (by decide), e128 22 (by decide)]; exact hp
    · rw [up2_n _ _ _ (by decide), e129]; rfl
  · rw [decide_eq_false hc]
    exact ⟨fun c2 => Bool.noConfusion c2, fun _ => h0 (fun c2 => hc c2.2) J1 (MF_one f1 (UV_of hM))⟩
theorem n_isEcho {J : mJ} {b : Nat} {g u : Nat → Int} (h : MH J b g u) (hp : UP u) {f s : Nat} (hf : (f : Int) < g 2) (hs : s < 24) {w : Int} (hw : -1 ≤ w ∧ w ≤ 9) {post' : Bool → Prop} (hq : post' (eFit g f s w)) : v_X12_isEcho J 128 (f : Int) w (s : Int) post' := by
  have hv := h.2.2.2.1
  have h3 := hv.2.2.2.1
  have key : ∀ b0 : Bool, b0 = decide (w = -1) → v_X12_isEcho_15 J 128 (f : Int) w (s : Int) post' (bZ b0) 0 := by
    intro b0 e0
    unfold v_X12_isEcho_15
    intro ZZ hZ
    have k0 := lpN (S := fun p => ZZ (bZ (b0 || anyF (eP g f s w) p)) (p : Int)) (N := (g 3).toNat) (fun p hpp ih => hZ _ _ (n_people h ?_)) (hZ _ _ (n_people h ⟨fun _ => ⟨_, rfl, by rw [e0]; exact hq⟩, fun c => by omega⟩))
    · rw [anyF, Bool.or_false] at k0; exact k0
    · rw [anyF] at ih
      refine ⟨fun c => by omega, fun _ => ⟨fun c => ⟨⟨by omega, by omega⟩, ?_⟩, fun c => n_told h p 0 (41 + 14 * p) rfl rfl ⟨by omega, by omega⟩ (by omega) ?_⟩⟩
      · rintro _ rfl
        have : (b0 || anyF (eP g f s w) p) = true := by
          revert c; cases (b0 || anyF (eP g f s w) p)
          · intro c; exact absurd rfl c
          · intro _; rfl
        rw [← Bool.or_assoc, this] at ih; exact ih
      · have hz : (b0 || anyF (eP g f s w) p) = false := by
          revert c; cases (b0 || anyF (eP g f s w) p)
          · intro _; rfl
          · intro c; exact absurd c (by decide)
        have hw1 : w ≠ -1 := by
          intro c2; rw [e0, decide_eq_true c2, Bool.true_or] at hz; exact Bool.noConfusion hz
        rw [← Bool.or_assoc, hz, Bool.false_or] at ih
        have lr := gLoud_rng hv (p := p) (s := s) (w := w) (by omega) hs (by omega)
        refine ⟨fun c2 => ⟨⟨by omega, by omega⟩, ?_⟩, fun c2 => n_loudBy h (by omega) hs (by omega) ?_⟩
        · rintro _ rfl
          unfold eP at ih; rw [decide_eq_false c2, Bool.false_and] at ih; exact ih
        · rw [mLoud_plain hp, divZ_two (by omega)]
          refine n_isHeard h hf ⟨by omega, by omega⟩ ⟨by omega, by omega⟩ ?_
          rw [mFlat_plain hp]
          refine ⟨fun c3 => ⟨⟨by omega, by omega⟩, ?_⟩, fun c3 => ⟨⟨by omega, by omega⟩, ?_⟩⟩
          · rintro _ rfl
            unfold eP at ih; rw [c3, Bool.and_false] at ih; exact ih
          · rintro _ rfl
            unfold eP at ih; rw [c3, decide_eq_true c2] at ih; exact ih
  unfold v_X12_isEcho
  exact ⟨fun c => key false (decide_eq_false c).symm, fun c => key true (decide_eq_true c).symm⟩
theorem n_isHis {J : mJ} {b c : Nat} {g u r : Nat → Int} (h : MH J b g u) (hp : UP u) (hS : MS J c r) {k p : Nat} (hk : (k : Int) < r 0) (hp3 : (p : Int) < g 3) {post' : Bool → Prop} (hq : post' (decide (gShoe g p (r (2 + 4 * k)) = r (3 + 4 * k)))) : v_X12_isHis J 128 (p : Int) (k : Int) post' := by
  have hr0 := hS.2.2.2.1
  refine n_soundOf hS k 1 (2 + 4 * k) rfl rfl ⟨by omega, by omega⟩ (by omega) (n_shoeOf h hp3 ?_)
  rw [mShoe_plain hp]
  refine n_soundOf hS k 2 (3 + 4 * k) rfl rfl ⟨by omega, by omega⟩ (by omega) ?_
  have hq := pb hq
  exact ⟨fun c => hq.2 c, fun c => hq.1 c⟩
theorem n_madeOn {J : mJ} {b c : Nat} {g u r : Nat → Int} (h : MH J b g u) (hp : UP u) (hS : MS J c r) {k p : Nat} (hk : (k : Int) < r 0) (hp3 : (p : Int) < g 3) {post' : Int → Prop} (hq : post' ((stepsF g r k p : Nat) : Int)) : v_X12_madeOn J 128 (p : Int) (k : Int) post' := by
  have hv := h.2.2.2.1
  have h0 := hv.1
  have rv := hS.2.2.2
  have hr0 := rv.1
  obtain ⟨v1, v2, v3, v4⟩ := rv.2 k hk
  unfold stepsF at hq
  refine n_soundOf hS k 0 (1 + 4 * k) rfl rfl ⟨by omega, by omega⟩ (by omega) (n_isFlat h (fun c => ⟨fun _ => ?_, fun c2 => Bool.noConfusion c2⟩) (fun f ef hf hf6 => ⟨fun c2 => Bool.noConfusion c2, fun _ => n_isHis h hp hS hk hp3 ⟨fun c => ?_, fun c => ?_⟩⟩))
  · rw [if_neg (by omega)] at hq; exact hq
  · rw [decide_eq_true_eq] at c
    rw [if_pos ⟨by omega, c⟩, ef, Int.toNat_natCast] at hq
    rw [ef]
    unfold v_X12_madeOn_32
    intro ZZ hZ
    refine lpN (S := fun s => ZZ (f : Int) ((earsF (spP g r k p f) s : Nat) : Int) (s : Int)) (N := (g 0).toNat) (fun s hs ih => hZ _ _ _ (n_of h (j := 0) rfl (by decide) ?_)) (hZ _ _ _ (n_of h (j := 0) rfl (by decide) ⟨fun _ => hq, fun c => by omega⟩))
    have lr := gLoud_rng hv (p := p) (s := s) (w := r (3 + 4 * k)) hp3 (by omega) v3
    have nx : ¬ spP g r k p f s = true → ∀ y, y = orZ ((earsF (spP g r k p f) s : Nat) : Int) 0 → ir ((s : Int) + 1) ∧ ∀ y', y' = (s : Int) + 1 → ZZ (f : Int) y y' := by
      intro hb
      rintro _ rfl
      refine ⟨⟨by omega, by omega⟩, ?_⟩
      rintro _ rfl
      rw [ears_f0 (by omega) hb]; exact ih
    refine ⟨fun c => by omega, fun _ => n_soundOf hS k 2 (3 + 4 * k) rfl rfl ⟨by omega, by omega⟩ (by omega) (n_loudBy h hp3 (by omega) v3 ?_)⟩
    rw [mLoud_plain hp]
    refine n_isHeard h hf ⟨by omega, by omega⟩ lr ?_
    rw [mFlat_plain hp]
    refine ⟨fun c2 => nx ?_, fun c2 => n_soundOf hS k 3 (4 + 4 * k) rfl rfl ⟨by omega, by omega⟩ (by omega) (n_isEcho h hp hf (by omega) v4 ⟨fun c3 => nx ?_, fun c3 => ?_⟩)⟩
    · unfold spP; rw [c2, Bool.false_and]; decide
    · unfold spP; rw [c3, Bool.and_false]; decide
    · rintro _ rfl
      refine ⟨⟨by omega, by omega⟩, ?_⟩
      rintro _ rfl
      rw [ears_t (by omega) (by unfold spP; rw [c2, c3]; rfl)]; exact ih
  · rw [decide_eq_false_iff_not] at c
    rw [if_neg (fun c2 => c c2.2)] at hq; exact hq
theorem n_makersOf {J : mJ} {b c : Nat} {g u r : Nat → Int} (h : MH J b g u) (hp : UP u) (hS : MS J c r) {k : Nat} (hk : (k : Int) < r 0) {post' : Int → Prop} (hq : post' ((makersF g r k : Nat) : Int)) : v_X12_makersOf J 128 (k : Int) post' := by
  have h3 := h.2.2.2.1.2.2.2.1
  unfold v_X12_makersOf v_X12_makersOf_4
  intro ZZ hZ
  refine lpN (S := fun p => ZZ ((earsF (fun p => decide (stepsF g r k p ≠ 0)) p : Nat) : Int) (p : Int)) (N := (g 3).toNat) (fun p hp' ih => hZ _ _ (n_people h ?_)) (hZ _ _ (n_people h ⟨fun _ => hq, fun c => by omega⟩))
  refine ⟨fun c => by omega, fun _ => n_madeOn h hp hS hk (by omega) ⟨fun c => ?_, fun c => ?_⟩⟩
  · rintro _ rfl
    refine ⟨⟨by omega, by omega⟩, ?_⟩
    rintro _ rfl
    rw [ears_f0 (P := fun p => decide (stepsF g r k p ≠ 0)) (by omega) (by rw [decide_eq_true_eq]; omega)]; exact ih
  · rintro _ rfl
    refine ⟨⟨by omega, by omega⟩, ?_⟩
    rintro _ rfl
    rw [ears_t (P := fun p => decide (stepsF g r k p ≠ 0)) (by omega) (by rw [decide_eq_true_eq]; omega)]; exact ih
theorem m_makers {J : mJ} {a1 a2 a3 : Int} {t : Nat} (hI : TI J t (J 129)) (hU : UV (J 128)) {post' : Int → mJ → Prop} (hq : ∀ J1, MF J J1 → post' (aMakers (J 129) a1 a2 a3) J1) : v_X12_makers J 128 a1 a2 a3 post' := by
  unfold v_X12_makers
  refine n_areRead hI hU (fun c J1 hF => ⟨fun _ => lf (hq J1 hF) ?_, fun c2 => Bool.noConfusion c2⟩) (fun k l J1 ek el hk hl hM hp hS f1 => ⟨fun c2 => Bool.noConfusion c2, fun _ => ?_⟩)
  · unfold aMakers; rw [if_neg (fun c2 => c ⟨c2.1, c2.2.1⟩)]
  · have h := hq J1 (MF_one f1 (UV_of hM))
    subst ek; subst el
    unfold aMakers at h
    rw [Int.toNat_natCast, Int.toNat_natCast] at h
    generalize gH (J 129) k = g at hM h
    generalize rH (J 129) l = r at hS h
    have hr0 := hS.2.2.2.1
    refine n_sounds hS ⟨⟨by omega, by omega⟩, n_isIn (fun c => ⟨fun c2 => Bool.noConfusion c2, fun _ => ?_⟩) (fun c => ⟨fun _ => ⟨fun c2 => ?_, fun c2 => ?_⟩, fun c2 => Bool.noConfusion c2⟩)⟩
    · rw [if_neg (by omega)] at h; exact h
    · rw [if_pos ⟨⟨by omega, hk⟩, ⟨by omega, hl⟩, by omega⟩, if_pos c2] at h
      unfold v_X12_makers_43
      intro ZZ hZ
      refine lpN (S := fun i => ZZ J1 ((earsF (fun k => decide (makersF g r k = 0)) i : Nat) : Int) (i : Int)) (N := (r 0).toNat) (fun i hi ih => hZ _ _ _ (n_sounds hS ?_)) (hZ _ _ _ (n_sounds hS ⟨fun _ => h, fun c => by omega⟩))
      refine ⟨fun c => by omega, fun _ => n_makersOf hM hp hS (by omega) ⟨fun c => ?_, fun c => ?_⟩⟩
      · rintro _ rfl
        refine ⟨⟨by omega, by omega⟩, ?_⟩
        rintro _ rfl
        rw [ears_f0 (P := fun k => decide (makersF g r k = 0)) (by omega) (by rw [decide_eq_true_eq]; omega)]; exact ih
      · rintro _ rfl
        refine ⟨⟨by omega, by omega⟩, ?_⟩
        rintro _ rfl
        rw [ears_t (P := fun k => decide (makersF g r k = 0)) (by omega) (by rw [decide_eq_true_eq]; omega)]; exact ih
    · rw [if_pos ⟨⟨by omega, hk⟩, ⟨by omega, hl⟩, by omega⟩, if_neg c2] at h
      obtain ⟨i, rfl⟩ : ∃ i : Nat, a3 = (i : Int) := ⟨a3.toNat, by omega⟩
      exact n_makersOf hM hp hS (by omega) h
