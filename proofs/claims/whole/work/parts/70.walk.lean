/-! the class walks all -/
theorem fillZ_n {J : mJ} {a n c : Nat} {v : Int} (h : c ≠ a) : fillZ J a n v c = J c := by simp [fillZ, h]
theorem fillZ_s {J : mJ} {a n i : Nat} {v : Int} (h : i < n) : fillZ J a n v a i = v := by simp [fillZ, h]
theorem lisM_n {J : mJ} {a s f l c : Nat} {g : Nat → Int} (h : c ≠ a) : lisM J a g s f l c = J c := by simp [lisM, h]
def gQ (g : Nat → Int) : Qs := (gShoe g, gLoud g, gEars g)
theorem gEars_lt {g : Nat → Int} (hv : HV g) (l s : Int) : gEars g l s < 64 := by
  have h2 := hv.2.2.1
  have h := earsF_lt (fun f => gHear (g (29 + 2 * f)) (g (30 + 2 * f)) s l) (g 2).toNat
  have hp : 2 ^ (g 2).toNat ≤ 2 ^ 6 := Nat.pow_le_pow_right (by decide) (by omega)
  unfold gEars; omega
theorem gQ9 {g : Nat → Int} (hv : HV g) : QV9 g (gQ g) := ⟨fun p hp t => gShoe_rng hv hp t, fun p s hp hs w hw => gLoud_rng hv hp hs hw, fun l s => gEars_lt hv l s⟩
def gTs (g : Nat → Int) (t : Nat) : Ts := runT (goT (gGo g)) (gQ g) (g 1) (g 3).toNat t
def gRow (g : Nat → Int) (t p : Nat) : Ts := rowT (goT (gGo g)) (gQ g) (g 1) t (gTs g t) p
/-- the evening of the house g as it is told -/
def gRun (g : Nat → Int) : Ts := gTs g 100
theorem gTs_TV {g : Nat → Int} (hv : HV g) {t : Nat} (ht : t ≤ 100) : TV g (gTs g t).1 (gTs g t).2 := runT_TV hv.1.2 (gTrV hv) (gQ9 hv) (by have := hv.2.2.2.1; omega) t ht
theorem gRow_TV {g : Nat → Int} (hv : HV g) {t p : Nat} (ht : t < 100) (hp : (p : Int) ≤ g 3) : TV g (gRow g t p).1 (gRow g t p).2 := rowT_TV hv.1.2 (gTrV hv) (gQ9 hv) ht (gTs_TV hv (by omega)) p hp
theorem gTs_le {g : Nat → Int} (hv : HV g) {t : Nat} : (gTs g t).1 ≤ t * 6 := by
  have h3 := hv.2.2.2.1
  have := runT_le (tr := goT (gGo g)) (q := gQ g) (keep := g 1) (P := (g 3).toNat) t
  have h6 : t * (g 3).toNat ≤ t * 6 := Nat.mul_le_mul (Nat.le_refl _) (by omega)
  unfold gTs; omega
theorem gRun_le {g : Nat → Int} (hv : HV g) : (gRun g).1 ≤ 600 := gTs_le hv
theorem gRun_TV {g : Nat → Int} (hv : HV g) : TV g (gRun g).1 (gRun g).2 := gTs_TV hv (Nat.le_refl _)
theorem gRow_le {g : Nat → Int} (hv : HV g) {t p : Nat} : (gRow g t p).1 ≤ t * 6 + p := by
  have := gTs_le hv (t := t)
  have := rowT_le (tr := goT (gGo g)) (q := gQ g) (keep := g 1) (t := t) (r := gTs g t) p
  unfold gRow; omega
/-- the class's evening at e is that of the house g -/
def EvO (J : mJ) (e : Nat) (g : Nat → Int) : Prop := EvR J e (gRun g).1 (gRun g).2 ∧ EarT J e g ∧ (∀ p t : Nat, (p : Int) < g 3 → t < 100 → J (e + 13) (p * 100 + t) = (goT (gGo g) p t).2) ∧ (∀ p : Nat, (p : Int) < g 3 → J (e + 10) p = lasF (gRun g).2 (gRun g).1 (p : Int))
def WI (J0 J : mJ) (e h : Nat) (g : Nat → Int) (t p : Nat) : Prop := HR J h g ∧ EvR J e (gRow g t p).1 (gRow g t p).2 ∧ EarT J e g ∧ (∀ i : Nat, (i : Int) < g 3 → J (e + 15) i = (goS (gGo g) i (if i < p then t + 1 else t)).1 ∧ J (e + 16) i = ((goS (gGo g) i (if i < p then t + 1 else t)).2 : Nat) ∧ J (e + 10) i = lasF (gRow g t p).2 (gRow g t p).1 (i : Int)) ∧ (∀ i t' : Nat, (i : Int) < g 3 → (t' < t ∨ t' = t ∧ i < p) → J (e + 13) (i * 100 + t') = (goT (gGo g) i t').2) ∧ (∀ c, (c < e ∨ e + 16 < c) → J c = J0 c)
theorem x_walkStep {J0 J : mJ} {e h t p : Nat} {g : Nat → Int} (hv : HV g) (hne : ∀ k, k < 14 → ∀ j, j < 17 → h + k ≠ e + j) (hw : WI J0 J e h g t p) (hp : (p : Int) < g 3) (ht : t < 100) {post' : mJ → Prop} {k51' : mJ → Int → Int → Prop} (hk : ∀ J', WI J0 J' e h g t (p + 1) → k51' J' (t : Int) ((p + 1 : Nat) : Int)) :
    v_X2_goes J e h (p : Int) (t : Int) (fun b9 J10 => (b9 = false → (v_X2_walkAll_77 e h post' k51') J10 (t : Int) (p : Int)) ∧ (b9 = true → v_X2_addTread J10 e h (p : Int) (t : Int) (fun J11 => (v_X2_walkAll_77 e h post' k51') J11 (t : Int) (p : Int)))) := by
  obtain ⟨hr, hE, hT, hon, hsp, hfr⟩ := hw
  have h3 := hv.2.2.2.1
  have h0 := hv.1
  obtain ⟨o1, o2, o3⟩ := hon p hp
  rw [if_neg (Nat.lt_irrefl _)] at o1 o2
  obtain ⟨i1, i2, i3⟩ := goS_rng hv hp t
  have htr := gTrV hv p t hp
  refine x_goes hv hr hne hp o1 o2 i1 (fun a b => ⟨(i2 a b).1, by have := (i2 a b).2; omega⟩) ?_
  intro J1 f1 g1 g2
  have er : gRow g t (p + 1) = stT (goT (gGo g)) (gQ g) (g 1) (gRow g t p) p t := rfl
  have egt : (gGo g p (t : Int) (goS (gGo g) p t).1 (goS (gGo g) p t).2).1 = (goT (gGo g) p t).1 := rfl
  have eon : (gGo g p (t : Int) (goS (gGo g) p t).1 (goS (gGo g) p t).2).2.1 = (goT (gGo g) p t).2 := rfl
  have es : (goS (gGo g) p (t + 1)) = (gGo g p (t : Int) (goS (gGo g) p t).1 (goS (gGo g) p t).2).2 := rfl
  have hr1 : HR J1 h g := HR_frame (fun q hq' => f1 _ (hne q hq' 15 (by decide)) (hne q hq' 16 (by decide))) hr
  have hT1 : EarT J1 e g := EarT_frame (f1 _ (by omega) (by omega)) hT
  have hE1 : EvR J1 e (gRow g t p).1 (gRow g t p).2 := by
    refine ⟨by rw [f1 _ (by omega) (by omega)]; exact hE.1, fun j k hj hk => ?_, fun s hs => ?_⟩
    · rw [f1 _ (by omega) (by omega)]; exact hE.2.1 j k hj hk
    · rw [f1 _ (by omega) (by omega)]; exact hE.2.2 s hs
  have fin : ∀ J2 : mJ, EvR J2 e (gRow g t (p + 1)).1 (gRow g t (p + 1)).2 → (∀ c, (c < e ∨ e + 10 < c) → c ≠ e + 14 → J2 c = J1 c) → (∀ i : Nat, (i : Int) < g 3 → J2 (e + 10) i = lasF (gRow g t (p + 1)).2 (gRow g t (p + 1)).1 (i : Int)) → (v_X2_walkAll_77 e h post' k51') J2 (t : Int) (p : Int) := by
    intro J2 hE2 f2 l2
    have ei : ((p : Int) * 100 + (t : Int)).toNat = p * 100 + t := by omega
    unfold v_X2_walkAll_77
    rw [ei, Int.toNat_natCast]
    refine ⟨⟨by omega, by omega⟩, ⟨by omega, by omega⟩, ⟨by omega, by omega⟩, ⟨by omega, by omega⟩, ?_⟩
    intro J16 e16
    refine ⟨⟨by omega, by omega⟩, ?_⟩
    intro y18 e18
    have e18 : y18 = ((p + 1 : Nat) : Int) := by omega
    subst e18
    have f16 : ∀ c, c ≠ e + 13 → J16 c = J2 c := fun c hc => by rw [e16]; exact up2_n _ _ _ hc
    refine hk J16 ⟨HR_frame (fun q hq' => ?_) hr1, ?_, ?_, ?_, ?_, ?_⟩
    · rw [f16 _ (hne q hq' 13 (by decide)), f2 _ ?_ (hne q hq' 14 (by decide))]
      have a1 := hne q hq' 0 (by decide)
      have a2 := fun j hj => hne q hq' j hj
      apply Classical.byContradiction
      intro hc
      exact a2 (h + q - e) (by omega) (by omega)
    · refine ⟨by rw [f16 _ (by omega)]; exact hE2.1, fun j k hj hk => ?_, fun s hs => ?_⟩
      · rw [f16 _ (by omega)]; exact hE2.2.1 j k hj hk
      · rw [f16 _ (by omega)]; exact hE2.2.2 s hs
    · exact EarT_frame (by rw [f16 _ (by omega), f2 _ (by omega) (by omega)]) hT1
    · intro i hi
      rw [f16 (e + 15) (by omega), f2 (e + 15) (by omega) (by omega), f16 (e + 16) (by omega), f2 (e + 16) (by omega) (by omega), f16 (e + 10) (by omega), g1, g2]
      by_cases hip : i = p
      · subst hip
        rw [up1_s, up1_s, if_pos (Nat.lt_succ_self _), es]
        exact ⟨rfl, rfl, l2 i hi⟩
      · rw [up1_n _ _ hip, up1_n _ _ hip]
        have := hon i hi
        have hlt : (i < p + 1) ↔ (i < p) := by omega
        simp only [hlt]
        exact ⟨this.1, this.2.1, l2 i hi⟩
    · intro i t' hi ht'
      rw [e16, up2_s]
      by_cases hip : i * 100 + t' = p * 100 + t
      · have : i = p ∧ t' = t := by omega
        obtain ⟨rfl, rfl⟩ := this
        rw [up1_s, f2 _ (by omega) (by omega), g1, up1_s]
        exact eon
      · rw [up1_n _ _ hip, f2 _ (by omega) (by omega), f1 _ (by omega) (by omega)]
        exact hsp i t' hi (by omega)
    · intro c hc
      rw [f16 _ (by omega), f2 _ (by omega) (by omega), f1 _ (by omega) (by omega)]
      exact hfr c hc
  show ((goT (gGo g) p t).1 = false → _) ∧ ((goT (gGo g) p t).1 = true → _)
  refine ⟨fun c => ?_, fun c => ?_⟩
  · have er2 : gRow g t (p + 1) = gRow g t p := by rw [er, stT, if_neg (by rw [c]; decide)]
    refine fin J1 (by rw [er2]; exact hE1) (fun _ _ _ => rfl) (fun i hi => ?_)
    rw [er2, f1 _ (by omega) (by omega)]
    exact (hon i hi).2.2
  · have er2 : gRow g t (p + 1) = ((gRow g t p).1 + 1, adF (gRow g t p).2 (gRow g t p).1 (trF (gQ g) (g 1) (gRow g t p).2 (gRow g t p).1 p (goT (gGo g) p t).2.toNat (t : Int))) := by rw [er, stT, if_pos c]
    have hs0 := htr.2 c
    have hle := gRow_le hv (t := t) (p := p)
    refine x_addTread (s := (goT (gGo g) p t).2.toNat) hv hr1 hne hE1 hT1 (gRow_TV hv ht (by omega)) (by omega) hp (by omega) (by rw [g1, up1_s, eon]; omega) ⟨by omega, by omega⟩ ?_
    intro J2 hE2 f2 f2e l2
    refine fin J2 (by rw [er2]; exact hE2) f2 (fun i hi => ?_)
    rw [er2, l2]
    show _ = lasF (adF _ _ _) (_ + 1) _
    rw [lasF_add]
    by_cases hip : i = p
    · subst hip; rw [up1_s, if_pos rfl]
    · rw [up1_n _ _ hip, if_neg hip, f1 _ (by omega) (by omega)]
      exact (hon i hi).2.2
theorem x_walkAll {J : mJ} {e h : Nat} {g : Nat → Int} (hv : HV g) (hr : HR J h g) (hne : ∀ k, k < 14 → ∀ j, j < 17 → h + k ≠ e + j) {post' : mJ → Prop} (hq : ∀ J1 : mJ, EvO J1 e g → HR J1 h g → J1 e 1 = 1 → (∀ c, (c < e ∨ e + 16 < c) → J1 c = J c) → post' J1) : v_X2_walkAll J e h post' := by
  have h3 := hv.2.2.2.1
  have h0 := hv.1
  intro J1 e1
  refine p_fill (by decide) (p_fill (by decide) (p_fill (by decide) (p_fill (by decide) ?_)))
  generalize e5 : fillZ (fillZ (fillZ (fillZ J1 (e + 10) 6 (-1)) (e + 14) 24 (-1)) (e + 15) 6 (-1)) (e + 16) 6 0 = J5
  have k5 : ∀ c, c ≠ e → c ≠ e + 10 → c ≠ e + 14 → c ≠ e + 15 → c ≠ e + 16 → J5 c = J c := by
    intro c a0 a1 a2 a3 a4
    rw [← e5, fillZ_n a4, fillZ_n a3, fillZ_n a2, fillZ_n a1, e1, up2_n _ _ _ a0]
  have ke : J5 e = up1 (J e) 2 0 := by rw [← e5, fillZ_n (by omega), fillZ_n (by omega), fillZ_n (by omega), fillZ_n (by omega), e1, up2_s]
  have k10 : ∀ i, i < 6 → J5 (e + 10) i = -1 := by
    intro i hi; rw [← e5, fillZ_n (by omega), fillZ_n (by omega), fillZ_n (by omega), fillZ_s hi]
  have k14 : ∀ i, i < 24 → J5 (e + 14) i = -1 := by
    intro i hi; rw [← e5, fillZ_n (by omega), fillZ_n (by omega), fillZ_s hi]
  have k15 : ∀ i, i < 6 → J5 (e + 15) i = -1 := by
    intro i hi; rw [← e5, fillZ_n (by omega), fillZ_s hi]
  have k16 : ∀ i, i < 6 → J5 (e + 16) i = 0 := by
    intro i hi; rw [← e5, fillZ_s hi]
  have hr5 : HR J5 h g := HR_frame (fun q hq' => k5 _ (hne q hq' 0 (by decide)) (hne q hq' 10 (by decide)) (hne q hq' 14 (by decide)) (hne q hq' 15 (by decide)) (hne q hq' 16 (by decide))) hr
  refine x_listen hv hr5 (fun k hk => hne k hk 12 (by decide)) ?_
  generalize e6 : lisM J5 (e + 12) g (g 0).toNat 0 0 = J6
  have k6 : ∀ c, c ≠ e + 12 → J6 c = J5 c := fun c hc => by rw [← e6]; exact lisM_n hc
  have w0 : WI J J6 e h g 0 0 := by
    refine ⟨HR_frame (fun q hq' => k6 _ (hne q hq' 12 (by decide))) hr5, ⟨?_, fun j k _ hk => absurd hk (Nat.not_lt_zero _), fun s hs => ?_⟩, ?_, fun i hi => ⟨?_, ?_, ?_⟩, fun i t' _ ht' => absurd ht' (by omega), fun c hc => ?_⟩
    · rw [k6 _ (by omega), ke, up1_s]; rfl
    · rw [k6 _ (by omega), k14 s hs]; rfl
    · rw [← e6]; exact lisM_T hv
    · rw [k6 _ (by omega), k15 i (by omega)]; rfl
    · rw [k6 _ (by omega), k16 i (by omega)]; rfl
    · rw [k6 _ (by omega), k10 i (by omega)]; rfl
    · rw [k6 _ (by omega), k5 c (by omega) (by omega) (by omega) (by omega) (by omega)]
  intro ZZ hZ
  have key : ∀ d t : Nat, t + d = 100 → ∀ J', WI J J' e h g t 0 → ZZ J' (t : Int) := by
    intro d
    induction d with
    | zero =>
      intro t ht J' hw
      have ht : t = 100 := by omega
      subst ht
      apply hZ
      refine ⟨fun _ => ?_, fun c => absurd (by decide) c⟩
      intro J19 e19
      obtain ⟨hr', hE, hT, hon, hsp, hfr⟩ := hw
      have f19 : ∀ c, c ≠ e → J19 c = J' c := fun c hc => by rw [e19]; exact up2_n _ _ _ hc
      refine hq J19 ⟨⟨?_, fun j k hj hk => ?_, fun s hs => ?_⟩, EarT_frame (f19 _ (by omega)) hT, fun p t hp ht => ?_, fun p hp => ?_⟩ (HR_frame (fun q hq' => f19 _ (hne q hq' 0 (by decide))) hr') (by rw [e19, up2_s, up1_s]) (fun c hc => ?_)
      · rw [e19, up2_s, up1_n _ _ (by decide)]; exact hE.1
      · rw [f19 _ (by omega)]; exact hE.2.1 j k hj hk
      · rw [f19 _ (by omega)]; exact hE.2.2 s hs
      · rw [f19 _ (by omega)]; exact hsp p t hp (Or.inl ht)
      · rw [f19 _ (by omega)]; exact (hon p hp).2.2
      · rw [f19 _ (by omega)]; exact hfr c hc
    | succ d ih =>
      intro t ht J' hw
      apply hZ
      refine ⟨fun c => by omega, fun _ => ?_⟩
      intro YY hY
      have key2 : ∀ d2 p : Nat, p + d2 = (g 3).toNat → ∀ J', WI J J' e h g t p → YY J' (t : Int) (p : Int) := by
        intro d2
        induction d2 with
        | zero =>
          intro p hp J' hw
          apply hY
          have e3 := hw.1.1.2.2.2.1
          rw [e3]
          refine ⟨fun _ => ⟨⟨by omega, by omega⟩, ?_⟩, fun c => absurd (by omega) c⟩
          intro y8 e8
          have e8 : y8 = ((t + 1 : Nat) : Int) := by omega
          subst e8
          refine ih (t + 1) (by omega) J' ?_
          obtain ⟨hr', hE, hT, hon, hsp, hfr⟩ := hw
          have hp : p = (g 3).toNat := by omega
          subst hp
          refine ⟨hr', hE, hT, fun i hi => ?_, fun i t' hi ht' => hsp i t' hi (by omega), hfr⟩
          have := hon i hi
          rw [if_pos (by omega)] at this
          rw [if_neg (Nat.not_lt_zero _)]
          exact this
        | succ d2 ih2 =>
          intro p hp J' hw
          apply hY
          have e3 := hw.1.1.2.2.2.1
          rw [e3]
          refine ⟨fun c => by omega, fun _ => ?_⟩
          exact x_walkStep hv hne hw (by omega) (by omega) (fun J'' hw' => ih2 (p + 1) (by omega) J'' hw')
      exact key2 (g 3).toNat 0 (by omega) J' hw
  exact key 100 0 rfl J6 w0
