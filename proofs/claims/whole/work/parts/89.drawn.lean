/-! evenings drawn by a seed -/
abbrev Ds : Type := Int × (Nat → Int) × Ts
def toW (rm : Int → Int → Int) (g : Nat → Int) (p : Nat) (x on : Int) : Int := if rm x 2 = 0 then nxF on (g 0 - 1) (g (43 + 14 * p)) else nxF on 0 (g (43 + 14 * p))
def dSt (nx : Int → Int) (rm : Int → Int → Int) (g : Nat → Int) (ch : Int) (t p : Nat) (st : Ds) : Ds :=
  if 59 < t then st else if ch ≤ rm (nx st.1) 100 then (nx st.1, st.2) else
  if toW rm g p (nx (nx st.1)) (st.2.1 p) = st.2.1 p then (nx (nx st.1), st.2) else
  (nx (nx st.1), up1 st.2.1 p (toW rm g p (nx (nx st.1)) (st.2.1 p)), (st.2.2.1 + 1, adF st.2.2.2 st.2.2.1 (trF (gQ g) (g 1) st.2.2.2 st.2.2.1 p (toW rm g p (nx (nx st.1)) (st.2.1 p)).toNat (t : Int))))
def dRow (nx : Int → Int) (rm : Int → Int → Int) (g : Nat → Int) (ch : Int) (t : Nat) (st : Ds) : Nat → Ds
  | 0 => st
  | p + 1 => dSt nx rm g ch t p (dRow nx rm g ch t st p)
def dRun (nx : Int → Int) (rm : Int → Int → Int) (g : Nat → Int) (ch x : Int) : Nat → Ds
  | 0 => (x, fun _ => 0, (0, fun _ _ => 0))
  | t + 1 => dRow nx rm g ch t (dRun nx rm g ch x t) (g 3).toNat
theorem dRow_late {nx : Int → Int} {rm : Int → Int → Int} {g : Nat → Int} {ch : Int} {t : Nat} (ht : 60 ≤ t) (st : Ds) : ∀ p, dRow nx rm g ch t st p = st
  | 0 => rfl
  | p + 1 => by rw [dRow, dRow_late ht st p, dSt, if_pos (by omega)]
theorem dRun_late {nx : Int → Int} {rm : Int → Int → Int} {g : Nat → Int} {ch x : Int} : ∀ d, dRun nx rm g ch x (60 + d) = dRun nx rm g ch x 60
  | 0 => rfl
  | d + 1 => by rw [← Nat.add_assoc, dRun, dRow_late (by omega), dRun_late d]
def DV (g : Nat → Int) (m : Nat) (st : Ds) : Prop := (∀ i, 0 ≤ st.2.1 i ∧ st.2.1 i < g 0) ∧ TV g st.2.2.1 st.2.2.2 ∧ st.2.2.1 ≤ m
theorem toW_rng {rm : Int → Int → Int} {g : Nat → Int} (hv : HV g) {p : Nat} (hp : (p : Int) < g 3) {x on : Int} (ho : 0 ≤ on ∧ on < g 0) : 0 ≤ toW rm g p x on ∧ toW rm g p x on < g 0 := by
  have h0 := hv.1
  obtain ⟨_, _, h43, _⟩ := hv.2.2.2.2.2.2.2.1 p hp
  unfold toW; split
  · exact nxF_rng ho ⟨by omega, by omega⟩ (by omega)
  · exact nxF_rng ho ⟨by omega, by omega⟩ (by omega)
theorem dSt_V {nx : Int → Int} {rm : Int → Int → Int} {g : Nat → Int} (hv : HV g) {ch : Int} {t p m : Nat} (hp : (p : Int) < g 3) (ht : t < 100) {st : Ds} (h : DV g m st) : DV g (m + 1) (dSt nx rm g ch t p st) := by
  have h0 := hv.1
  obtain ⟨a, b, c⟩ := h
  unfold dSt
  split
  · exact ⟨a, b, by omega⟩
  · split
    · exact ⟨a, b, by show st.2.2.1 ≤ m + 1; omega⟩
    · split
      · exact ⟨a, b, by show st.2.2.1 ≤ m + 1; omega⟩
      · have r := toW_rng (rm := rm) hv hp (x := nx (nx st.1)) (a p)
        refine ⟨fun i => ?_, TV_add (gQ9 hv) b hp (by omega) (by omega) (by omega), by show st.2.2.1 + 1 ≤ m + 1; omega⟩
        show 0 ≤ up1 st.2.1 p _ i ∧ up1 st.2.1 p _ i < g 0
        by_cases e : i = p
        · rw [e, up1_s]; exact r
        · rw [up1_n _ _ e]; exact a i
theorem dRow_V {nx : Int → Int} {rm : Int → Int → Int} {g : Nat → Int} (hv : HV g) {ch : Int} {t m : Nat} (ht : t < 100) {st : Ds} (h : DV g m st) : ∀ p : Nat, (p : Int) ≤ g 3 → DV g (m + p) (dRow nx rm g ch t st p)
  | 0, _ => h
  | p + 1, hp => by rw [dRow, ← Nat.add_assoc]; exact dSt_V hv (by omega) ht (dRow_V hv ht h p (by omega))
theorem dRun_V {nx : Int → Int} {rm : Int → Int → Int} {g : Nat → Int} (hv : HV g) {ch x : Int} : ∀ t : Nat, t ≤ 100 → DV g (t * 6) (dRun nx rm g ch x t)
  | 0, _ => ⟨fun i => by have := hv.1; show (0 : Int) ≤ 0 ∧ (0 : Int) < g 0; omega, fun k hk => absurd hk (Nat.not_lt_zero _), Nat.le_refl _⟩
  | t + 1, ht => by
    have h3 := hv.2.2.2.1
    obtain ⟨a, b, c⟩ := dRow_V (nx := nx) (rm := rm) hv (ch := ch) (t := t) (by omega) (dRun_V (nx := nx) (rm := rm) hv (ch := ch) (x := x) t (by omega)) (g 3).toNat (by omega)
    exact ⟨a, b, by rw [dRun]; omega⟩
/-- the reference -/
def DI (J0 J : mJ) (b : Nat) (g u : Nat → Int) (st : Ds) : Prop := MH J b g u ∧ MR J st.2.2.1 st.2.2.2 ∧ J 128 23 = st.1 ∧ (∀ i : Nat, (i : Int) < g 3 → J 142 i = st.2.1 i) ∧ (∀ c, (c < 128 ∨ 128 < c) → (c < 132 ∨ 143 < c) → J c = J0 c)
theorem m_strays {nx : Int → Int} {rm : Int → Int → Int} (hnx : ∀ x, addW (mulW x 1103515245) 12345 = nx x) (hrm : ∀ x m, remZ (ushrZ x 16) m = rm x m) {J0 J : mJ} {b t p m : Nat} {g u : Nat → Int} {ch : Int} {st : Ds} (hu13 : u 13 = -1) (hu18 : u 18 = -1) (hu20 : u 20 = -1) (hu24 : u 24 = ch) (hd : DI J0 J b g u st) (hV : DV g m st) (hm : m < 640) (hp : (p : Int) < g 3) (ht : t < 100) {post' : mJ → Prop} (hq : ∀ J1, DI J0 J1 b g u (dSt nx rm g ch t p st) → post' J1) : v_X12_strays J 128 (p : Int) (t : Int) post' := by
  obtain ⟨hM, hR, h23, hon, hf⟩ := hd
  have hv := hM.2.2.2.1
  have h0 := hv.1
  have h3 := hv.2.2.2.1
  obtain ⟨_, _, h43, _⟩ := hv.2.2.2.2.2.2.2.1 p hp
  obtain ⟨va, vb, vc⟩ := hV
  have hmq := mQ_plain (u := u) (g := g) hu13 hu18 hu20
  unfold dSt at hq
  unfold v_X12_strays
  refine ⟨fun c => ?_, fun c => ?_⟩
  · rw [if_pos (by omega)] at hq
    exact hq J ⟨hM, hR, h23, hon, hf⟩
  · rw [if_neg (by omega)] at hq
    rintro J1 rfl
    have e23 : up2 J 128 23 (addW (mulW (J 128 23) 1103515245) 12345) 128 23 = nx st.1 := by rw [up2_s, up1_s, h23, hnx]
    rw [e23]
    have k1 : ∀ i, i ≠ 23 → up2 J 128 23 (addW (mulW (J 128 23) 1103515245) 12345) 128 i = J 128 i := fun i hi => by rw [up2_s, up1_n _ _ hi]
    have o1 : ∀ c, c ≠ 128 → up2 J 128 23 (addW (mulW (J 128 23) 1103515245) 12345) c = J c := fun c hc => up2_n _ _ _ hc
    generalize up2 J 128 23 (addW (mulW (J 128 23) 1103515245) 12345) = J1 at e23 k1 o1
    have hM1 : MH J1 b g u := MH_frame (o1 129 (by decide)) (fun k h1 h2 h3 => k1 k h3) hM
    have hR1 : MR J1 st.2.2.1 st.2.2.2 := MR_frame (fun j hj => o1 _ (by omega)) (k1 25 (by decide)) hR
    have e24 : J1 128 24 = ch := by rw [hM1.2.2.2.2.2 24 (by decide) (by decide) (by decide)]; exact hu24
    refine ⟨by decide, ?_⟩
    change (remZ (ushrZ (nx st.1) 16) 100 < J1 128 24 → _) ∧ (¬ remZ (ushrZ (nx st.1) 16) 100 < J1 128 24 → _)
    rw [e24, hrm]
    refine ⟨fun c2 => ?_, fun c2 => ?_⟩
    · rw [if_neg (by omega)] at hq
      rintro J2 rfl
      have f23 : up2 J1 128 23 (addW (mulW (J1 128 23) 1103515245) 12345) 128 23 = nx (nx st.1) := by rw [up2_s, up1_s, e23, hnx]
      rw [f23]
      have k2 : ∀ i, i ≠ 23 → up2 J1 128 23 (addW (mulW (J1 128 23) 1103515245) 12345) 128 i = J1 128 i := fun i hi => by rw [up2_s, up1_n _ _ hi]
      have o2 : ∀ c, c ≠ 128 → up2 J1 128 23 (addW (mulW (J1 128 23) 1103515245) 12345) c = J1 c := fun c hc => up2_n _ _ _ hc
      generalize up2 J1 128 23 (addW (mulW (J1 128 23) 1103515245) 12345) = J2 at f23 k2 o2
      have hM2 : MH J2 b g u := MH_frame (o2 129 (by decide)) (fun k h1 h2 h3 => k2 k h3) hM1
      have hR2 : MR J2 st.2.2.1 st.2.2.2 := MR_frame (fun j hj => o2 _ (by omega)) (k2 25 (by decide)) hR1
      have on2 : ∀ i : Nat, (i : Int) < g 3 → J2 142 i = st.2.1 i := fun i hi => by rw [o2 142 (by decide), o1 142 (by decide)]; exact hon i hi
      have fr2 : ∀ c, (c < 128 ∨ 128 < c) → (c < 132 ∨ 143 < c) → J2 c = J0 c := fun c h1 h2 => by rw [o2 c (by omega), o1 c (by omega)]; exact hf c h1 h2
      have ro := va p
      have eon : J2 (128 + 14) (p : Int).toNat = st.2.1 p := by rw [Int.toNat_natCast]; exact on2 p hp
      have rt := toW_rng (rm := rm) hv hp (x := nx (nx st.1)) ro
      have fin : v_X12_strays_69 128 (p : Int) (t : Int) post' J2 (toW rm g p (nx (nx st.1)) (st.2.1 p)) := by
        unfold v_X12_strays_69
        rw [eon]
        refine ⟨⟨by omega, by omega⟩, fun c3 => ⟨⟨by omega, by omega⟩, ?_⟩, fun c3 => ?_⟩
        · rw [if_neg c3] at hq
          rw [Int.toNat_natCast]
          rintro J3 rfl
          have k3 : up2 J2 (128 + 14) p (toW rm g p (nx (nx st.1)) (st.2.1 p)) 128 = J2 128 := up2_n _ _ _ (by decide)
          have hM3 : MH (up2 J2 (128 + 14) p (toW rm g p (nx (nx st.1)) (st.2.1 p))) b g u := MH_frame (up2_n _ _ _ (by decide)) (fun k h1 h2 h3 => by rw [k3]) hM2
          have hR3 : MR (up2 J2 (128 + 14) p (toW rm g p (nx (nx st.1)) (st.2.1 p))) st.2.2.1 st.2.2.2 := MR_frame (fun j hj => up2_n _ _ _ (by omega)) (by rw [k3]) hR2
          obtain ⟨s, es⟩ : ∃ s : Nat, toW rm g p (nx (nx st.1)) (st.2.1 p) = (s : Int) := ⟨(toW rm g p (nx (nx st.1)) (st.2.1 p)).toNat, by omega⟩
          rw [es] at k3 hM3 hR3 hq rt ⊢
          refine m_treads hM3 (Or.inl hu13) hR3 vb (by omega) hp (by omega) ⟨by omega, by omega⟩ (fun J4 hR4 f4 g4 l4 => hq J4 ⟨MH_frame (J := up2 J2 (128 + 14) p (s : Int)) (f4 129 (by decide) (by decide) (by decide)) (fun k h1 h2 h3 => g4 k (by omega)) hM3, ?_, ?_, fun i hi => ?_, fun c h1 h2 => ?_⟩)
          · rw [hmq] at hR4
            rw [Int.toNat_natCast]; exact hR4
          · rw [g4 23 (by decide), k3]; exact f23
          · rw [f4 142 (by decide) (by decide) (by decide)]
            show up2 J2 (128 + 14) p (s : Int) (128 + 14) i = up1 st.2.1 p (s : Int) i
            rw [up2_s]
            by_cases e : i = p
            · rw [e, up1_s, up1_s]
            · rw [up1_n _ _ e, up1_n _ _ e]; exact on2 i hi
          · rw [f4 c h1 (by omega) (by omega), up2_n _ _ _ (by omega)]; exact fr2 c h1 h2
        · rw [if_pos c3] at hq
          exact hq J2 ⟨hM2, hR2, f23, on2, fr2⟩
      unfold toW at fin
      refine ⟨by decide, ?_⟩
      change (¬ remZ (ushrZ (nx (nx st.1)) 16) 2 = 0 → _) ∧ (remZ (ushrZ (nx (nx st.1)) 16) 2 = 0 → _)
      rw [hrm]
      refine ⟨fun c3 => ⟨⟨by omega, by omega⟩, ?_⟩, fun c3 => ⟨⟨by omega, by omega⟩, ?_⟩⟩
      · rw [if_neg c3] at fin
        refine n_told hM2 p 2 (43 + 14 * p) rfl rfl ⟨by omega, by omega⟩ (by omega) ?_
        rw [eon]
        exact m_towards (by omega) (by omega) h43 fin
      · rw [if_pos c3] at fin
        refine n_of hM2 (j := 0) rfl (by decide) ⟨⟨by omega, by omega⟩, n_told hM2 p 2 (43 + 14 * p) rfl rfl ⟨by omega, by omega⟩ (by omega) ?_⟩
        rw [eon]
        exact m_towards (by omega) (by omega) h43 fin
    · rw [if_pos (by omega)] at hq
      exact hq J1 ⟨hM1, hR1, e23, fun i hi => by rw [o1 142 (by decide)]; exact hon i hi, fun c h1 h2 => by rw [o1 c (by omega)]; exact hf c h1 h2⟩
theorem m_drawnRuns {nx : Int → Int} {rm : Int → Int → Int} (hnx : ∀ x, addW (mulW x 1103515245) 12345 = nx x) (hrm : ∀ x m, remZ (ushrZ x 16) m = rm x m) {J : mJ} {b : Nat} {g u : Nat → Int} {ch x : Int} (h : MH J b g u) (hu13 : u 13 = -1) (hu18 : u 18 = -1) (hu20 : u 20 = -1) (hu24 : u 24 = ch) (hu22 : u 22 = 1) (hx : J 128 23 = x) {post' : mJ → Prop} (hq : ∀ J1, DI J J1 b g u (dRun nx rm g ch x 60) → post' J1) : v_X12_runs J 128 post' := by
  have hv := h.2.2.2.1
  have h3 := hv.2.2.2.1
  refine m_begin h (fun J1 f1 e1 i1 => ?_)
  refine m_loop (b := b) (g := g) (u := u) (fun J' t p => DI J J' b g u (dRow nx rm g ch t (dRun nx rm g ch x t) p)) (fun _ _ _ hw => hw.1) (fun J' t p hw ht hp k63' hk => ?_) (fun J' t hw => hw) (fun J' hw => ?_) J1 ?_
  · have hM := hw.1
    rw [hM.2.2.2.2.2 22 (by decide) (by decide) (by decide), hu22]
    have dv := dRow_V (nx := nx) (rm := rm) hv (ch := ch) (t := t) ht (dRun_V (nx := nx) (rm := rm) hv (ch := ch) (x := x) t (by omega)) p (by omega)
    refine ⟨fun c => absurd c (by decide), fun _ => m_strays hnx hrm hu13 hu18 hu20 hu24 hw dv (by omega) hp ht (fun J2 hd => ?_)⟩
    obtain ⟨hM2, hR2, h23, hon, hf⟩ := hd
    unfold v_X12_runs_101
    rw [show (100 * (p : Int) + (t : Int)).toNat = p * 100 + t by omega]
    refine ⟨⟨by omega, by omega⟩, ⟨by omega, by omega⟩, ⟨by omega, by omega⟩, ⟨by omega, by omega⟩, ?_⟩
    rintro J3 rfl
    refine ⟨⟨by omega, by omega⟩, ?_⟩
    rintro _ rfl
    have k3 : up2 J2 (128 + 12) (p * 100 + t) (J2 (128 + 14) (p : Int).toNat) 128 = J2 128 := up2_n _ _ _ (by decide)
    refine hk _ ⟨MH_frame (up2_n _ _ _ (by decide)) (fun k h1 h2 h3 => by rw [k3]) hM2, MR_frame (fun j hj => up2_n _ _ _ (by omega)) (by rw [k3]) hR2, by rw [k3]; exact h23, fun i hi => by rw [up2_n _ _ _ (by decide)]; exact hon i hi, fun c h1 h2 => by rw [up2_n _ _ _ (by omega)]; exact hf c h1 h2⟩
  · rw [show (100 : Nat) = 60 + 40 from rfl] at hw
    change DI J J' b g u (dRun nx rm g ch x (60 + 40)) at hw
    rw [dRun_late] at hw
    exact hq J' hw
  · refine ⟨MH_frame (f1 _ (by decide) (by decide) (by decide) (by decide)) (fun k _ _ _ => by rw [e1, up1_n _ _ (by omega)]) h, ⟨by rw [e1, up1_s]; rfl, fun j k _ hk => absurd hk (Nat.not_lt_zero _)⟩, by rw [e1, up1_n _ _ (by decide)]; exact hx, fun i hi => ?_, fun c hc1 hc2 => f1 c (by omega) (by omega) (by omega) (by omega)⟩
    have := (i1 i hi).2.1
    rw [hu22, if_neg (by decide)] at this; exact this
/-- the class -/
def CD (J0 J : mJ) (g : Nat → Int) (st : Ds) : Prop := J 84 0 = (st.2.2.1 : Int) ∧ J 84 3 = st.1 ∧ (∀ i : Nat, (i : Int) < g 3 → J 85 i = st.2.1 i) ∧ (∀ f : Nat, f < 6 → J 86 f = if (f : Int) < g 2 then ((cntF (nB st.2.2.2 f) st.2.2.1 : Nat) : Int) else 0) ∧ (∀ s : Nat, s < 24 → J 87 s = if latF (st.2.2.2 1) (s : Int) st.2.2.1 = -1 then -1 else st.2.2.2 2 (latF (st.2.2.2 1) (s : Int) st.2.2.1).toNat) ∧ (∀ s : Nat, s < 24 → latF (st.2.2.2 1) (s : Int) st.2.2.1 ≠ -1 → J 88 s = st.2.2.2 4 (latF (st.2.2.2 1) (s : Int) st.2.2.1).toNat) ∧ (∀ c, (c < 84 ∨ 88 < c) → J c = J0 c)
theorem x_dAdd {J0 J : mJ} {e h n p s t m : Nat} {g : Nat → Int} {x : Int} {on : Nat → Int} {T : Nat → Nat → Int} (hv : HV g) (hr : HR J0 h g) (hh : h ≤ 40) (he : 90 ≤ e) (hT : EarT J0 e g) (hC : CD J0 J g (x, on, (n, T))) (hV : TV g n T) (hn : n ≤ m) (hm : m < 600) (hp : (p : Int) < g 3) (hon : on p = (s : Int)) (hs : (s : Int) < g 0) (ht : t < 60) {post' : mJ → Prop} (hq : ∀ J1, CD J0 J1 g (x, on, (n + 1, adF T n (trF (gQ g) (g 1) T n p s (t : Int)))) → post' J1) : v_X1_addTread J 84 e h (p : Int) (t : Int) post' := by
  obtain ⟨c0, c3, c1, c2, c4, c5, cf⟩ := hC
  dsimp only at c0 c3 c1 c2 c4 c5
  have h0 := hv.1
  have h1 := hv.2.1
  have h2 := hv.2.2.1
  have h3 := hv.2.2.2.1
  have hrJ : HR J h g := HR_frame (fun q hq => cf _ (by omega)) hr
  have hTJ : EarT J e g := EarT_frame (cf _ (by omega)) hT
  have so := gShoe_rng hv hp (t : Int)
  have lo := gLoud_rng hv (p := p) (s := s) hp (by omega) so
  have lr := latF_rng (T 1) (s : Int) n
  have g1 := gEars_lt hv (gLoud g p s (gShoe g p (t : Int))) (s : Int)
  unfold v_X1_addTread
  rw [Int.toNat_natCast, show J (84 + 1) p = (s : Int) by rw [show J (84 + 1) p = on p from c1 p hp]; exact hon]
  refine ⟨⟨by omega, by omega⟩, ?_⟩
  rintro _ rfl
  refine x_shoeAt hv hrJ hp (x_loudOf hv hrJ hp (by omega) so (x_hearersI hv hTJ hs lo ?_))
  simp only [Int.toNat_natCast]
  rw [show J (84 + 3) s = _ from c4 s (by omega), hrJ.1.2.1]
  have eT : adF T n (trF (gQ g) (g 1) T n p s (t : Int)) = adF T n (trF (gQ g) (g 1) T n p s (t : Int)) := rfl
  -- what is noted
  have fin : ∀ v : Int, v = oZ (trF (gQ g) (g 1) T n p s (t : Int) 6) (trF (gQ g) (g 1) T n p s (t : Int) 7) → 0 ≤ v ∧ v < 64 → v_X1_addTread_92 84 e h (p : Int) (t : Int) post' (v_X1_addTread_131 84 e h (p : Int) (t : Int) post') J (s : Int) (gLoud g p s (gShoe g p (t : Int))) v 0 := by
    intro v ev rv
    have nbn : ∀ f, nB (adF T n (trF (gQ g) (g 1) T n p s (t : Int))) f n = bt v f := fun f => by
      unfold nB; rw [adF_new, adF_new, ← bt_oZ, ← ev]
    have nbo : ∀ f, cntF (nB (adF T n (trF (gQ g) (g 1) T n p s (t : Int))) f) n = cntF (nB T f) n := fun f => cntF_cong n (fun k hk => by unfold nB; rw [adF_old hk, adF_old hk])
    unfold v_X1_addTread_92
    intro ZZ hZ
    refine lpN (S := fun f => ∀ J1, (∀ c, c ≠ 86 → J1 c = J c) → (∀ f' : Nat, f' < 6 → J1 86 f' = if (f' : Int) < g 2 then ((cntF (nB T f') n : Nat) : Int) + (if f' < f ∧ bt v f' = true then 1 else 0) else 0) → ZZ J1 (s : Int) (gLoud g p s (gShoe g p (t : Int))) v (f : Int)) (N := (g 2).toNat) (fun f hf ih J1 fr hnt => hZ _ _ _ _ _ ?_) (fun J1 fr hnt => hZ _ _ _ _ _ ?_) J (fun _ _ => rfl) (fun f' hf' => ?_)
    · rw [fr h (by omega), hrJ.1.2.2.1]
      simp only [Int.toNat_natCast]
      have cl := cntF_le (nB T f) n
      have ef := hnt f (by omega)
      rw [if_pos (by omega), if_neg (c := f < f ∧ bt v f = true) (by omega), Int.add_zero] at ef
      rw [show J1 (84 + 2) f = _ from ef]
      refine ⟨fun c => by omega, fun _ => p_hasZ ⟨by omega, by omega⟩ (by omega) ⟨fun c => ⟨⟨by omega, by omega⟩, ?_⟩, fun c => ⟨⟨by omega, by omega⟩, ⟨by omega, by omega⟩, ⟨by omega, by omega⟩, ?_⟩⟩⟩
      · rintro _ rfl
        refine ih J1 fr (fun f' hf' => ?_)
        rw [hnt f' hf']
        by_cases e : f' = f
        · subst e
          rw [if_neg (c := f' < f' ∧ bt v f' = true) (by omega), if_neg (c := f' < f' + 1 ∧ bt v f' = true) (by rw [c]; exact fun c2 => Bool.noConfusion c2.2)]
        · by_cases b2 : f' < f ∧ bt v f' = true
          · rw [if_pos b2, if_pos (c := f' < f + 1 ∧ bt v f' = true) ⟨by omega, b2.2⟩]
          · rw [if_neg b2, if_neg (c := f' < f + 1 ∧ bt v f' = true) (fun c2 => b2 ⟨by omega, c2.2⟩)]
      · rintro J2 rfl
        refine ⟨⟨by omega, by omega⟩, ?_⟩
        rintro _ rfl
        refine ih _ (fun c hc => by rw [up2_n _ _ _ hc]; exact fr c hc) (fun f' hf' => ?_)
        show up2 J1 (84 + 2) f _ (84 + 2) f' = _
        rw [up2_s]
        by_cases e : f' = f
        · subst e
          rw [up1_s, if_pos (by omega), if_pos (c := f' < f' + 1 ∧ bt v f' = true) ⟨by omega, c⟩]
        · rw [up1_n _ _ e]
          show J1 86 f' = _
          rw [hnt f' hf']
          by_cases b2 : f' < f ∧ bt v f' = true
          · rw [if_pos b2, if_pos (c := f' < f + 1 ∧ bt v f' = true) ⟨by omega, b2.2⟩]
          · rw [if_neg b2, if_neg (c := f' < f + 1 ∧ bt v f' = true) (fun c2 => b2 ⟨by omega, c2.2⟩)]
    · rw [fr h (by omega), hrJ.1.2.2.1]
      refine ⟨fun _ => ?_, fun c => by omega⟩
      unfold v_X1_addTread_131
      rw [Int.toNat_natCast]
      refine ⟨⟨by omega, by omega⟩, ?_⟩
      rintro J2 rfl
      refine ⟨⟨by omega, by omega⟩, ?_⟩
      rintro J3 rfl
      have e0 : up2 (up2 J1 (84 + 3) s (t : Int)) (84 + 4) s (gLoud g p s (gShoe g p (t : Int))) 84 = J 84 := by rw [up2_n _ _ _ (by decide), up2_n _ _ _ (by decide), fr 84 (by decide)]
      rw [e0, c0]
      refine ⟨⟨by omega, by omega⟩, ?_⟩
      rintro J4 rfl
      refine hq _ ⟨?_, ?_, fun i hi => ?_, fun f hf => ?_, fun s' hs' => ?_, fun s' hs' hl => ?_, fun c hc => ?_⟩
      · rw [up2_s, up1_s]; rfl
      · rw [up2_s, up1_n _ _ (by decide), e0]; exact c3
      · rw [up2_n _ _ _ (by decide), up2_n _ _ _ (by decide), up2_n _ _ _ (by decide), fr 85 (by decide)]; exact c1 i hi
      · rw [up2_n _ _ _ (by decide), up2_n _ _ _ (by decide), up2_n _ _ _ (by decide), hnt f hf]
        by_cases b1 : (f : Int) < g 2
        · rw [if_pos b1, if_pos b1]
          show _ = ((cntF (nB (adF T n _) f) (n + 1) : Nat) : Int)
          rw [cntF, nbo, nbn]
          by_cases b2 : bt v f = true
          · rw [if_pos b2, if_pos (c := f < (g 2).toNat ∧ bt v f = true) ⟨by omega, b2⟩]; omega
          · rw [if_neg b2, if_neg (c := f < (g 2).toNat ∧ bt v f = true) (fun c => b2 c.2)]; omega
        · rw [if_neg b1, if_neg b1]
      · have l1 : latF (adF T n (trF (gQ g) (g 1) T n p s (t : Int)) 1) (s' : Int) (n + 1) = if s' = s then (n : Int) else latF (T 1) (s' : Int) n := by
          rw [latF, adF_new, latF_cong n (fun k hk => adF_old hk)]
          show (if (s : Int) = (s' : Int) then _ else _) = _
          by_cases e : s' = s
          · rw [if_pos e, if_pos (by omega)]
          · rw [if_neg e, if_neg (by omega)]
        have lr' := latF_rng (T 1) (s' : Int) n
        show up2 _ 84 0 _ 87 s' = if latF (adF T n _ 1) (s' : Int) (n + 1) = -1 then -1 else adF T n _ 2 (latF (adF T n _ 1) (s' : Int) (n + 1)).toNat
        rw [l1, up2_n _ _ _ (by decide), up2_n _ _ _ (by decide)]
        show up2 J1 (84 + 3) s (t : Int) (84 + 3) s' = _
        rw [up2_s]
        by_cases e : s' = s
        · rw [e, up1_s, if_pos rfl, if_neg (by omega), Int.toNat_natCast, adF_new]; rfl
        · rw [up1_n _ _ e, if_neg e]
          show J1 87 s' = _
          rw [fr 87 (by decide), show J 87 s' = _ from c4 s' hs']
          by_cases e2 : latF (T 1) (s' : Int) n = -1
          · rw [if_pos e2, if_pos e2]
          · rw [if_neg e2, if_neg e2, adF_old (by omega)]
      · have l1 : latF (adF T n (trF (gQ g) (g 1) T n p s (t : Int)) 1) (s' : Int) (n + 1) = if s' = s then (n : Int) else latF (T 1) (s' : Int) n := by
          rw [latF, adF_new, latF_cong n (fun k hk => adF_old hk)]
          show (if (s : Int) = (s' : Int) then _ else _) = _
          by_cases e : s' = s
          · rw [if_pos e, if_pos (by omega)]
          · rw [if_neg e, if_neg (by omega)]
        have lr' := latF_rng (T 1) (s' : Int) n
        change latF (adF T n _ 1) (s' : Int) (n + 1) ≠ -1 at hl
        show up2 _ 84 0 _ 88 s' = adF T n _ 4 (latF (adF T n _ 1) (s' : Int) (n + 1)).toNat
        rw [l1] at hl ⊢
        rw [up2_n _ _ _ (by decide)]
        show up2 _ (84 + 4) s _ (84 + 4) s' = _
        rw [up2_s]
        by_cases e : s' = s
        · rw [e, up1_s, if_pos rfl, Int.toNat_natCast, adF_new]; rfl
        · rw [if_neg e] at hl
          rw [up1_n _ _ e, if_neg e, adF_old (by omega), up2_n _ _ _ (by decide)]
          show J1 88 s' = _
          rw [fr 88 (by decide)]; exact c5 s' hs' hl
      · rw [up2_n _ _ _ (by omega), up2_n _ _ _ (by omega), up2_n _ _ _ (by omega), fr c (by omega)]; exact cf c hc
    · rw [if_neg (c := f' < 0 ∧ bt v f' = true) (by omega), show J 86 f' = _ from c2 f' hf']
      by_cases b1 : (f' : Int) < g 2
      · rw [if_pos b1, if_pos b1, Int.add_zero]
      · rw [if_neg b1, if_neg b1]
  have t6 : trF (gQ g) (g 1) T n p s (t : Int) 6 = ((gEars g (gLoud g p s (gShoe g p (t : Int))) (s : Int) : Nat) : Int) := rfl
  have none : latF (T 1) (s : Int) n = -1 ∨ ¬ (t : Int) - T 2 (latF (T 1) (s : Int) n).toNat ≤ g 1 → oZ (trF (gQ g) (g 1) T n p s (t : Int) 6) (trF (gQ g) (g 1) T n p s (t : Int) 7) = ((gEars g (gLoud g p s (gShoe g p (t : Int))) (s : Int) : Nat) : Int) := fun c => by
    rw [trF_7, t6]
    unfold echoF
    rw [if_neg (c := latF (T 1) (s : Int) n ≠ -1 ∧ (t : Int) - T 2 (latF (T 1) (s : Int) n).toNat ≤ g 1) (fun c2 => by rcases c with c | c; exact c2.1 c; exact c c2.2), if_pos rfl]
    unfold oZ; rw [Int.toNat_natCast]; simp
  by_cases cl : latF (T 1) (s : Int) n = -1
  · rw [if_pos cl]
    exact ⟨⟨by omega, by omega⟩, fun _ => fin _ (none (Or.inl cl)).symm ⟨by omega, by omega⟩, fun c => absurd rfl c⟩
  · rw [if_neg cl]
    obtain ⟨_, _, t2, _, t4, _⟩ := hV (latF (T 1) (s : Int) n).toNat (by omega)
    refine ⟨⟨by omega, by omega⟩, fun c => by omega, fun _ => ⟨⟨by omega, by omega⟩, ⟨by omega, by omega⟩, fun c => fin _ (none (Or.inr (by omega))).symm ⟨by omega, by omega⟩, fun c => ⟨⟨by omega, by omega⟩, ?_⟩⟩⟩
    rw [show J (84 + 4) s = _ from c5 s (by omega) cl, divZ_two (by omega)]
    have g2 := gEars_lt hv (T 4 (latF (T 1) (s : Int) n).toNat / 2) (s : Int)
    refine x_hearersI hv hTJ hs ⟨by omega, by omega⟩ ?_
    rintro _ rfl
    rw [orZ_Z ⟨by omega, by omega⟩ ⟨by omega, by omega⟩]
    have ev : oZ (trF (gQ g) (g 1) T n p s (t : Int) 6) (trF (gQ g) (g 1) T n p s (t : Int) 7) = oZ ((gEars g (gLoud g p s (gShoe g p (t : Int))) (s : Int) : Nat) : Int) ((gEars g (T 4 (latF (T 1) (s : Int) n).toNat / 2) (s : Int) : Nat) : Int) := by
      rw [trF_7, t6]
      unfold echoF
      rw [if_pos (c := latF (T 1) (s : Int) n ≠ -1 ∧ (t : Int) - T 2 (latF (T 1) (s : Int) n).toNat ≤ g 1) ⟨cl, by omega⟩, if_neg cl]
      rfl
    exact fin _ ev.symm (oZ_lt ⟨by omega, by omega⟩ ⟨by omega, by omega⟩)
theorem nx_up {on rise m : Int} (h1 : 0 ≤ on ∧ on < m) (h3 : 1 ≤ rise) : minZ (m - 1) (on + rise) = nxF on (m - 1) rise := by
  unfold nxF minZ maxZ; (repeat' split) <;> omega
theorem nx_dn {on rise : Int} (h1 : 0 ≤ on) (h3 : 1 ≤ rise) : maxZ 0 (on - rise) = nxF on 0 rise := by
  unfold nxF minZ maxZ; (repeat' split) <;> omega
theorem x_play {nx : Int → Int} {rm : Int → Int → Int} (hnx : ∀ x, addW (mulW x 1103515245) 12345 = nx x) (hrm : ∀ x m, remZ (ushrZ x 16) m = rm x m) {J : mJ} {e h : Nat} {g : Nat → Int} {ch x : Int} (hv : HV g) (hr : HR J h g) (hh : h ≤ 40) (he : 90 ≤ e) (hT : EarT J e g) {post' : mJ → Prop} (hq : ∀ J1, CD J J1 g (dRun nx rm g ch x 60) → post' J1) : v_X1_play J 84 e h x ch post' := by
  have h0 := hv.1
  have h2 := hv.2.2.1
  have h3 := hv.2.2.2.1
  unfold v_X1_play
  rintro J1 rfl
  rintro J2 rfl
  refine p_fill (by decide) (p_fill (by decide) (p_fill (by decide) ?_))
  unfold v_X1_play_37
  intro ZZ hZ
  refine lpN (S := fun t => ∀ J1, CD J J1 g (dRun nx rm g ch x t) → ZZ J1 (t : Int)) (N := 60) (fun t ht ih J1 hC => hZ _ _ ⟨fun c => by omega, fun _ => ?_⟩) (fun J1 hC => hZ _ _ ⟨fun _ => hq J1 hC, fun c => absurd (Int.le_refl _) c⟩) _ ?_
  · unfold v_X1_play_47
    intro Z2 hZ2
    refine lpN (S := fun p => ∀ J1, CD J J1 g (dRow nx rm g ch t (dRun nx rm g ch x t) p) → Z2 J1 (t : Int) (p : Int)) (N := (g 3).toNat) (fun p hp ih2 J1 hC => hZ2 _ _ _ ?_) (fun J1 hC => hZ2 _ _ _ ?_) J1 hC
    · have dv := dRow_V (nx := nx) (rm := rm) hv (ch := ch) (t := t) (by omega) (dRun_V (nx := nx) (rm := rm) hv (ch := ch) (x := x) t (by omega)) p (by omega)
      rw [dRow] at ih2
      generalize dRow nx rm g ch t (dRun nx rm g ch x t) p = st at ih2 hC dv
      obtain ⟨va, vb, vc⟩ := dv
      have hp3 : (p : Int) < g 3 := by omega
      obtain ⟨_, _, h43, _⟩ := hv.2.2.2.2.2.2.2.1 p hp3
      obtain ⟨c0, c3, c1, c2, c4, c5, cf⟩ := hC
      rw [cf h (by omega), hr.1.2.2.2.1]
      unfold dSt at ih2
      rw [if_neg (by omega)] at ih2
      refine ⟨fun c => by omega, fun _ => ?_⟩
      rintro J2 rfl
      have e3 : up2 J1 84 3 (addW (mulW (J1 84 3) 1103515245) 12345) 84 3 = nx st.1 := by rw [up2_s, up1_s, c3, hnx]
      have e0 : up2 J1 84 3 (addW (mulW (J1 84 3) 1103515245) 12345) 84 0 = (st.2.2.1 : Int) := by rw [up2_s, up1_n _ _ (by decide)]; exact c0
      have o1 : ∀ c, c ≠ 84 → up2 J1 84 3 (addW (mulW (J1 84 3) 1103515245) 12345) c = J1 c := fun c hc => up2_n _ _ _ hc
      rw [e3]
      generalize up2 J1 84 3 (addW (mulW (J1 84 3) 1103515245) 12345) = J2 at e3 e0 o1
      have C2 : CD J J2 g (nx st.1, st.2) := ⟨e0, e3, fun i hi => by rw [o1 85 (by decide)]; exact c1 i hi, fun f hf => by rw [o1 86 (by decide)]; exact c2 f hf, fun s hs => by rw [o1 87 (by decide)]; exact c4 s hs, fun s hs hl => by rw [o1 88 (by decide)]; exact c5 s hs hl, fun c hc => by rw [o1 c (by omega)]; exact cf c hc⟩
      refine ⟨fun c => absurd c (by decide), fun _ => ⟨by decide, ?_⟩⟩
      change (ch ≤ remZ (ushrZ (nx st.1) 16) 100 → _) ∧ (¬ ch ≤ remZ (ushrZ (nx st.1) 16) 100 → _)
      rw [hrm]
      refine ⟨fun c => ⟨⟨by omega, by omega⟩, ?_⟩, fun c => ⟨⟨by omega, by omega⟩, ?_⟩⟩
      · rintro _ rfl
        rw [if_pos c] at ih2
        exact ih2 J2 C2
      · rw [if_neg c] at ih2
        rw [Int.toNat_natCast]
        rw [show J2 (84 + 1) p = st.2.1 p by rw [show J2 (84 + 1) = J1 (84 + 1) from o1 _ (by decide)]; exact c1 p hp3]
        rintro _ rfl
        rintro J3 rfl
        have f3 : up2 J2 84 3 (addW (mulW (J2 84 3) 1103515245) 12345) 84 3 = nx (nx st.1) := by rw [up2_s, up1_s, e3, hnx]
        have f0 : up2 J2 84 3 (addW (mulW (J2 84 3) 1103515245) 12345) 84 0 = (st.2.2.1 : Int) := by rw [up2_s, up1_n _ _ (by decide)]; exact e0
        have o2 : ∀ c, c ≠ 84 → up2 J2 84 3 (addW (mulW (J2 84 3) 1103515245) 12345) c = J2 c := fun c hc => up2_n _ _ _ hc
        rw [f3]
        generalize up2 J2 84 3 (addW (mulW (J2 84 3) 1103515245) 12345) = J3 at f3 f0 o2
        have C3 : CD J J3 g (nx (nx st.1), st.2) := by
          obtain ⟨_, _, d1, d2, d4, d5, df⟩ := C2
          exact ⟨f0, f3, fun i hi => by rw [o2 85 (by decide)]; exact d1 i hi, fun f hf => by rw [o2 86 (by decide)]; exact d2 f hf, fun s hs => by rw [o2 87 (by decide)]; exact d4 s hs, fun s hs hl => by rw [o2 88 (by decide)]; exact d5 s hs hl, fun c hc => by rw [o2 c (by omega)]; exact df c hc⟩
        have hr3 : HR J3 h g := HR_frame (fun q hq => C3.2.2.2.2.2.2 _ (by omega)) hr
        obtain ⟨_, _, r6, _⟩ := hr3.2.2.2.1 p hp3
        have ro := va p
        have rt := toW_rng (rm := rm) hv hp3 (x := nx (nx st.1)) ro
        have fin : v_X1_goes_52 84 h (p : Int) (fun b12 J13 => (b12 = false → ir ((p : Int) + 1) ∧ ∀ y15, y15 = (p : Int) + 1 → Z2 J13 (t : Int) y15) ∧ (b12 = true → v_X1_addTread J13 84 e h (p : Int) (t : Int) (fun J16 => ir ((p : Int) + 1) ∧ ∀ y18, y18 = (p : Int) + 1 → Z2 J16 (t : Int) y18))) J3 (st.2.1 p) (p : Int) (toW rm g p (nx (nx st.1)) (st.2.1 p)) := by
          unfold v_X1_goes_52
          rw [Int.toNat_natCast]
          refine ⟨⟨by omega, by omega⟩, ?_⟩
          rintro J4 rfl
          have q1 : up2 J3 (84 + 1) p (toW rm g p (nx (nx st.1)) (st.2.1 p)) (84 + 1) p = toW rm g p (nx (nx st.1)) (st.2.1 p) := by rw [up2_s, up1_s]
          rw [q1]
          have C4 : CD J (up2 J3 (84 + 1) p (toW rm g p (nx (nx st.1)) (st.2.1 p))) g (nx (nx st.1), up1 st.2.1 p (toW rm g p (nx (nx st.1)) (st.2.1 p)), st.2.2) := by
            obtain ⟨d0, d3, d1, d2, d4, d5, df⟩ := C3
            refine ⟨by rw [up2_n _ _ _ (by decide)]; exact d0, by rw [up2_n _ _ _ (by decide)]; exact d3, fun i hi => ?_, fun f hf => by rw [up2_n _ _ _ (by decide)]; exact d2 f hf, fun s hs => by rw [up2_n _ _ _ (by decide)]; exact d4 s hs, fun s hs hl => by rw [up2_n _ _ _ (by decide)]; exact d5 s hs hl, fun c hc => by rw [up2_n _ _ _ (by omega)]; exact df c hc⟩
            show up2 J3 (84 + 1) p _ (84 + 1) i = up1 st.2.1 p _ i
            rw [up2_s]
            by_cases e : i = p
            · rw [e, up1_s, up1_s]
            · rw [up1_n _ _ e, up1_n _ _ e]; exact d1 i hi
          refine ⟨⟨by omega, by omega⟩, fun c3 => ⟨fun _ => ⟨⟨by omega, by omega⟩, ?_⟩, fun c2 => Bool.noConfusion c2⟩, fun c3 => ⟨fun c2 => Bool.noConfusion c2, fun _ => ?_⟩⟩
          · rintro _ rfl
            rw [if_pos c3] at ih2
            refine ih2 _ ?_
            rw [c3] at C4 ⊢
            rw [up1_self rfl] at C4; exact C4
          · rw [if_neg c3] at ih2
            obtain ⟨s, es⟩ : ∃ s : Nat, toW rm g p (nx (nx st.1)) (st.2.1 p) = (s : Int) := ⟨(toW rm g p (nx (nx st.1)) (st.2.1 p)).toNat, by omega⟩
            rw [es] at C4 ih2 ⊢
            rw [Int.toNat_natCast] at ih2
            refine x_dAdd (s := s) (m := t * 6 + p) hv hr hh he hT C4 vb vc (by omega) hp3 (by rw [up1_s]) (by omega) ht (fun J5 C5 => ⟨⟨by omega, by omega⟩, ?_⟩)
            rintro _ rfl
            exact ih2 J5 C5
        unfold toW at fin
        refine ⟨fun c => absurd c (by decide), fun _ => ⟨by decide, ?_⟩⟩
        change (¬ remZ (ushrZ (nx (nx st.1)) 16) 2 = 0 → _) ∧ (remZ (ushrZ (nx (nx st.1)) 16) 2 = 0 → _)
        rw [hrm]
        refine ⟨fun c4 => ?_, fun c4 => ?_⟩
        · rw [if_neg c4] at fin
          rw [r6, nx_dn ro.1 h43.1]
          exact ⟨⟨by omega, by omega⟩, ⟨by omega, by omega⟩, fin⟩
        · rw [if_pos c4] at fin
          rw [r6, hr3.1.1, nx_up ro h43.1]
          exact ⟨⟨by omega, by omega⟩, ⟨by omega, by omega⟩, ⟨by omega, by omega⟩, fin⟩
    · rw [hC.2.2.2.2.2.2 h (by omega), hr.1.2.2.2.1]
      refine ⟨fun _ => ⟨⟨by omega, by omega⟩, ?_⟩, fun c => by omega⟩
      rintro _ rfl
      exact ih J1 hC
  · refine ⟨?_, ?_, fun i hi => ?_, fun f hf => ?_, fun s hs => ?_, fun s hs hl => absurd rfl hl, fun c hc => ?_⟩
    · rw [fillZ_n (by decide), fillZ_n (by decide), fillZ_n (by decide), up2_s, up1_s]; rfl
    · rw [fillZ_n (by decide), fillZ_n (by decide), fillZ_n (by decide), up2_s, up1_n _ _ (by decide), up2_s, up1_s]; rfl
    · rw [fillZ_n (by decide), fillZ_n (by decide)]; exact fillZ_s (by omega)
    · rw [fillZ_n (by decide), show fillZ (fillZ (up2 (up2 J 84 3 x) 84 0 0) (84 + 1) 6 0) (84 + 2) 6 0 86 f = 0 from fillZ_s hf]
      show (0 : Int) = if (f : Int) < g 2 then ((0 : Nat) : Int) else 0
      split <;> rfl
    · show fillZ _ (84 + 3) 24 (-1) (84 + 3) s = -1
      exact fillZ_s hs
    · rw [fillZ_n (by omega), fillZ_n (by omega), fillZ_n (by omega), up2_n _ _ _ (by omega), up2_n _ _ _ (by omega)]
def nxW (x : Int) : Int := addW (mulW x 1103515245) 12345
def rmW (x m : Int) : Int := remZ (ushrZ x 16) m
def bDrawn (g : Nat → Int) (st : Ds) (w : Int) : Int := if w = 0 then (st.2.2.1 : Int) else if w = 1 then ((allN st.2.2.1 st.2.2.2 (g 2).toNat : Nat) : Int) else if 10 ≤ w ∧ w < 10 + g 3 then st.2.1 (w - 10).toNat else if 20 ≤ w ∧ w < 20 + g 2 then ((cntF (nB st.2.2.2 (w - 20).toNat) st.2.2.1 : Nat) : Int) else -1
def aDrawn (A : Nat → Int) (a1 a2 a3 a4 : Int) : Int := if (0 ≤ a1 ∧ a1 < A 0) ∧ 0 ≤ a3 ∧ a3 ≤ 100 then bDrawn (gH A a1.toNat) (dRun nxW rmW (gH A a1.toNat) a3 a2 60) a4 else -1
theorem sumF_tail {f : Nat → Nat} {a b : Nat} (h : ∀ k, a ≤ k → k < a + b → f k = 0) : sumF f (a + b) = sumF f a := by
  induction b with
  | zero => rfl
  | succ b ih => rw [← Nat.add_assoc, sumF, ih (fun k h1 h2 => h k h1 (by omega)), h (a + b) (by omega) (by omega), Nat.add_zero]
theorem sumF_cong {f f' : Nat → Nat} : ∀ n, (∀ k, k < n → f k = f' k) → sumF f n = sumF f' n
  | 0, _ => rfl
  | n + 1, h => by rw [sumF, sumF, sumF_cong n (fun k hk => h k (by omega)), h n (by omega)]
theorem x_drawn {J : mJ} {a1 a2 a3 a4 : Int} (hI : TI J 1 (J 129)) (hE : InvE J) (hw : ir a4) {post' : Int → mJ → Prop} (hq : ∀ J1, XF J J1 → InvE J1 → post' (aDrawn (J 129) a1 a2 a3 a4) J1) : v_X11_drawn J a1 a2 a3 a4 post' := by
  unfold v_X11_drawn
  refine x_eveningAt hI hE (fun c => ⟨fun _ => lf (hq J XF_refl hE) ?_, fun q c2 => (by cases c2)⟩) (fun k J1 ek hk hk2 hv hr hO hX hE1 => ⟨fun c2 => (by cases c2), fun q eq => ?_⟩)
  · unfold aDrawn; rw [if_neg (fun c2 => c c2.1)]
  · cases eq
    have h1 := hq J1 (XE_XF hX) hE1
    subst ek
    unfold aDrawn at h1 hq
    rw [Int.toNat_natCast] at h1 hq
    rw [hE_k]
    generalize gH (J 129) k = g at hv hr hO h1 hq
    have h2 := hv.2.2.1
    have h3 := hv.2.2.2.1
    refine ⟨fun c => ?_, fun c => ⟨fun c2 => x_play (nx := nxW) (rm := rmW) (fun _ => rfl) (fun _ _ => rfl) hv hr (by omega) (by omega) hO.2.1 (fun J2 hC => ?_), fun c2 => ?_⟩⟩
    · rw [if_neg (by omega)] at h1; exact h1
    · have hV := dRun_V (nx := nxW) (rm := rmW) hv (ch := a3) (x := a2) 60 (by decide)
      have h := hq J2 (fun c hc => by rw [hC.2.2.2.2.2.2 c (by omega)]; exact hX c (by omega)) (by
        intro k' hk' hf' hk0
        rw [hC.2.2.2.2.2.2 129 (by omega)] at hk0 ⊢
        rw [hC.2.2.2.2.2.2 (94 + 17 * k') (by omega)] at hf'
        exact EvO_frame (fun i hi => hC.2.2.2.2.2.2 _ (by omega)) (hE1 k' hk' hf' hk0))
      rw [if_pos ⟨⟨by omega, hk⟩, ⟨by omega, by omega⟩⟩] at h
      generalize dRun nxW rmW g a3 a2 60 = st at hC h hV
      obtain ⟨c0, c3, c1, c2', c4, c5, cf⟩ := hC
      have s1 := subW_far (b := 10) hw (by decide)
      have s2 := subW_far (b := 20) hw (by decide)
      rw [cf (5 + 19 * k) (by omega), hr.1.2.2.2.1, hr.1.2.2.1]
      refine ⟨fun e0 => ⟨fun e1 => ⟨fun e2 => p_X11_pick (by decide) (lf h ?_), fun e2 => p_X11_pick (by decide) (lf h ?_)⟩, fun e1 => ?_⟩, fun e0 => lf h ?_⟩
      · unfold bDrawn
        rw [if_neg (c := a4 = 0) e0, if_neg (c := a4 = 1) e1]
        by_cases d : 10 ≤ a4 ∧ a4 < 10 + g 3
        · rw [if_pos ⟨by omega, by omega, by omega⟩, if_pos d, show (subW a4 10).toNat = (a4 - 10).toNat by omega]
          exact c1 _ (by omega)
        · rw [if_neg (by omega), if_neg d, if_neg (by omega)]
      · unfold bDrawn
        rw [if_neg (c := a4 = 0) e0, if_neg (c := a4 = 1) e1, if_neg (c := 10 ≤ a4 ∧ a4 < 10 + g 3) (by omega)]
        by_cases d : 20 ≤ a4 ∧ a4 < 20 + g 2
        · rw [if_pos ⟨by omega, by omega, by omega⟩, if_pos d, show (subW a4 20).toNat = (a4 - 20).toNat by omega, show J2 86 (a4 - 20).toNat = _ from c2' _ (by omega), if_pos (by omega)]
        · rw [if_neg (by omega), if_neg d]
      · unfold v_X1_allNotes v_X1_allNotes_4
        intro ZZ hZ
        have hcl := fun f => cntF_le (nB st.2.2.2 f) st.2.2.1
        have hn := hV.2.2
        have e6 : sumF (fun f => if (f : Int) < g 2 then cntF (nB st.2.2.2 f) st.2.2.1 else 0) 6 = allN st.2.2.1 st.2.2.2 (g 2).toNat := by
          rw [show 6 = (g 2).toNat + (6 - (g 2).toNat) by omega, sumF_tail (fun k h1 h2 => if_neg (by omega))]
          exact sumF_cong _ (fun k hk => if_pos (by omega))
        refine lpN (S := fun f => ZZ ((sumF (fun f => if (f : Int) < g 2 then cntF (nB st.2.2.2 f) st.2.2.1 else 0) f : Nat) : Int) (f : Int)) (N := 6) (fun f hf ih => hZ _ _ ⟨fun c => by omega, fun _ => ?_⟩) (hZ _ _ ⟨fun _ => ?_, fun c => absurd (Int.le_refl _) c⟩)
        · rw [Int.toNat_natCast, show J2 (84 + 2) f = _ from c2' f hf]
          have s1 := sumF_le (f := fun f => if (f : Int) < g 2 then cntF (nB st.2.2.2 f) st.2.2.1 else 0) (m := 600) f (fun k _ => by have := hcl k; show (if _ then _ else _) ≤ 600; split <;> omega)
          have ef : (if (f : Int) < g 2 then ((cntF (nB st.2.2.2 f) st.2.2.1 : Nat) : Int) else 0) = (((if (f : Int) < g 2 then cntF (nB st.2.2.2 f) st.2.2.1 else 0) : Nat) : Int) := by split <;> rfl
          rw [ef]
          have hle : (if (f : Int) < g 2 then cntF (nB st.2.2.2 f) st.2.2.1 else 0) ≤ 600 := by have := hcl f; split <;> omega
          rw [sumF] at ih
          generalize (if (f : Int) < g 2 then cntF (nB st.2.2.2 f) st.2.2.1 else 0) = v at ih hle
          refine ⟨⟨by omega, by omega⟩, ⟨by omega, by omega⟩, ?_⟩
          rintro _ rfl
          refine ⟨⟨by omega, by omega⟩, ?_⟩
          rintro _ rfl
          exact ih
        · rw [e6]
          refine lf h ?_
          unfold bDrawn; rw [if_neg e0, if_pos e1]
      · unfold bDrawn; rw [if_pos e0]; exact c0
    · rw [if_neg (by omega)] at h1; exact h1
theorem m_drawn {J : mJ} {a1 a2 a3 a4 : Int} {t : Nat} (hI : TI J t (J 129)) (hU : UV (J 128)) (hw : ir a4) {post' : Int → mJ → Prop} (hq : ∀ J1, MF J J1 → post' (aDrawn (J 129) a1 a2 a3 a4) J1) : v_X12_drawn J 128 a1 a2 a3 a4 post' := by
  unfold v_X12_drawn
  refine n_isHouse hI hU (fun c => ⟨fun _ => lf (hq J (MF_refl hU)) ?_, fun c2 => Bool.noConfusion c2⟩) (fun k J1 ek hk hk2 hM hp f1 f2 => ⟨fun c2 => Bool.noConfusion c2, fun _ => n_isIn (fun c => ⟨fun _ => lf (hq J1 (MF_one f1 (UV_of hM))) ?_, fun c2 => Bool.noConfusion c2⟩) (fun c => ⟨fun c2 => Bool.noConfusion c2, fun _ => ?_⟩)⟩)
  · unfold aDrawn; rw [if_neg (fun c2 => c c2.1)]
  · unfold aDrawn; rw [if_neg (fun c2 => c c2.2)]
  · have h1 := hq J1 (MF_one f1 (UV_of hM))
    subst ek
    unfold aDrawn at h1 hq
    rw [Int.toNat_natCast] at h1 hq
    rw [if_pos ⟨⟨by omega, hk⟩, c⟩] at h1 hq
    have hv := hM.2.2.2.1
    generalize gH (J 129) k = g at hM hv h1 hq
    have h2 := hv.2.2.1
    have h3 := hv.2.2.2.1
    have s1 := subW_far (b := 10) hw (by decide)
    have s2 := subW_far (b := 20) hw (by decide)
    have go : (a4 = 0 ∨ a4 = 1 ∨ (10 ≤ a4 ∧ a4 < 10 + g 3) ∨ (20 ≤ a4 ∧ a4 < 20 + g 2)) → v_X12_drawn_54 128 (k : Int) a2 a3 a4 post' J1 := by
      intro ca
      unfold v_X12_drawn_54
      rintro J7 rfl
      rintro J8 rfl
      rintro J9 rfl
      have k9 : ∀ i, i ≠ 22 → i ≠ 23 → i ≠ 24 → up2 (up2 (up2 J1 128 22 1) 128 23 a2) 128 24 a3 128 i = J1 128 i := fun i x1 x2 x3 => by rw [up2_s, up1_n _ _ x3, up2_s, up1_n _ _ x2, up2_s, up1_n _ _ x1]
      have o9 : ∀ c, c ≠ 128 → up2 (up2 (up2 J1 128 22 1) 128 23 a2) 128 24 a3 c = J1 c := fun c hc => by rw [up2_n _ _ _ hc, up2_n _ _ _ hc, up2_n _ _ _ hc]
      have q22 : up2 (up2 (up2 J1 128 22 1) 128 23 a2) 128 24 a3 128 22 = 1 := by rw [up2_s, up1_n _ _ (by decide), up2_s, up1_n _ _ (by decide), up2_s, up1_s]
      have q23 : up2 (up2 (up2 J1 128 22 1) 128 23 a2) 128 24 a3 128 23 = a2 := by rw [up2_s, up1_n _ _ (by decide), up2_s, up1_s]
      have q24 : up2 (up2 (up2 J1 128 22 1) 128 23 a2) 128 24 a3 128 24 = a3 := by rw [up2_s, up1_s]
      generalize up2 (up2 (up2 J1 128 22 1) 128 23 a2) 128 24 a3 = J9 at k9 o9 q22 q23 q24
      have hM9 : MH J9 (610 + 149 * k) g (J9 128) := by
        obtain ⟨m1, m2, m3, m4, m5, m6⟩ := hM
        refine ⟨by rw [k9 12 (by decide) (by decide) (by decide)]; exact m1, m2, ?_, m4, ?_, fun _ _ _ _ => rfl⟩
        · unfold gB at m3 ⊢; rw [o9 129 (by decide)]; exact m3
        · unfold UV at m5 ⊢; rw [k9 19 (by decide) (by decide) (by decide), k9 21 (by decide) (by decide) (by decide)]; exact m5
      refine m_drawnRuns (nx := nxW) (rm := rmW) (fun _ => rfl) (fun _ _ => rfl) hM9 (by rw [k9 13 (by decide) (by decide) (by decide)]; exact hp.1) (by rw [k9 18 (by decide) (by decide) (by decide)]; exact hp.2.2.2.1) (by rw [k9 20 (by decide) (by decide) (by decide)]; exact hp.2.2.2.2.1) q24 q22 q23 (fun J2 hD => ?_)
      have hV := dRun_V (nx := nxW) (rm := rmW) hv (ch := a3) (x := a2) 60 (by decide)
      have h := hq J2 ⟨fun c hc => by rw [hD.2.2.2.2 c (by omega) (by omega), o9 c (by omega), f1 c (by omega)], UV_of hD.1⟩
      generalize dRun nxW rmW g a3 a2 60 = st at hD h hV
      obtain ⟨hM2, hR, h23, hon, hf⟩ := hD
      unfold bDrawn at h
      refine ⟨fun e => ⟨fun e2 => ?_, fun e2 => ⟨by omega, lf h ?_⟩⟩, fun e => ⟨fun e2 => ?_, fun e2 => lf h ?_⟩⟩
      · obtain ⟨f, ef⟩ : ∃ f : Nat, subW a4 20 = (f : Int) := ⟨(subW a4 20).toNat, by omega⟩
        rw [ef]
        refine m_notesOf hV.2.1 hR (by have := hV.2.2; omega) (by omega) (lf h ?_)
        rw [if_neg (c := a4 = 0) (by omega), if_neg (c := a4 = 1) (by omega), if_neg (c := 10 ≤ a4 ∧ a4 < 10 + g 3) (by omega), if_pos (by omega), show (a4 - 20).toNat = f by omega]
      · rw [if_neg (c := a4 = 0) (by omega), if_neg (c := a4 = 1) (by omega), if_pos (by omega), show (subW a4 10).toNat = (a4 - 10).toNat by omega]
        exact hon _ (by omega)
      · refine m_allNotes hM2 hV.2.1 hR (by have := hV.2.2; omega) (lf h ?_)
        rw [if_neg (c := a4 = 0) (by omega), if_pos (c := a4 = 1) (by omega)]
      · rw [if_pos (c := a4 = 0) e2]; exact hR.1
    refine n_isIn (fun c3 => ⟨fun c2 => Bool.noConfusion c2, fun _ => n_isPerson hM (fun c4 => ⟨fun c2 => Bool.noConfusion c2, fun _ => n_isFlat hM (fun c5 => ⟨fun c2 => Bool.noConfusion c2, fun _ => lf h1 ?_⟩) (fun f ef hf hf6 => ⟨fun _ => go (by omega), fun c2 => Bool.noConfusion c2⟩)⟩) (fun p ep hp3 hp6 => ⟨fun _ => go (by omega), fun c2 => Bool.noConfusion c2⟩)⟩) (fun c3 => ⟨fun _ => go (by omega), fun c2 => Bool.noConfusion c2⟩)
    unfold bDrawn
    rw [if_neg (c := a4 = 0) (by omega), if_neg (c := a4 = 1) (by omega), if_neg (c := 10 ≤ a4 ∧ a4 < 10 + g 3) (by omega), if_neg (by omega)]
