/-! the reference's runs -/
/-- goF of a person of the house g who begins at be -/
def gGoB (g : Nat → Int) (be : Int) (p : Nat) (t on : Int) (k : Nat) : Bool × Int × Nat := goF (fun q => g (47 + 14 * p + q)) (g (46 + 14 * p)).toNat be (g (45 + 14 * p)) (g (43 + 14 * p)) t on k
theorem gGoB_k {g : Nat → Int} {p k : Nat} {be t on : Int} (hk : (k : Int) ≤ g (46 + 14 * p)) : ((gGoB g be p t on k).2.2 : Int) ≤ g (46 + 14 * p) := by
  have hor := opF_rng (fun q => g (47 + 14 * p + q)) on ((g (46 + 14 * p)).toNat - k) k
  unfold gGoB goF opG
  split
  · exact hk
  · split
    · exact hk
    · split <;> (show ((opF (fun q => g (47 + 14 * p + q)) on ((g (46 + 14 * p)).toNat - k) k : Nat) : Int) ≤ _; omega)
theorem gGoB_on {g : Nat → Int} (hv : HV g) {p k : Nat} {be t on : Int} (hp : (p : Int) < g 3) (hk : (k : Int) ≤ g (46 + 14 * p)) (ho : 0 < g (46 + 14 * p) → be < t → 0 ≤ on ∧ on < g 0) (ho1 : -1 ≤ on ∧ on < g 0) : (-1 ≤ (gGoB g be p t on k).2.1 ∧ (gGoB g be p t on k).2.1 < g 0) ∧ (0 < g (46 + 14 * p) → be < t + 1 → 0 ≤ (gGoB g be p t on k).2.1) ∧ ((gGoB g be p t on k).1 = true → 0 ≤ (gGoB g be p t on k).2.1) := by
  obtain ⟨-, -, hrise, hbeg, hgoals, hiff, hst, -, hgl⟩ := hv.2.2.2.2.2.2.2.1 p hp
  have hor := opF_rng (fun q => g (47 + 14 * p + q)) on ((g (46 + 14 * p)).toNat - k) k
  unfold gGoB goF opG
  split
  next h1 => exact ⟨ho1, fun a b => by rcases h1 with h1 | h1 <;> omega, fun c => Bool.noConfusion c⟩
  next h1 =>
    split
    next h2 =>
      have := hst (by omega)
      exact ⟨⟨by show -1 ≤ g (45 + 14 * p); omega, this.2⟩, fun _ _ => this.1, fun _ => this.1⟩
    next h2 =>
      have hon := ho (by omega) (by omega)
      split
      next h3 =>
        have hto := hgl _ (show ((opF (fun q => g (47 + 14 * p + q)) on ((g (46 + 14 * p)).toNat - k) k : Nat) : Int) < g (46 + 14 * p) by omega)
        have hn := nxF_rng hon hto (rise := g (43 + 14 * p)) (by omega)
        exact ⟨⟨Int.le_trans (by decide) hn.1, hn.2⟩, fun _ _ => hn.1, fun _ => hn.1⟩
      next h3 => exact ⟨⟨by show -1 ≤ on; omega, hon.2⟩, fun _ _ => hon.1, fun _ => hon.1⟩
theorem mGo_abs {u g : Nat → Int} {p : Nat} {t on : Int} {k : Nat} (h : (p : Int) = u 17) : mGo u g p t on k = (false, on, k) := by unfold mGo; rw [if_pos h]
theorem mGo_not {u g : Nat → Int} {p : Nat} {t on : Int} {k : Nat} (h : (p : Int) ≠ u 17) : mGo u g p t on k = gGoB g (mBeg u g p) p t on k := by unfold mGo gGoB; rw [if_neg h]
/-- one who begins early begins not before minute 0 -/
def UB (u : Nat → Int) : Prop := u 15 = -1 ∨ 0 ≤ u 16
theorem mBeg_rng {u g : Nat → Int} (hv : HV g) (hu : UB u) {p : Nat} (hp : (p : Int) < g 3) (h : 0 < g (46 + 14 * p)) : 0 ≤ mBeg u g p := by
  obtain ⟨-, -, -, hb, hg, hi, -⟩ := hv.2.2.2.2.2.2.2.1 p hp
  unfold mBeg UB at *
  split <;> omega
theorem mGoS_rng {u g : Nat → Int} (hv : HV g) (hu : UB u) {p : Nat} (hp : (p : Int) < g 3) : ∀ t, ((goS (mGo u g) p t).2 : Int) ≤ g (46 + 14 * p) ∧ ((p : Int) ≠ u 17 → 0 < g (46 + 14 * p) → mBeg u g p < (t : Int) → 0 ≤ (goS (mGo u g) p t).1 ∧ (goS (mGo u g) p t).1 < g 0) ∧ (-1 ≤ (goS (mGo u g) p t).1 ∧ (goS (mGo u g) p t).1 < g 0)
  | 0 => by
    have h0 := hv.1
    obtain ⟨-, -, -, hb, hg, hi, -⟩ := hv.2.2.2.2.2.2.2.1 p hp
    refine ⟨by show ((0 : Nat) : Int) ≤ _; omega, fun _ a b => ?_, by show (-1 : Int) ≤ -1; omega, by show (-1 : Int) < _; omega⟩
    have := mBeg_rng hv hu hp a
    exfalso; omega
  | t + 1 => by
    obtain ⟨i1, i2, i3⟩ := mGoS_rng hv hu hp t
    by_cases ha : (p : Int) = u 17
    · rw [goS, mGo_abs ha]
      exact ⟨i1, fun c => absurd ha c, i3⟩
    · rw [goS, mGo_not ha]
      have h := gGoB_on hv hp i1 (i2 ha) i3
      exact ⟨gGoB_k i1, fun _ a b => ⟨h.2.1 a (by omega), h.1.2⟩, h.1⟩
theorem mTrV {u g : Nat → Int} (hv : HV g) (hu : UB u) : TrV g (goT (mGo u g)) := fun p t hp => by
  obtain ⟨i1, i2, i3⟩ := mGoS_rng hv hu hp t
  by_cases ha : (p : Int) = u 17
  · unfold goT
    rw [goS, mGo_abs ha]
    exact ⟨i3, fun c => Bool.noConfusion c⟩
  · unfold goT
    rw [goS, mGo_not ha]
    have h := gGoB_on hv hp i1 (i2 ha) i3
    exact ⟨h.1, h.2.2⟩
def mTs (u g : Nat → Int) (t : Nat) : Ts := runT (goT (mGo u g)) (mQ u g) (g 1) (g 3).toNat t
def mRow (u g : Nat → Int) (t p : Nat) : Ts := rowT (goT (mGo u g)) (mQ u g) (g 1) t (mTs u g t) p
/-- the reference's evening of the house g under the flags u -/
def mRun (u g : Nat → Int) : Ts := mTs u g 100
theorem mTs_TV {u g : Nat → Int} (hv : HV g) (hu : UV u) (hh : UH u) (hb : UB u) {t : Nat} (ht : t ≤ 100) : TV g (mTs u g t).1 (mTs u g t).2 := runT_TV hv.1.2 (mTrV hv hb) (mQ9 hv hu hh) (by have := hv.2.2.2.1; omega) t ht
theorem mRow_TV {u g : Nat → Int} (hv : HV g) (hu : UV u) (hh : UH u) (hb : UB u) {t p : Nat} (ht : t < 100) (hp : (p : Int) ≤ g 3) : TV g (mRow u g t p).1 (mRow u g t p).2 := rowT_TV hv.1.2 (mTrV hv hb) (mQ9 hv hu hh) ht (mTs_TV hv hu hh hb (by omega)) p hp
theorem mTs_le {u g : Nat → Int} (hv : HV g) {t : Nat} : (mTs u g t).1 ≤ t * 6 := by
  have h3 := hv.2.2.2.1
  have := runT_le (tr := goT (mGo u g)) (q := mQ u g) (keep := g 1) (P := (g 3).toNat) t
  have h6 : t * (g 3).toNat ≤ t * 6 := Nat.mul_le_mul (Nat.le_refl _) (by omega)
  unfold mTs; omega
theorem mRow_le {u g : Nat → Int} (hv : HV g) {t p : Nat} : (mRow u g t p).1 ≤ t * 6 + p := by
  have := mTs_le (u := u) hv (t := t)
  have := rowT_le (tr := goT (mGo u g)) (q := mQ u g) (keep := g 1) (t := t) (r := mTs u g t) p
  unfold mRow; omega
theorem mRun_le {u g : Nat → Int} (hv : HV g) : (mRun u g).1 ≤ 600 := mTs_le hv
theorem mRun_TV {u g : Nat → Int} (hv : HV g) (hu : UV u) (hh : UH u) (hb : UB u) : TV g (mRun u g).1 (mRun u g).2 := mTs_TV hv hu hh hb (Nat.le_refl _)
/-- the loop of runs, whatever a step does -/
theorem m_loop {b : Nat} {g u : Nat → Int} (W : mJ → Nat → Nat → Prop) (hM : ∀ J t p, W J t p → MH J b g u) {post' : mJ → Prop}
    (hs : ∀ J t p, W J t p → t < 100 → (p : Int) < g 3 → ∀ k63' : mJ → Int → Int → Prop, (∀ J', W J' t (p + 1) → k63' J' (t : Int) ((p + 1 : Nat) : Int)) → (((J 128 22) = 0 → ((p : Int) = (J 128 17) → (v_X12_runs_101 128 post' k63') J (t : Int) (p : Int)) ∧ (¬ (p : Int) = (J 128 17) → v_X12_walks J 128 (p : Int) (t : Int) (fun J14 => (v_X12_runs_101 128 post' k63') J14 (t : Int) (p : Int)))) ∧ (¬ (J 128 22) = 0 → v_X12_strays J 128 (p : Int) (t : Int) (fun J15 => (v_X12_runs_101 128 post' k63') J15 (t : Int) (p : Int)))))
    (hrow : ∀ J t, W J t (g 3).toNat → W J (t + 1) 0) (hend : ∀ J, W J 100 0 → post' J) : ∀ J1, W J1 0 0 → v_X12_runs_55 128 post' J1 0 := by
  intro J1 w1
  intro ZZ hZ
  have key : ∀ d t : Nat, t + d = 100 → ∀ J', W J' t 0 → ZZ J' (t : Int) := by
    intro d
    induction d with
    | zero =>
      intro t ht J' hw
      have ht : t = 100 := by omega
      subst ht
      apply hZ
      exact ⟨fun _ => hend J' hw, fun c => absurd (by decide) c⟩
    | succ d ih =>
      intro t ht J' hw
      apply hZ
      refine ⟨fun c => by omega, fun _ => ?_⟩
      intro YY hY
      have key2 : ∀ d2 p : Nat, p + d2 = (g 3).toNat → ∀ J', W J' t p → YY J' (t : Int) (p : Int) := by
        intro d2
        induction d2 with
        | zero =>
          intro p hp J' hw
          apply hY
          refine n_people (hM _ _ _ hw) ⟨fun _ => ⟨⟨by omega, by omega⟩, ?_⟩, fun c => absurd (by omega) c⟩
          intro y8 e8
          have e8 : y8 = ((t + 1 : Nat) : Int) := by omega
          subst e8
          have hp : p = (g 3).toNat := by omega
          subst hp
          exact ih (t + 1) (by omega) J' (hrow _ _ hw)
        | succ d2 ih2 =>
          intro p hp J' hw
          apply hY
          refine n_people (hM _ _ _ hw) ⟨fun c => by exfalso; omega, fun _ => ?_⟩
          exact hs J' t p hw (by omega) (by omega) YY (fun J'' hw' => ih2 (p + 1) (by omega) J'' hw')
      exact key2 (g 3).toNat 0 (by have := (hM _ _ _ hw).2.2.2.1.2.2.2.1; omega) J' hw
  exact key 100 0 rfl J1 w1
/-- the beginning of runs -/
theorem m_begin {J : mJ} {b : Nat} {g u : Nat → Int} (h : MH J b g u) {post' : mJ → Prop} (hq : ∀ J1 : mJ, (∀ c, c ≠ 128 → c ≠ 141 → c ≠ 142 → c ≠ 143 → J1 c = J c) → J1 128 = up1 (J 128) 25 0 → (∀ i : Nat, (i : Int) < g 3 → J1 141 i = 0 ∧ J1 142 i = (if u 22 = 0 then -1 else 0) ∧ J1 143 i = -1) → v_X12_runs_55 128 post' J1 0) : v_X12_runs J 128 post' := by
  have h3 := h.2.2.2.1.2.2.2.1
  intro J1 e1
  intro ZZ hZ
  have key : ∀ d p : Nat, p + d = (g 3).toNat → ∀ J', ((∀ c, c ≠ 128 → c ≠ 141 → c ≠ 142 → c ≠ 143 → J' c = J c) ∧ J' 128 = up1 (J 128) 25 0 ∧ (∀ i : Nat, i < p → J' 141 i = 0 ∧ J' 142 i = (if u 22 = 0 then -1 else 0) ∧ J' 143 i = -1)) → ZZ J' (p : Int) := by
    intro d
    induction d with
    | zero =>
      intro p hp J' hw
      have hm : MH J' b g u := MH_frame (hw.1 _ (by decide) (by decide) (by decide) (by decide)) (fun k _ _ _ => by rw [hw.2.1, up1_n _ _ (by omega)]) h
      apply hZ
      refine n_people hm ⟨fun _ => hq J' hw.1 hw.2.1 (fun i hi => hw.2.2 i (by omega)), fun c => absurd (by omega) c⟩
    | succ d ih =>
      intro p hp J' hw
      have hm : MH J' b g u := MH_frame (hw.1 _ (by decide) (by decide) (by decide) (by decide)) (fun k _ _ _ => by rw [hw.2.1, up1_n _ _ (by omega)]) h
      have h22 := hm.2.2.2.2.2 22 (by decide) (by decide) (by decide)
      apply hZ
      refine n_people hm ⟨fun c => by exfalso; omega, fun _ => ⟨⟨by omega, by omega⟩, ?_⟩⟩
      intro J4 e4
      have fin : ∀ x : Int, x = (if u 22 = 0 then -1 else 0) → (v_X12_runs_39 128 post' ZZ) J4 (p : Int) (p : Int) x := by
        intro x hx
        refine ⟨⟨by omega, by omega⟩, ?_⟩
        intro J6 e6
        refine ⟨⟨by omega, by omega⟩, ?_⟩
        intro J8 e8
        refine ⟨⟨by omega, by omega⟩, ?_⟩
        intro y10 e10
        have e10 : y10 = ((p + 1 : Nat) : Int) := by omega
        subst e10
        simp only [Int.toNat_natCast] at e4 e6 e8
        refine ih (p + 1) (by omega) J8 ⟨fun c a1 a2 a3 a4 => ?_, ?_, fun i hi => ?_⟩
        · rw [e8, up2_n _ _ _ a4, e6, up2_n _ _ _ a3, e4, up2_n _ _ _ a2]; exact hw.1 c a1 a2 a3 a4
        · rw [e8, up2_n _ _ _ (by decide), e6, up2_n _ _ _ (by decide), e4, up2_n _ _ _ (by decide)]; exact hw.2.1
        · have c1 : J8 141 = up1 (J' 141) p 0 := by rw [e8, up2_n _ _ _ (by decide), e6, up2_n _ _ _ (by decide), e4, up2_s]
          have c2 : J8 142 = up1 (J' 142) p x := by rw [e8, up2_n _ _ _ (by decide), e6, up2_s, e4, up2_n _ _ _ (by decide)]
          have c3 : J8 143 = up1 (J' 143) p (-1) := by rw [e8, up2_s, e6, up2_n _ _ _ (by decide), e4, up2_n _ _ _ (by decide)]
          rw [c1, c2, c3]
          by_cases hip : i = p
          · subst hip; rw [up1_s, up1_s, up1_s]; exact ⟨rfl, hx, rfl⟩
          · rw [up1_n _ _ hip, up1_n _ _ hip, up1_n _ _ hip]; exact hw.2.2 i (by omega)
      have h4 : J4 128 22 = u 22 := by rw [e4, up2_n _ _ _ (by decide)]; exact h22
      rw [h4]
      exact ⟨fun c => fin _ (by rw [if_pos c]), fun c => fin _ (by rw [if_neg c])⟩
  exact key (g 3).toNat 0 (by omega) J1 ⟨fun c a1 _ _ _ => by rw [e1, up2_n _ _ _ a1], by rw [e1, up2_s], fun i hi => absurd hi (Nat.not_lt_zero _)⟩
/-- the reference holds its evening -/
def MO (J : mJ) (g u : Nat → Int) : Prop := MR J (mRun u g).1 (mRun u g).2 ∧ (∀ p t : Nat, (p : Int) < g 3 → t < 100 → J 140 (p * 100 + t) = (goT (mGo u g) p t).2) ∧ (∀ p : Nat, (p : Int) < g 3 → J 143 p = lasF (mRun u g).2 (mRun u g).1 (p : Int))
def MI (J0 J : mJ) (b : Nat) (g u : Nat → Int) (t p : Nat) : Prop := MH J b g u ∧ MR J (mRow u g t p).1 (mRow u g t p).2 ∧ (∀ i : Nat, (i : Int) < g 3 → J 142 i = (goS (mGo u g) i (if i < p then t + 1 else t)).1 ∧ J 141 i = ((goS (mGo u g) i (if i < p then t + 1 else t)).2 : Nat) ∧ J 143 i = lasF (mRow u g t p).2 (mRow u g t p).1 (i : Int)) ∧ (∀ i t' : Nat, (i : Int) < g 3 → (t' < t ∨ t' = t ∧ i < p) → J 140 (i * 100 + t') = (goT (mGo u g) i t').2) ∧ (∀ c, (c < 128 ∨ 128 < c) → (c < 132 ∨ 143 < c) → J c = J0 c) ∧ (∀ k, k ≠ 25 → J 128 k = J0 128 k)
theorem m_step {J0 J : mJ} {b t p : Nat} {g u : Nat → Int} (hh : UH u) (hb : UB u) (hd : u 22 = 0) (hw : MI J0 J b g u t p) (ht : t < 100) (hp : (p : Int) < g 3) {post' : mJ → Prop} {k63' : mJ → Int → Int → Prop} (hk : ∀ J', MI J0 J' b g u t (p + 1) → k63' J' (t : Int) ((p + 1 : Nat) : Int)) :
    (((J 128 22) = 0 → ((p : Int) = (J 128 17) → (v_X12_runs_101 128 post' k63') J (t : Int) (p : Int)) ∧ (¬ (p : Int) = (J 128 17) → v_X12_walks J 128 (p : Int) (t : Int) (fun J14 => (v_X12_runs_101 128 post' k63') J14 (t : Int) (p : Int)))) ∧ (¬ (J 128 22) = 0 → v_X12_strays J 128 (p : Int) (t : Int) (fun J15 => (v_X12_runs_101 128 post' k63') J15 (t : Int) (p : Int)))) := by
  obtain ⟨hM, hR, hon, hsp, hf1, hf2⟩ := hw
  have hv := hM.2.2.2.1
  have hu := hM.2.2.2.2.1
  have h3 := hv.2.2.2.1
  have h0 := hv.1
  obtain ⟨o1, o2, o3⟩ := hon p hp
  rw [if_neg (Nat.lt_irrefl _)] at o1 o2
  obtain ⟨i1, i2, i3⟩ := mGoS_rng hv hb hp t
  have er : mRow u g t (p + 1) = stT (goT (mGo u g)) (mQ u g) (g 1) (mRow u g t p) p t := rfl
  have es : (goS (mGo u g) p (t + 1)) = (mGo u g p (t : Int) (goS (mGo u g) p t).1 (goS (mGo u g) p t).2).2 := rfl
  have hle := mRow_le (u := u) hv (t := t) (p := p)
  have fin : ∀ J2 : mJ, MR J2 (mRow u g t (p + 1)).1 (mRow u g t (p + 1)).2 → (∀ c, (c < 128 ∨ 128 < c) → (c < 132 ∨ 139 < c) → c ≠ 141 → c ≠ 142 → c ≠ 143 → J2 c = J c) → (∀ k, k ≠ 25 → J2 128 k = J 128 k) → J2 141 = up1 (J 141) p ((goS (mGo u g) p (t + 1)).2 : Nat) → J2 142 = up1 (J 142) p (goS (mGo u g) p (t + 1)).1 → (∀ i : Nat, (i : Int) < g 3 → J2 143 i = lasF (mRow u g t (p + 1)).2 (mRow u g t (p + 1)).1 (i : Int)) → (v_X12_runs_101 128 post' k63') J2 (t : Int) (p : Int) := by
    intro J2 hR2 f1 f2 g1 g2 l2
    have ei : (100 * (p : Int) + (t : Int)).toNat = p * 100 + t := by omega
    unfold v_X12_runs_101
    rw [ei, Int.toNat_natCast]
    refine ⟨⟨by omega, by omega⟩, ⟨by omega, by omega⟩, ⟨by omega, by omega⟩, ⟨by omega, by omega⟩, ?_⟩
    intro J16 e16
    refine ⟨⟨by omega, by omega⟩, ?_⟩
    intro y18 e18
    have e18 : y18 = ((p + 1 : Nat) : Int) := by omega
    subst e18
    have f16 : ∀ c, c ≠ 140 → J16 c = J2 c := fun c hc => by rw [e16]; exact up2_n _ _ _ hc
    refine hk J16 ⟨MH_frame (J := J) ?_ (fun k k1 k2 k3 => ?_) hM, MR_frame (fun j hj => f16 _ (by omega)) (by rw [f16 _ (by decide)]) hR2, ?_, ?_, ?_, ?_⟩
    · rw [f16 _ (by decide), f1 _ (by decide) (by decide) (by decide) (by decide) (by decide)]
    · rw [f16 _ (by decide), f2 _ (by omega)]
    · intro i hi
      rw [f16 142 (by decide), f16 141 (by decide), f16 143 (by decide), g1, g2]
      by_cases hip : i = p
      · subst hip
        rw [up1_s, up1_s, if_pos (Nat.lt_succ_self _)]
        exact ⟨rfl, rfl, l2 i hi⟩
      · rw [up1_n _ _ hip, up1_n _ _ hip]
        have := hon i hi
        have hlt : (i < p + 1) ↔ (i < p) := by omega
        simp only [hlt]
        exact ⟨this.1, this.2.1, l2 i hi⟩
    · intro i t' hi ht'
      rw [e16, show 128 + 12 = 140 from rfl, up2_s]
      by_cases hip : i * 100 + t' = p * 100 + t
      · have : i = p ∧ t' = t := by omega
        obtain ⟨rfl, rfl⟩ := this
        rw [up1_s, show 128 + 14 = 142 from rfl, g2, up1_s]
        rfl
      · rw [up1_n _ _ hip, f1 _ (by decide) (by decide) (by decide) (by decide) (by decide)]
        exact hsp i t' hi (by omega)
    · intro c hc1 hc2
      rw [f16 _ (by omega), f1 _ hc1 (by omega) (by omega) (by omega) (by omega)]
      exact hf1 c hc1 hc2
    · intro k hk'
      rw [f16 _ (by decide), f2 _ hk']
      exact hf2 k hk'
  have h22 := hM.2.2.2.2.2 22 (by decide) (by decide) (by decide)
  have h17 := hM.2.2.2.2.2 17 (by decide) (by decide) (by decide)
  rw [h22, h17]
  refine ⟨fun _ => ⟨fun c => ?_, fun c => ?_⟩, fun c => absurd hd c⟩
  · have ev := mGo_abs (u := u) (g := g) (t := (t : Int)) (on := (goS (mGo u g) p t).1) (k := (goS (mGo u g) p t).2) c
    have er2 : mRow u g t (p + 1) = mRow u g t p := by
      rw [er, stT]; unfold goT; rw [ev]; exact if_neg Bool.false_ne_true
    refine fin J (by rw [er2]; exact hR) (fun _ _ _ _ _ _ => rfl) (fun _ _ => rfl) ?_ ?_ (fun i hi => by rw [er2]; exact (hon i hi).2.2)
    · rw [es, ev]; exact (up1_self o2).symm
    · rw [es, ev]; exact (up1_self o1).symm
  · refine m_walks hM hh hR (mRow_TV hv hu hh hb ht (by omega)) (by omega) hp ht c o1 o2 i1 (i2 c) ?_
    intro J1 r v hv1 hr1 hR1 f1 f2 g1 g2 l1
    have er2 : mRow u g t (p + 1) = r := by
      rw [er, stT, hr1, hv1]; rfl
    refine fin J1 (by rw [er2]; exact hR1) f1 f2 (by rw [es, ← hv1]; exact g1) (by rw [es, ← hv1]; exact g2) (fun i hi => ?_)
    rw [er2, l1, hr1]
    by_cases hv2 : v.1 = true
    · rw [if_pos hv2, if_pos hv2]
      show _ = lasF (adF _ _ _) (_ + 1) _
      rw [lasF_add]
      by_cases hip : i = p
      · subst hip; rw [up1_s, if_pos rfl]
      · rw [up1_n _ _ hip, if_neg hip]; exact (hon i hi).2.2
    · rw [if_neg hv2, if_neg hv2]; exact (hon i hi).2.2
theorem m_runs {J : mJ} {b : Nat} {g u : Nat → Int} (h : MH J b g u) (hh : UH u) (hb : UB u) (hd : u 22 = 0) {post' : mJ → Prop} (hq : ∀ J1 : mJ, MO J1 g u → MH J1 b g u → (∀ c, (c < 128 ∨ 128 < c) → (c < 132 ∨ 143 < c) → J1 c = J c) → (∀ k, k ≠ 25 → J1 128 k = J 128 k) → post' J1) : v_X12_runs J 128 post' := by
  have h3 := h.2.2.2.1.2.2.2.1
  refine m_begin h (fun J1 f1 e1 i1 => ?_)
  refine m_loop (b := b) (g := g) (u := u) (MI J · b g u) (fun _ _ _ hw => hw.1) (fun J' t p hw ht hp k63' hk => m_step hh hb hd hw ht hp hk) (fun J' t hw => ?_) (fun J' hw => ?_) J1 ?_
  · obtain ⟨hM, hR, hon, hsp, hf1, hf2⟩ := hw
    refine ⟨hM, hR, fun i hi => ?_, fun i t' hi ht' => hsp i t' hi (by omega), hf1, hf2⟩
    have := hon i hi
    rw [if_pos (by omega)] at this
    rw [if_neg (Nat.not_lt_zero _)]
    exact this
  · obtain ⟨hM, hR, hon, hsp, hf1, hf2⟩ := hw
    exact hq J' ⟨hR, fun p t hp ht => hsp p t hp (Or.inl ht), fun p hp => (hon p hp).2.2⟩ hM hf1 hf2
  · refine ⟨MH_frame (f1 _ (by decide) (by decide) (by decide) (by decide)) (fun k _ _ _ => by rw [e1, up1_n _ _ (by omega)]) h, ⟨by rw [e1, up1_s]; rfl, fun j k _ hk => absurd hk (Nat.not_lt_zero _)⟩, fun i hi => ?_, fun i t' _ ht' => absurd ht' (by omega), fun c hc1 hc2 => f1 c (by omega) (by omega) (by omega) (by omega), fun k hk => by rw [e1, up1_n _ _ hk]⟩
    have := i1 i hi
    rw [hd, if_pos rfl] at this
    exact ⟨this.2.1, this.1, this.2.2⟩
/-- flags that say nothing -/
def UP (u : Nat → Int) : Prop := u 13 = -1 ∧ u 15 = -1 ∧ u 17 = -1 ∧ u 18 = -1 ∧ u 20 = -1 ∧ u 22 = 0
theorem mQ_plain {u g : Nat → Int} (h1 : u 13 = -1) (h2 : u 18 = -1) (h3 : u 20 = -1) : mQ u g = gQ g := by
  have e1 : (fun (p : Nat) (t : Int) => if (p : Int) = u 13 then u 14 else gShoe g p t) = gShoe g := by
    funext p t; rw [if_neg (by omega)]
  have e2 : mLoud u g = gLoud g := by
    funext p s w; unfold mLoud gLoud mCar; rw [if_neg (by omega)]
  have e3 : mEars u g = gEars g := by
    funext l s; unfold mEars gEars mFlat
    exact earsF_cong _ (fun i _ => by rw [if_neg (by omega)])
  unfold mQ gQ; rw [e1, e2, e3]
theorem mGo_plain {u g : Nat → Int} (h1 : u 15 = -1) (h2 : u 17 = -1) : mGo u g = gGo g := by
  funext p t on k; unfold mGo gGo mBeg; rw [if_neg (by omega), if_neg (by omega)]
theorem mRun_plain {u g : Nat → Int} (h : UP u) : mRun u g = gRun g := by
  unfold mRun mTs gRun gTs; rw [mQ_plain h.1 h.2.2.2.1 h.2.2.2.2.1, mGo_plain h.2.1 h.2.2.1]
