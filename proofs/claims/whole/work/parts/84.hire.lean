/-! the loudest shoe in which one is unheard; the step on which a flat has fewest notes -/
def unF (g : Nat → Int) (p w : Nat) : Bool := ! anyF (fun k => decide (gEars g (gLoud g p ((gRun g).2 1 k).toNat (w : Int)) ((gRun g).2 1 k) ≠ 0) && decide ((gRun g).2 0 k = (p : Int))) (gRun g).1
/-- the last that fits -/
def dwF (P : Nat → Bool) : Nat → Int
  | 0 => -1
  | k + 1 => if P k = true then (k : Int) else dwF P k
theorem x_isUnheardIn {J : mJ} {e h : Nat} {g : Nat → Int} (hv : HV g) (hr : HR J h g) (hO : EvO J e g) {p w : Nat} (hp : (p : Int) < g 3) (hw : w ≤ 9) {post' : Bool → Prop} (hq : post' (unF g p w)) : v_X2_isUnheardIn J e h (p : Int) (w : Int) post' := by
  have hn := gRun_le hv
  have h0 := hv.1
  unfold unF at hq
  unfold v_X2_isUnheardIn v_X2_isUnheardIn_2
  intro ZZ hZ
  generalize hP : (fun k => decide (gEars g (gLoud g p ((gRun g).2 1 k).toNat (w : Int)) ((gRun g).2 1 k) ≠ 0) && decide ((gRun g).2 0 k = (p : Int))) = P at hq
  refine lpN (S := fun k => anyF P k = false → ZZ (k : Int)) (N := (gRun g).1) (fun k hk ih ha => hZ _ ?_) (fun ha => hZ _ ⟨fun _ => by rw [ha] at hq; exact hq, fun c => absurd (Int.le_of_eq hO.1.1) c⟩) rfl
  rw [hO.1.1]
  simp only [Int.toNat_natCast]
  obtain ⟨t0, t1, _⟩ := gRun_TV hv k hk
  rw [show J (e + 1) k = _ from hO.1.2.1 0 k (by decide) hk, show J (e + 2) k = _ from hO.1.2.1 1 k (by decide) hk]
  have hPk : P k = (decide (gEars g (gLoud g p ((gRun g).2 1 k).toNat (w : Int)) ((gRun g).2 1 k) ≠ 0) && decide ((gRun g).2 0 k = (p : Int))) := by rw [← hP]
  have nf : P k = false → ∀ y, y = (k : Int) + 1 → ZZ y := by
    intro hf
    rintro _ rfl
    exact ih (by rw [anyF, ha, hf]; rfl)
  obtain ⟨s, es⟩ : ∃ s : Nat, (gRun g).2 1 k = (s : Int) := ⟨((gRun g).2 1 k).toNat, by omega⟩
  rw [es, Int.toNat_natCast] at hPk
  rw [es]
  have lr := gLoud_rng hv (p := p) (s := s) (w := (w : Int)) hp (by omega) ⟨by omega, by omega⟩
  refine ⟨fun c => by omega, fun _ => ⟨⟨by omega, by omega⟩, fun c => ⟨⟨by omega, by omega⟩, nf ?_⟩, fun c => ⟨⟨by omega, by omega⟩, ⟨by omega, by omega⟩, x_loudOf hv hr hp (by omega) ⟨by omega, by omega⟩ (x_hearersI hv hO.2.1 (by omega) lr ⟨fun c2 => ⟨⟨by omega, by omega⟩, nf ?_⟩, fun c2 => ?_⟩)⟩⟩⟩
  · rw [hPk, decide_eq_false c, Bool.and_false]
  · rw [hPk, decide_eq_false (fun c3 => c3 (by omega)), Bool.false_and]
  · rw [(anyF_iff _).mpr ⟨k, hk, by rw [hPk, decide_eq_true c, decide_eq_true (by omega)]; rfl⟩] at hq; exact hq
def hireF (g : Nat → Int) (p : Nat) : Int := dwF (unF g p) 10
theorem x_loudest {J : mJ} {e h : Nat} {g : Nat → Int} (hv : HV g) (hr : HR J h g) (hO : EvO J e g) {p : Nat} (hp : (p : Int) < g 3) {post' : Int → Prop} (hq : post' (hireF g p)) : v_X2_loudestUnheardShoe J e h (p : Int) post' := by
  unfold hireF at hq
  unfold v_X2_loudestUnheardShoe v_X2_loudestUnheardShoe_3
  intro ZZ hZ
  refine lpN (S := fun i => dwF (unF g p) 10 = dwF (unF g p) (10 - i) → ∀ v : Int, v = 9 - (i : Int) → ZZ v) (N := 10) (fun i hi ih hm v ev => hZ _ ?_) (fun hm v ev => hZ _ ⟨fun _ => by rw [hm] at hq; exact hq, fun c => by omega⟩) rfl 9 rfl
  obtain ⟨w, rfl⟩ : ∃ w : Nat, v = (w : Int) := ⟨v.toNat, by omega⟩
  have hm : dwF (unF g p) 10 = if unF g p w = true then (w : Int) else dwF (unF g p) w := by rw [hm, show 10 - i = w + 1 by omega]; rfl
  refine ⟨fun c => by omega, fun _ => x_isUnheardIn hv hr hO hp (by omega) ⟨fun c => ⟨⟨by omega, by omega⟩, ?_⟩, fun c => ?_⟩⟩
  · rintro _ rfl
    rw [if_neg (by rw [c]; decide)] at hm
    exact ih (by rw [hm, show 10 - (i + 1) = w by omega]) _ (by omega)
  · rw [if_pos c] at hm
    rw [hm] at hq; exact hq
theorem hire_eq {u g : Nat → Int} (hv : HV g) {p w : Nat} (hp : (p : Int) < g 3) (h13 : u 13 = (p : Int)) (h14 : u 14 = (w : Int)) (h15 : u 15 = -1) (h17 : u 17 = -1) (h18 : u 18 = -1) (h20 : u 20 = -1) : uB (mRun u g).2 (mRun u g).1 p = unF g p w := by
  have h0 := hv.1
  obtain ⟨sn, sc⟩ := mRun_sk (u := u) (g := g) h15 h17
  have mT := mTQ (u := u) (g := g)
  rw [sn] at mT ⊢
  unfold uB unF
  congr 1
  apply Bool.eq_iff_iff.mpr
  rw [anyF_iff, anyF_iff]
  have key : ∀ k, k < (gRun g).1 → (gRun g).2 0 k = (p : Int) → (mRun u g).2 6 k = ((gEars g (gLoud g p ((gRun g).2 1 k).toNat (w : Int)) ((gRun g).2 1 k) : Nat) : Int) := by
    intro k hk e0
    obtain ⟨m3, m4, _, m6, _⟩ := mT k hk
    rw [m6, m4, m3, sc 0 k (by omega), sc 1 k (by omega), sc 2 k (by omega), e0, Int.toNat_natCast]
    show ((mEars u g (mLoud u g p _ (if (p : Int) = u 13 then u 14 else _)) _ : Nat) : Int) = _
    rw [mEars_m h20, if_pos h13.symm, h14]
    unfold mLoud mCar
    rw [h18, if_neg (by omega)]; rfl
  constructor
  · rintro ⟨k, hk, hb⟩
    rw [Bool.and_eq_true, decide_eq_true_eq, decide_eq_true_eq, sc 0 k (by omega)] at hb
    refine ⟨k, hk, ?_⟩
    rw [Bool.and_eq_true, decide_eq_true_eq, decide_eq_true_eq]
    have := key k hk hb.2
    exact ⟨by omega, hb.2⟩
  · rintro ⟨k, hk, hb⟩
    rw [Bool.and_eq_true, decide_eq_true_eq, decide_eq_true_eq] at hb
    refine ⟨k, hk, ?_⟩
    rw [Bool.and_eq_true, decide_eq_true_eq, decide_eq_true_eq, sc 0 k (by omega)]
    have := key k hk hb.2
    exact ⟨by omega, hb.2⟩
/-- what stays as it is while the reference plays with one flag -/
def FK (J J1 : mJ) (b : Nat) (g : Nat → Int) : Prop := MH J1 b g (J1 128) ∧ (∀ c, (c < 128 ∨ 128 < c) → (c < 132 ∨ 143 < c) → J1 c = J c)
theorem FK_up {J J1 : mJ} {b i : Nat} {g : Nat → Int} {v : Int} (h : FK J J1 b g) (hi : i ≠ 12) (h19 : i = 19 → 0 ≤ v ∧ v ≤ 9) (h21 : i = 21 → 0 ≤ v ∧ v ≤ 24) : FK J (up2 J1 128 i v) b g := by
  obtain ⟨⟨m1, m2, m3, m4, m5, m6⟩, f⟩ := h
  refine ⟨⟨by rw [up2_s, up1_n _ _ (Ne.symm hi)]; exact m1, m2, ?_, m4, ?_, fun _ _ _ _ => rfl⟩, fun c h1 h2 => by rw [up2_n _ _ _ (by omega)]; exact f c h1 h2⟩
  · unfold gB at m3 ⊢; rw [up2_n _ _ _ (by decide)]; exact m3
  · unfold UV at m5 ⊢
    rw [up2_s]
    refine ⟨?_, ?_⟩
    · by_cases h : 19 = i
      · rw [← h, up1_s]; exact h19 h.symm
      · rw [up1_n _ _ h]; exact m5.1
    · by_cases h : 21 = i
      · rw [← h, up1_s]; exact h21 h.symm
      · rw [up1_n _ _ h]; exact m5.2
theorem FK_run {J J1 : mJ} {b : Nat} {g : Nat → Int} (h : FK J J1 b g) (hh : UH (J1 128)) (hb : UB (J1 128)) (hd : J1 128 22 = 0) {post' : mJ → Prop} (hq : ∀ J2 : mJ, MO J2 g (J1 128) → FK J J2 b g → (∀ k, k ≠ 25 → J2 128 k = J1 128 k) → post' J2) : v_X12_runs J1 128 post' := by
  refine m_runs h.1 hh hb hd (fun J2 hO hM f1 f2 => hq J2 hO ⟨MH_self hM, fun c h1 h2 => by rw [f1 c h1 h2]; exact h.2 c h1 h2⟩ f2)
theorem n_hire {J : mJ} {b p : Nat} {g : Nat → Int} (h : MH J b g (J 128)) (hp : UP (J 128)) (hp3 : (p : Int) < g 3) {post' : Int → mJ → Prop} (hq : ∀ J1, FK J J1 b g → post' (hireF g p) J1) : v_X12_hire J 128 (p : Int) post' := by
  have hv := h.2.2.2.1
  unfold v_X12_hire
  rintro J1 rfl
  rintro J2 rfl
  unfold v_X12_hire_11
  intro ZZ hZ
  unfold hireF at hq
  have k0 : ∀ i, i ≠ 13 → i ≠ 14 → up2 (up2 J 128 13 (p : Int)) 128 14 9 128 i = J 128 i := fun i h1 h2 => by rw [up2_s, up1_n _ _ h2, up2_s, up1_n _ _ h1]
  have F0 : FK J (up2 (up2 J 128 13 (p : Int)) 128 14 9) b g := FK_up (FK_up ⟨h, fun _ _ _ => rfl⟩ (by decide) (fun e => by omega) (fun e => by omega)) (by decide) (fun e => by omega) (fun e => by omega)
  refine lpN (S := fun i => dwF (unF g p) 10 = dwF (unF g p) (10 - i) → ∀ J1, FK J J1 b g → J1 128 13 = (p : Int) → J1 128 14 = 9 - (i : Int) → J1 128 15 = -1 → J1 128 17 = -1 → J1 128 18 = -1 → J1 128 20 = -1 → J1 128 22 = 0 → ZZ J1) (N := 10) (fun i hi ih hm J1 F1 p13 p14 p15 p17 p18 p20 p22 => hZ _ ?_) (fun hm J1 F1 p13 p14 p15 p17 p18 p20 p22 => hZ _ ?_) rfl _ F0 ?_ ?_ ?_ ?_ ?_ ?_ ?_
  · obtain ⟨w, ew⟩ : ∃ w : Nat, 9 - (i : Int) = (w : Int) := ⟨(9 - (i : Int)).toNat, by omega⟩
    rw [ew] at p14
    rw [p14]
    refine ⟨fun c => by omega, fun _ => FK_run F1 (Or.inr (by rw [p14]; omega)) (Or.inl p15) p22 (fun J2 hO F2 f2 => ?_)⟩
    have hTV := mRun_TV (u := J1 128) hv F1.1.2.2.2.2.1 (Or.inr (by rw [p14]; omega)) (Or.inl p15)
    have he := hire_eq (u := J1 128) hv hp3 p13 p14 p15 p17 p18 p20
    refine m_heardOf hTV hO.1 (mRun_le hv) ?_
    rw [f2 14 (by decide), p14]
    have hm : dwF (unF g p) 10 = if unF g p w = true then (w : Int) else dwF (unF g p) w := by rw [hm, show 10 - i = w + 1 by omega]; rfl
    have hz := hoF_uB (p := p) hTV
    rw [he] at hz
    refine ⟨fun c => ⟨⟨by omega, by omega⟩, ?_⟩, fun c => ?_⟩
    · rintro J3 rfl
      have kk : ∀ j, j ≠ 14 → j ≠ 25 → up2 J2 128 14 ((w : Int) - 1) 128 j = J1 128 j := fun j h1 h2 => by rw [up2_s, up1_n _ _ h1]; exact f2 j h2
      rw [if_neg (fun c2 => by rw [← hz] at c2; omega)] at hm
      refine ih (by rw [hm, show 10 - (i + 1) = w by omega]) _ (FK_up F2 (by decide) (fun e => by omega) (fun e => by omega)) ?_ ?_ ?_ ?_ ?_ ?_ ?_
      · rw [kk 13 (by decide) (by decide)]; exact p13
      · rw [up2_s, up1_s]; omega
      · rw [kk 15 (by decide) (by decide)]; exact p15
      · rw [kk 17 (by decide) (by decide)]; exact p17
      · rw [kk 18 (by decide) (by decide)]; exact p18
      · rw [kk 20 (by decide) (by decide)]; exact p20
      · rw [kk 22 (by decide) (by decide)]; exact p22
    · rw [if_pos (by rw [← hz]; omega)] at hm
      have := hq J2 F2
      rw [hm] at this; exact this
  · rw [p14]
    refine ⟨fun _ => ?_, fun c => by omega⟩
    have := hq J1 F1
    rw [hm] at this; exact this
  · rw [up2_s, up1_n _ _ (by decide), up2_s, up1_s]
  · rw [up2_s, up1_s]; rfl
  · rw [k0 15 (by decide) (by decide)]; exact hp.2.1
  · rw [k0 17 (by decide) (by decide)]; exact hp.2.2.1
  · rw [k0 18 (by decide) (by decide)]; exact hp.2.2.2.1
  · rw [k0 20 (by decide) (by decide)]; exact hp.2.2.2.2.1
  · rw [k0 22 (by decide) (by decide)]; exact hp.2.2.2.2.2
/-- move: how far a tread is noted, by the louder of it and its echo -/
def ldE (T : Nat → Nat → Int) (k : Nat) : Int := if T 5 k = -1 then 0 else T 4 (T 5 k).toNat / 2
def ldM (T : Nat → Nat → Int) (k : Nat) : Int := maxZ (T 4 k) (ldE T k)
def mvB (g : Nat → Int) (T : Nat → Nat → Int) (f s k : Nat) : Bool := decide (0 < ldM T k ∧ T 1 k - (g (30 + 2 * f) + ldM T k) ≤ (s : Int) ∧ (s : Int) ≤ T 1 k + (g (30 + 2 * f) + ldM T k))
def mvN (g : Nat → Int) (f s : Nat) : Int := ((cntF (mvB g (gRun g).2 f s) (gRun g).1 : Nat) : Int)
def moveF (g : Nat → Int) (f : Nat) : Nat := bestF (fun s => - mvN g f s) ((g 0).toNat - 1)
theorem absZ_le {a m : Int} : absZ a ≤ m ↔ -m ≤ a ∧ a ≤ m := by unfold absZ; split <;> omega
theorem mv_eq {u g : Nat → Int} (hv : HV g) {f s : Nat} (hf : (f : Int) < g 2) (h13 : u 13 = -1) (h15 : u 15 = -1) (h17 : u 17 = -1) (h18 : u 18 = -1) (h20 : u 20 = (f : Int)) (h21 : u 21 = (s : Int)) : ((cntF (nB (mRun u g).2 f) (mRun u g).1 : Nat) : Int) = mvN g f s := by
  have h2 := hv.2.2.1
  obtain ⟨sn, sc⟩ := mRun_sk (u := u) (g := g) h15 h17
  have gT := gTQ (g := g)
  have mT := mTQ (u := u) (g := g)
  rw [sn] at mT ⊢
  unfold mvN
  congr 1
  have lo : ∀ k, k < (gRun g).1 → (mRun u g).2 4 k = (gRun g).2 4 k := by
    intro k hk
    obtain ⟨m3, m4, _⟩ := mT k hk
    obtain ⟨g3, g4, _⟩ := gT k hk
    rw [m4, m3, g4, g3, sc 0 k (by omega), sc 1 k (by omega), sc 2 k (by omega), mShoe_m h13]
    show mLoud u g _ _ _ = gLoud g _ _ _
    unfold mLoud mCar
    rw [h18, if_neg (by omega)]; rfl
  refine cntF_cong _ (fun k hk => ?_)
  obtain ⟨_, _, _, m6, m7, _⟩ := mT k hk
  obtain ⟨_, t1, _, _, t4, t5, _⟩ := gRun_TV hv k hk
  have ear : ∀ l : Int, (mEars u g l ((gRun g).2 1 k)).testBit f = gHear (s : Int) (g (30 + 2 * f)) ((gRun g).2 1 k) l := by
    intro l
    unfold mEars
    rw [earsF_bit, decide_eq_true (by omega), Bool.true_and]
    unfold mFlat; rw [if_pos h20.symm, h21]
  have b6 : bt ((mRun u g).2 6 k) f = gHear (s : Int) (g (30 + 2 * f)) ((gRun g).2 1 k) ((gRun g).2 4 k) := by
    rw [m6, sc 1 k (by omega), lo k hk]
    unfold bt; rw [Int.toNat_natCast]; exact ear _
  have b7 : bt ((mRun u g).2 7 k) f = (if (gRun g).2 5 k = -1 then false else gHear (s : Int) (g (30 + 2 * f)) ((gRun g).2 1 k) ((gRun g).2 4 ((gRun g).2 5 k).toNat / 2)) := by
    rw [m7, sc 1 k (by omega), sc 5 k (by omega)]
    by_cases c5 : (gRun g).2 5 k = -1
    · rw [if_pos c5, if_pos c5]; exact bt_zero f
    · rw [if_neg c5, if_neg c5, lo _ (by omega)]
      unfold bt; rw [Int.toNat_natCast]; exact ear _
  unfold nB
  rw [b6, b7]
  unfold mvB ldM ldE gHear
  apply Bool.eq_iff_iff.mpr
  by_cases c5 : (gRun g).2 5 k = -1
  · rw [if_pos c5, if_pos c5, Bool.or_false, decide_eq_true_eq, decide_eq_true_eq, absZ_le]
    unfold maxZ; split <;> omega
  · rw [if_neg c5, if_neg c5, Bool.or_eq_true, decide_eq_true_eq, decide_eq_true_eq, decide_eq_true_eq, absZ_le, absZ_le]
    unfold maxZ; split <;> omega
theorem n_move {J : mJ} {b f : Nat} {g : Nat → Int} (h : MH J b g (J 128)) (hp : UP (J 128)) (hf : (f : Int) < g 2) {post' : Int → mJ → Prop} (hq : ∀ J1, FK J J1 b g → post' ((moveF g f : Nat) : Int) J1) : v_X12_move J 128 (f : Int) post' := by
  have hv := h.2.2.2.1
  have h0 := hv.1
  have h2 := hv.2.2.1
  unfold v_X12_move
  rintro J1 rfl
  unfold v_X12_move_12
  intro ZZ hZ
  have k0 : ∀ i, i ≠ 20 → up2 J 128 20 (f : Int) 128 i = J 128 i := fun i h1 => by rw [up2_s, up1_n _ _ h1]
  have F0 : FK J (up2 J 128 20 (f : Int)) b g := FK_up ⟨h, fun _ _ _ => rfl⟩ (by decide) (fun e => by omega) (fun e => by omega)
  have q20 : up2 J 128 20 (f : Int) 128 20 = (f : Int) := by rw [up2_s, up1_s]
  have q13 : up2 J 128 20 (f : Int) 128 13 = -1 := by rw [k0 13 (by decide)]; exact hp.1
  have q15 : up2 J 128 20 (f : Int) 128 15 = -1 := by rw [k0 15 (by decide)]; exact hp.2.1
  have q17 : up2 J 128 20 (f : Int) 128 17 = -1 := by rw [k0 17 (by decide)]; exact hp.2.2.1
  have q18 : up2 J 128 20 (f : Int) 128 18 = -1 := by rw [k0 18 (by decide)]; exact hp.2.2.2.1
  have q22 : up2 J 128 20 (f : Int) 128 22 = 0 := by rw [k0 22 (by decide)]; exact hp.2.2.2.2.2
  generalize up2 J 128 20 (f : Int) = Ja at F0 q20 q13 q15 q17 q18 q22
  -- one run, with the flat moved to s
  have one : ∀ (s : Nat) (J1 : mJ), (s : Int) < g 0 → FK J J1 b g → (J1 128 13 = -1 ∧ J1 128 15 = -1 ∧ J1 128 17 = -1 ∧ J1 128 18 = -1 ∧ J1 128 20 = (f : Int) ∧ J1 128 22 = 0) → ∀ post2 : Int → mJ → Prop, (∀ J4, FK J J4 b g → (J4 128 13 = -1 ∧ J4 128 15 = -1 ∧ J4 128 17 = -1 ∧ J4 128 18 = -1 ∧ J4 128 20 = (f : Int) ∧ J4 128 22 = 0) → post2 (mvN g f s) J4) → ∀ J3, J3 = up2 J1 128 21 (s : Int) → v_X12_runs J3 128 (fun J4 => v_X12_notesOf J4 128 (f : Int) (fun r5 => post2 r5 J4)) := by
    intro s J1 hs F1 fl post2 hp2 J3 e3
    have F3 : FK J J3 b g := by rw [e3]; exact FK_up F1 (by decide) (fun e => by omega) (fun e => by omega)
    have k3 : ∀ i, i ≠ 21 → J3 128 i = J1 128 i := fun i h1 => by rw [e3, up2_s, up1_n _ _ h1]
    have q21 : J3 128 21 = (s : Int) := by rw [e3, up2_s, up1_s]
    have fl3 : J3 128 13 = -1 ∧ J3 128 15 = -1 ∧ J3 128 17 = -1 ∧ J3 128 18 = -1 ∧ J3 128 20 = (f : Int) ∧ J3 128 22 = 0 := by
      rw [k3 13 (by decide), k3 15 (by decide), k3 17 (by decide), k3 18 (by decide), k3 20 (by decide), k3 22 (by decide)]; exact fl
    obtain ⟨a13, a15, a17, a18, a20, a22⟩ := fl3
    refine FK_run F3 (Or.inl a13) (Or.inl a15) a22 (fun J4 hO F4 f4 => ?_)
    have hTV := mRun_TV (u := J3 128) hv F3.1.2.2.2.2.1 (Or.inl a13) (Or.inl a15)
    refine m_notesOf hTV hO.1 (mRun_le hv) (by omega) ?_
    rw [mv_eq (u := J3 128) hv hf a13 a15 a17 a18 a20 q21]
    refine hp2 J4 F4 ?_
    rw [f4 13 (by decide), f4 15 (by decide), f4 17 (by decide), f4 18 (by decide), f4 20 (by decide), f4 22 (by decide)]
    exact ⟨a13, a15, a17, a18, a20, a22⟩
  refine hZ _ _ _ _ (n_of F0.1 (j := 0) rfl (by decide) ⟨fun c => by omega, fun _ => one 0 Ja (by omega) F0 ⟨q13, q15, q17, q18, q20, q22⟩ _ (fun J4 F4 fl4 => ⟨fun _ => ⟨⟨by omega, by omega⟩, ?_⟩, fun c => absurd (by decide) c⟩)⟩)
  rintro _ rfl
  refine lpN (S := fun i => ∀ J1, FK J J1 b g → (J1 128 13 = -1 ∧ J1 128 15 = -1 ∧ J1 128 17 = -1 ∧ J1 128 18 = -1 ∧ J1 128 20 = (f : Int) ∧ J1 128 22 = 0) → ZZ J1 ((bestF (fun s => - mvN g f s) i : Nat) : Int) (mvN g f (bestF (fun s => - mvN g f s) i)) ((i + 1 : Nat) : Int)) (N := (g 0).toNat - 1) (fun i hi ih J1 F1 fl => hZ _ _ _ _ (n_of F1.1 (j := 0) rfl (by decide) ?_)) (fun J1 F1 fl => hZ _ _ _ _ (n_of F1.1 (j := 0) rfl (by decide) ⟨fun _ => hq J1 F1, fun c => by omega⟩)) J4 F4 fl4
  rw [bestF] at ih
  refine ⟨fun c => by omega, fun _ => one (i + 1) J1 (by omega) F1 fl _ (fun J5 F5 fl5 => ⟨fun c => by omega, fun _ => ⟨fun c => ⟨⟨by omega, by omega⟩, ?_⟩, fun c => ⟨⟨by omega, by omega⟩, ?_⟩⟩⟩)⟩
  · rintro _ rfl
    have ih := ih J5 F5 fl5
    rw [if_pos (by omega)] at ih; exact ih
  · rintro _ rfl
    have ih := ih J5 F5 fl5
    rw [if_neg (by omega)] at ih; exact ih
/-- the class: where the stretches begin and end -/
def loW (g : Nat → Int) (T : Nat → Nat → Int) (f k : Nat) : Int := maxZ 0 (T 1 k - (g (30 + 2 * f) + ldM T k))
def hiW (g : Nat → Int) (T : Nat → Nat → Int) (f k : Nat) : Int := minZ (g 0) (T 1 k + (g (30 + 2 * f) + ldM T k) + 1)
def dfW (g : Nat → Int) (T : Nat → Nat → Int) (f k i : Nat) : Int := if 0 < ldM T k then (if loW g T f k = (i : Int) then 1 else 0) - (if hiW g T f k = (i : Int) then 1 else 0) else 0
theorem sumZ_swap (F : Nat → Nat → Int) (m : Nat) : ∀ n, sumZ (fun i => sumZ (fun k => F k i) n) m = sumZ (fun k => sumZ (F k) m) n
  | 0 => by
    have : ∀ m, sumZ (fun _ => (0 : Int)) m = 0 := fun m => by
      induction m with
      | zero => rfl
      | succ m ih => rw [sumZ, ih]; rfl
    exact this m
  | n + 1 => by
    rw [sumZ, ← sumZ_swap F m n, ← sumZ_add]; rfl
theorem sum_ind {a : Int} (ha : 0 ≤ a) : ∀ m : Nat, sumZ (fun i => if a = (i : Int) then 1 else 0) m = if a < (m : Int) then 1 else 0
  | 0 => by rw [sumZ, if_neg (by omega)]
  | m + 1 => by
    rw [sumZ, sum_ind ha m]
    by_cases h1 : a < (m : Int)
    · rw [if_pos h1, if_neg (by omega), if_pos (by omega)]; rfl
    · rw [if_neg h1]
      by_cases h2 : a = (m : Int)
      · rw [if_pos h2, if_pos (by omega)]; rfl
      · rw [if_neg h2, if_neg (by omega)]; rfl
theorem sumZ_ite (c : Prop) [Decidable c] (F : Nat → Int) : ∀ m, sumZ (fun i => if c then F i else 0) m = if c then sumZ F m else 0
  | 0 => by rw [sumZ, sumZ]; split <;> rfl
  | m + 1 => by rw [sumZ, sumZ, sumZ_ite c F m]; split <;> simp
theorem cnt_sumZ (P : Nat → Bool) : ∀ n, ((cntF P n : Nat) : Int) = sumZ (fun k => if P k = true then 1 else 0) n
  | 0 => rfl
  | n + 1 => by rw [cntF, sumZ, ← cnt_sumZ P n]; split <;> omega
/-- notes on step s are the sum of the tallies up to it -/
theorem mv_pre {g : Nat → Int} (hv : HV g) {f s : Nat} (hf : (f : Int) < g 2) (hs : (s : Int) < g 0) : sumZ (fun i => sumZ (fun k => dfW g (gRun g).2 f k i) (gRun g).1) (s + 1) = mvN g f s := by
  have he := (hv.2.2.2.2.2.2.1 f hf).2
  rw [sumZ_swap]
  unfold mvN
  rw [cnt_sumZ]
  refine sumZ_cong _ (fun k hk => ?_)
  obtain ⟨_, t1, _⟩ := gRun_TV hv k hk
  have e1 : sumZ (dfW g (gRun g).2 f k) (s + 1) = if 0 < ldM (gRun g).2 k then sumZ (fun i => (if loW g (gRun g).2 f k = (i : Int) then 1 else 0) - (if hiW g (gRun g).2 f k = (i : Int) then 1 else 0)) (s + 1) else 0 := sumZ_ite _ _ _
  rw [e1]
  unfold mvB
  by_cases c : 0 < ldM (gRun g).2 k
  · have l0 : 0 ≤ loW g (gRun g).2 f k := by unfold loW maxZ; split <;> omega
    have h0 : 0 ≤ hiW g (gRun g).2 f k := by unfold hiW minZ; split <;> omega
    rw [if_pos c, sumZ_sub, sum_ind l0, sum_ind h0]
    have a1 : loW g (gRun g).2 f k < ((s + 1 : Nat) : Int) ↔ (gRun g).2 1 k - (g (30 + 2 * f) + ldM (gRun g).2 k) ≤ (s : Int) := by unfold loW maxZ; split <;> omega
    have a2 : hiW g (gRun g).2 f k < ((s + 1 : Nat) : Int) ↔ ¬ (s : Int) ≤ (gRun g).2 1 k + (g (30 + 2 * f) + ldM (gRun g).2 k) := by unfold hiW minZ; split <;> omega
    by_cases b1 : (gRun g).2 1 k - (g (30 + 2 * f) + ldM (gRun g).2 k) ≤ (s : Int)
    · by_cases b2 : (s : Int) ≤ (gRun g).2 1 k + (g (30 + 2 * f) + ldM (gRun g).2 k)
      · rw [if_pos (a1.mpr b1), if_neg (fun q => a2.mp q b2), if_pos (decide_eq_true ⟨c, b1, b2⟩)]; rfl
      · rw [if_pos (a1.mpr b1), if_pos (a2.mpr b2), if_neg (by rw [decide_eq_true_eq]; exact fun c2 => b2 c2.2.2)]; rfl
    · rw [if_neg (fun q => b1 (a1.mp q)), if_neg (fun q => a2.mp q (by omega)), if_neg (by rw [decide_eq_true_eq]; exact fun c2 => b1 c2.2.1)]; rfl
  · rw [if_neg c, if_neg (by rw [decide_eq_true_eq]; exact fun c2 => c c2.1)]
theorem dfW_rng (g : Nat → Int) (T : Nat → Nat → Int) (f k i : Nat) : -((1 : Nat) : Int) ≤ dfW g T f k i ∧ dfW g T f k i ≤ ((1 : Nat) : Int) := by
  unfold dfW; split
  · split <;> split <;> omega
  · omega
theorem x_quietest {J : mJ} {e h : Nat} {g : Nat → Int} (hv : HV g) (hr : HR J h g) (hne : ∀ k, k < 14 → h + k ≠ e + 11) (hO : EvO J e g) {f : Nat} (hf : (f : Int) < g 2) {post' : Int → mJ → Prop} (hq : ∀ J1, (∀ c, c ≠ e + 11 → J1 c = J c) → post' ((moveF g f : Nat) : Int) J1) : v_X2_quietestStep J e h (f : Int) post' := by
  have hn := gRun_le hv
  have h0 := hv.1
  have h2 := hv.2.2.1
  have he := (hv.2.2.2.2.2.2.1 f hf).2
  unfold v_X2_quietestStep
  refine p_fill (by decide) ?_
  unfold v_X2_quietestStep_10
  intro ZZ hZ
  refine lpN (S := fun k => ∀ J1 : mJ, (∀ c, c ≠ e + 11 → J1 c = J c) → (∀ s : Nat, s < 25 → J1 (e + 11) s = sumZ (fun k => dfW g (gRun g).2 f k s) k) → ZZ J1 (k : Int)) (N := (gRun g).1) (fun k hk ih J1 f1 hs => hZ _ _ ?_) (fun J1 f1 hs => hZ _ _ ?_) _ (fun c hc => fillZ_n hc) (fun s hs => fillZ_s hs)
  · have e0 : J1 e = J e := f1 e (by omega)
    have hr1 : HR J1 h g := HR_frame (fun q hq => f1 _ (hne q hq)) hr
    have col : ∀ j i, j < 9 → i < (gRun g).1 → J1 (e + 1 + j) i = (gRun g).2 j i := fun j i hj hi => by
      rw [f1 _ (by omega)]; exact hO.1.2.1 j i hj hi
    obtain ⟨_, t1, _, _, t4, t5, _⟩ := gRun_TV hv k hk
    rw [e0, hO.1.1]
    simp only [Int.toNat_natCast]
    rw [show J1 (e + 6) k = _ from col 5 k (by decide) hk, show J1 (e + 5) k = _ from col 4 k (by decide) hk]
    have rs : ∀ s : Nat, s < 25 → -1000 ≤ sumZ (fun k => dfW g (gRun g).2 f k s) k ∧ sumZ (fun k => dfW g (gRun g).2 f k s) k ≤ 1000 := fun s hs => by
      have := sumZ_rng (f := fun k => dfW g (gRun g).2 f k s) (m := 1) k (fun i _ => dfW_rng g (gRun g).2 f i s); omega
    have go : ∀ s1, s1 = ldE (gRun g).2 k → 0 ≤ s1 ∧ s1 ≤ 9 → v_X2_quietestStep_51 e h (f : Int) post' ZZ J1 (k : Int) ((gRun g).2 4 k) s1 := by
      intro s1 e1 r1
      unfold v_X2_quietestStep_51
      rintro _ rfl
      have em : maxZ ((gRun g).2 4 k) s1 = ldM (gRun g).2 k := by rw [e1]; rfl
      have rm : 0 ≤ ldM (gRun g).2 k ∧ ldM (gRun g).2 k ≤ 18 := by rw [← em]; unfold maxZ; split <;> omega
      rw [em]
      refine ⟨fun c => ⟨⟨by omega, by omega⟩, ?_⟩, fun c => ⟨⟨by omega, by omega⟩, ?_⟩⟩
      · rintro _ rfl
        refine ih J1 f1 (fun s hs' => ?_)
        rw [sumZ, hs s hs']
        unfold dfW; rw [if_neg (by omega), Int.add_zero]
      · rw [Int.toNat_natCast, (hr1.2.2.1 f hf).2]
        refine ⟨⟨by omega, by omega⟩, ?_⟩
        rintro _ rfl
        rw [Int.toNat_natCast, show J1 (e + 2) k = _ from col 1 k (by decide) hk]
        have el : maxZ 0 ((gRun g).2 1 k - (g (30 + 2 * f) + ldM (gRun g).2 k)) = loW g (gRun g).2 f k := rfl
        have rl : 0 ≤ loW g (gRun g).2 f k ∧ loW g (gRun g).2 f k < g 0 := by rw [← el]; unfold maxZ; split <;> omega
        rw [el]
        obtain ⟨lo, hlo⟩ : ∃ lo : Nat, loW g (gRun g).2 f k = (lo : Int) := ⟨(loW g (gRun g).2 f k).toNat, by omega⟩
        rw [hlo, Int.toNat_natCast, hs lo (by omega)]
        have r3 := rs lo (by omega)
        refine ⟨⟨by omega, by omega⟩, ⟨by omega, by omega⟩, ⟨by omega, by omega⟩, ⟨by omega, by omega⟩, ⟨by omega, by omega⟩, ?_⟩
        rintro J2 rfl
        have o2 : ∀ c, c ≠ e + 11 → up2 J1 (e + 11) lo (sumZ (fun k => dfW g (gRun g).2 f k lo) k + 1) c = J1 c := fun c hc => up2_n _ _ _ hc
        have s2 : ∀ s : Nat, s < 25 → up2 J1 (e + 11) lo (sumZ (fun k => dfW g (gRun g).2 f k lo) k + 1) (e + 11) s = sumZ (fun k => dfW g (gRun g).2 f k s) k + (if lo = s then 1 else 0) := fun s hs' => by
          rw [up2_s]
          by_cases hss : s = lo
          · rw [hss, up1_s, if_pos rfl]
          · rw [up1_n _ _ hss, if_neg (fun c2 => hss c2.symm), Int.add_zero]; exact hs s hs'
        generalize up2 J1 (e + 11) lo (sumZ (fun k => dfW g (gRun g).2 f k lo) k + 1) = J2 at o2 s2
        rw [show J2 (e + 2) k = (gRun g).2 1 k by rw [o2 _ (by omega)]; exact col 1 k (by decide) hk]
        have hs0 : J2 h 0 = g 0 := by
          have := hne 0 (by decide)
          rw [o2 h (by omega)]; exact hr1.1.1
        rw [hs0]
        have eh : minZ (g 0) ((gRun g).2 1 k + (g (30 + 2 * f) + ldM (gRun g).2 k) + 1) = hiW g (gRun g).2 f k := rfl
        have rh : 0 ≤ hiW g (gRun g).2 f k ∧ hiW g (gRun g).2 f k ≤ g 0 := by rw [← eh]; unfold minZ; split <;> omega
        rw [eh]
        obtain ⟨hi, hhi⟩ : ∃ hi : Nat, hiW g (gRun g).2 f k = (hi : Int) := ⟨(hiW g (gRun g).2 f k).toNat, by omega⟩
        rw [hhi, Int.toNat_natCast, s2 hi (by omega)]
        have r4 := rs hi (by omega)
        have r5 : 0 ≤ (if lo = hi then (1 : Int) else 0) ∧ (if lo = hi then (1 : Int) else 0) ≤ 1 := by split <;> decide
        refine ⟨⟨by omega, by omega⟩, ⟨by omega, by omega⟩, ⟨by omega, by omega⟩, ⟨by omega, by omega⟩, ⟨by omega, by omega⟩, ⟨by omega, by omega⟩, ?_⟩
        rintro J3 rfl
        refine ⟨⟨by omega, by omega⟩, ?_⟩
        rintro _ rfl
        refine ih _ (fun c hc => by rw [up2_n _ _ _ hc, o2 c hc]; exact f1 c hc) (fun s hs' => ?_)
        have ed : dfW g (gRun g).2 f k s = (if lo = s then 1 else 0) - (if hi = s then 1 else 0) := by
          unfold dfW
          rw [if_pos (by omega), hlo, hhi]
          by_cases a1 : lo = s
          · by_cases a2 : hi = s
            · rw [if_pos a1, if_pos a2, if_pos (by omega), if_pos (by omega)]
            · rw [if_pos a1, if_neg a2, if_pos (by omega), if_neg (by omega)]
          · by_cases a2 : hi = s
            · rw [if_neg a1, if_pos a2, if_neg (by omega), if_pos (by omega)]
            · rw [if_neg a1, if_neg a2, if_neg (by omega), if_neg (by omega)]
        rw [up2_s, sumZ, ed]
        by_cases hss : s = hi
        · rw [hss, up1_s, if_pos rfl]; omega
        · rw [up1_n _ _ hss, s2 s hs', if_neg (c := hi = s) (fun c2 => hss c2.symm)]; omega
    refine ⟨fun c => by omega, fun _ => ⟨⟨by omega, by omega⟩, ⟨by omega, by omega⟩, fun c => ⟨⟨by omega, by omega⟩, ⟨by omega, by omega⟩, ?_⟩, fun c => go _ (by unfold ldE; rw [if_pos c]) ⟨by omega, by omega⟩⟩⟩
    obtain ⟨_, _, _, _, t4e, _⟩ := gRun_TV hv ((gRun g).2 5 k).toNat (by omega)
    rw [show J1 (e + 5) ((gRun g).2 5 k).toNat = _ from col 4 _ (by decide) (by omega), divZ_two (by omega)]
    exact go _ (by unfold ldE; rw [if_neg c]) ⟨by omega, by omega⟩
  · have e0 : J1 e = J e := f1 e (by omega)
    have hr1 : HR J1 h g := HR_frame (fun q hq => f1 _ (hne q hq)) hr
    rw [e0, hO.1.1]
    refine ⟨fun _ => ?_, fun c => absurd (Int.le_refl _) c⟩
    unfold v_X2_quietestStep_130
    rintro _ rfl
    have pre : ∀ s : Nat, (s : Int) < g 0 → sumZ (fun i => J1 (e + 11) i) (s + 1) = mvN g f s := fun s hs' => by
      rw [← mv_pre hv hf hs']
      exact sumZ_cong _ (fun i hi => hs i (by omega))
    have m0 : J1 (e + 11) 0 = mvN g f 0 := by
      have := pre 0 (by omega)
      rw [sumZ, sumZ, Int.zero_add] at this; exact this
    rw [m0]
    have rg : ∀ s, 0 ≤ mvN g f s ∧ mvN g f s ≤ 600 := fun s => by
      have := cntF_le (mvB g (gRun g).2 f s) (gRun g).1
      unfold mvN; omega
    unfold v_X2_quietestStep_145
    intro Z2 hZ2
    refine lpN (S := fun i => Z2 J1 (mvN g f i) (mvN g f (bestF (fun s => - mvN g f s) i)) ((bestF (fun s => - mvN g f s) i : Nat) : Int) ((i + 1 : Nat) : Int)) (N := (g 0).toNat - 1) (fun i hi ih => hZ2 _ _ _ _ _ ?_) (hZ2 _ _ _ _ _ ?_)
    · rw [hr1.1.1, Int.toNat_natCast]
      have p1 := pre (i + 1) (by omega)
      rw [sumZ, pre i (by omega)] at p1
      rw [p1]
      have r1 := rg (i + 1)
      rw [bestF] at ih
      refine ⟨fun c => by omega, fun _ => ⟨⟨by omega, by omega⟩, ⟨by omega, by omega⟩, ?_⟩⟩
      rintro _ rfl
      refine ⟨fun c => ⟨⟨by omega, by omega⟩, ?_⟩, fun c => ⟨⟨by omega, by omega⟩, ?_⟩⟩
      · rintro _ rfl
        rw [if_neg (by omega)] at ih; exact ih
      · rintro _ rfl
        rw [if_pos (by omega)] at ih; exact ih
    · rw [hr1.1.1]
      exact ⟨fun _ => hq J1 f1, fun c => by omega⟩
