/-! late and look on both sides -/
def LyP (J : mJ) (g : Nat → Int) (p L : Nat) : Prop := J 75 0 = (L : Int) ∧ L ≤ 100 ∧ (∀ i, i < L → J 76 i = (pthS g p i).1 ∧ J 77 i = bfF g p i ∧ (pthS g p i).2.2 = true) ∧ (L = 100 ∨ (pthS g p L).2.2 = false)
theorem x_layPath {J : mJ} {h : Nat} {g : Nat → Int} (hv : HV g) (hr : HR J h g) (hh : h ≤ 40) {p : Nat} (hp : (p : Int) < g 3) (hw : 0 < g (46 + 14 * p)) {post' : mJ → Prop} (hq : ∀ J1 L, (∀ c, (c < 75 ∨ 79 < c) → J1 c = J c) → LyP J1 g p L → post' J1) : v_X0_layPath J 75 h (p : Int) post' := by
  have h3 := hv.2.2.2.1
  have h0 := hv.1
  have pr := pth_rng hv hp hw
  unfold v_X0_layPath
  refine p_fill (by decide) ?_
  obtain ⟨_, _, _, _, r8, _⟩ := hr.2.2.2.1 p hp
  have e8 : fillZ J (75 + 4) 24 (-1) (h + 8) = J (h + 8) := fillZ_n (by omega)
  rw [Int.toNat_natCast, e8, r8]
  refine ⟨⟨by omega, by omega⟩, ?_⟩
  rintro _ rfl
  rintro J4 rfl
  have f4 : ∀ c, c ≠ 75 → c ≠ 79 → up2 (fillZ J (75 + 4) 24 (-1)) 75 0 0 c = J c := fun c h1 h2 => by rw [up2_n _ _ _ h1, fillZ_n h2]
  have g79 : ∀ s : Nat, s < 24 → up2 (fillZ J (75 + 4) 24 (-1)) 75 0 0 79 s = -1 := fun s hs => by rw [up2_n _ _ _ (by decide)]; exact fillZ_s hs
  have g75 : up2 (fillZ J (75 + 4) 24 (-1)) 75 0 0 75 0 = 0 := by rw [up2_s, up1_s]
  generalize up2 (fillZ J (75 + 4) 24 (-1)) 75 0 0 = J4 at f4 g79 g75
  have hr4 : HR J4 h g := HR_frame (fun q hq => f4 _ (by omega) (by omega)) hr
  refine p_X3_hasStep ?_
  have st := (pr 0).1
  have st0 : g (45 + 14 * p) = (pthS g p 0).1 := rfl
  rw [hr4.1.1, decide_eq_true (by rw [st0]; exact st)]
  unfold v_X0_layPath_30
  intro ZZ hZ
  refine lpN (S := fun i => ∀ J1, (∀ c, (c < 75 ∨ 79 < c) → J1 c = J c) → J1 75 0 = (i : Int) → (∀ j, j < i → J1 76 j = (pthS g p j).1 ∧ J1 77 j = bfF g p j ∧ (pthS g p j).2.2 = true) → (∀ s : Nat, s < 24 → J1 79 s = latF (fun j => (pthS g p j).1) (s : Int) i) → ZZ J1 (pthS g p i).1 ((pthS g p i).2.1 : Int) (bZ (pthS g p i).2.2)) (N := 100) (fun i hi ih J1 fr a0 a1 a2 => hZ _ _ _ _ ?_) (fun J1 fr a0 a1 a2 => hZ _ _ _ _ ?_) J4 (fun c hc => f4 c (by omega) (by omega)) g75 (fun j hj => absurd hj (Nat.not_lt_zero _)) (fun s hs => g79 s hs)
  · cases hg : (pthS g p i).2.2 with
    | false => exact ⟨fun _ => hq J1 i fr ⟨a0, by omega, a1, Or.inr hg⟩, fun c => absurd rfl c⟩
    | true =>
      have ri := (pr i).1
      have rk := (pr i).2.1
      obtain ⟨s, es⟩ : ∃ s : Nat, (pthS g p i).1 = (s : Int) := ⟨(pthS g p i).1.toNat, by omega⟩
      rw [a0]
      refine ⟨fun c => absurd c (by decide), fun _ => ⟨fun c => by omega, fun _ => ⟨⟨by omega, by omega⟩, ?_⟩⟩⟩
      rw [Int.toNat_natCast]
      rintro J7 rfl
      have b0 : up2 J1 (75 + 1) i (pthS g p i).1 75 0 = (i : Int) := by rw [up2_n _ _ _ (by decide)]; exact a0
      rw [b0, Int.toNat_natCast]
      refine ⟨⟨by omega, by omega⟩, ⟨by omega, by omega⟩, ?_⟩
      rintro J10 rfl
      have b1 : up2 (up2 J1 (75 + 1) i (pthS g p i).1) (75 + 2) i (up2 J1 (75 + 1) i (pthS g p i).1 (75 + 4) (pthS g p i).1.toNat) 75 0 = (i : Int) := by rw [up2_n _ _ _ (by decide)]; exact b0
      rw [b1]
      refine ⟨⟨by omega, by omega⟩, ?_⟩
      rintro J12 rfl
      generalize hJ12 : up2 (up2 (up2 J1 (75 + 1) i (pthS g p i).1) (75 + 2) i (up2 J1 (75 + 1) i (pthS g p i).1 (75 + 4) (pthS g p i).1.toNat)) (75 + 4) (pthS g p i).1.toNat (i : Int) = J12
      have b2 : J12 75 0 = (i : Int) := by rw [← hJ12, up2_n _ _ _ (by decide)]; exact b1
      rw [b2]
      refine ⟨⟨by omega, by omega⟩, ?_⟩
      rintro J14 rfl
      have fr14 : ∀ c, (c < 75 ∨ 79 < c) → up2 J12 75 0 ((i : Int) + 1) c = J c := fun c hc => by
        rw [up2_n _ _ _ (by omega), ← hJ12, up2_n _ _ _ (by omega), up2_n _ _ _ (by omega), up2_n _ _ _ (by omega)]; exact fr c hc
      have c0 : up2 J12 75 0 ((i : Int) + 1) 75 0 = ((i + 1 : Nat) : Int) := by rw [up2_s, up1_s]; omega
      have c76 : ∀ j, up2 J12 75 0 ((i : Int) + 1) 76 j = if j = i then (pthS g p i).1 else J1 76 j := fun j => by
        rw [up2_n _ _ _ (by decide), ← hJ12, up2_n _ _ _ (by decide), up2_n _ _ _ (by decide)]
        show up2 J1 (75 + 1) i _ (75 + 1) j = _
        rw [up2_s]
        by_cases e : j = i
        · rw [e, up1_s, if_pos rfl]
        · rw [up1_n _ _ e, if_neg e]
      have c77 : ∀ j, up2 J12 75 0 ((i : Int) + 1) 77 j = if j = i then J1 79 (pthS g p i).1.toNat else J1 77 j := fun j => by
        rw [up2_n _ _ _ (by decide), ← hJ12, up2_n _ _ _ (by decide)]
        show up2 _ (75 + 2) i _ (75 + 2) j = _
        rw [up2_s]
        by_cases e : j = i
        · rw [e, up1_s, if_pos rfl, up2_n _ _ _ (by decide)]
        · rw [up1_n _ _ e, if_neg e, up2_n _ _ _ (by decide)]
      have c79 : ∀ j, up2 J12 75 0 ((i : Int) + 1) 79 j = if j = (pthS g p i).1.toNat then (i : Int) else J1 79 j := fun j => by
        rw [up2_n _ _ _ (by decide), ← hJ12]
        show up2 _ (75 + 4) _ _ (75 + 4) j = _
        rw [up2_s]
        by_cases e : j = (pthS g p i).1.toNat
        · rw [e, up1_s, if_pos rfl]
        · rw [up1_n _ _ e, if_neg e, up2_n _ _ _ (by decide), up2_n _ _ _ (by decide)]
      generalize up2 J12 75 0 ((i : Int) + 1) = J14 at fr14 c0 c76 c77 c79
      have hr14 : HR J14 h g := HR_frame (fun q hq => fr14 _ (by omega)) hr
      obtain ⟨_, _, _, _, _, r9, _⟩ := hr14.2.2.2.1 p hp
      have inv1 : ∀ j, j < i + 1 → J14 76 j = (pthS g p j).1 ∧ J14 77 j = bfF g p j ∧ (pthS g p j).2.2 = true := fun j hj => by
        rw [c76, c77]
        by_cases e : j = i
        · subst e
          rw [if_pos rfl, if_pos rfl]
          refine ⟨rfl, ?_, hg⟩
          rw [a2 _ (by omega)]
          unfold bfF; rw [es, Int.toNat_natCast]
        · rw [if_neg e, if_neg e]; exact a1 j (by omega)
      have inv2 : ∀ s' : Nat, s' < 24 → J14 79 s' = latF (fun j => (pthS g p j).1) (s' : Int) (i + 1) := fun s' hs' => by
        rw [c79, latF]
        by_cases e : s' = (pthS g p i).1.toNat
        · rw [if_pos e, if_pos (by show (pthS g p i).1 = _; omega)]
        · rw [if_neg e, if_neg (by show ¬ (pthS g p i).1 = _; omega)]; exact a2 s' hs'
      have ih := ih J14 fr14 c0 inv1 inv2
      refine x_openGoal hv hr14 hp (by omega) ?_
      have og := opG_rng (gl := fun q => g (47 + 14 * p + q)) (on := (pthS g p i).1) rk
      rw [Int.toNat_natCast, r9]
      rw [pthS] at ih
      refine ⟨⟨by omega, by omega⟩, fun c => ⟨fun _ => ?_, fun c2 => absurd rfl c2⟩, fun c => ⟨fun c2 => absurd c2 (by decide), fun _ => x_nextStep hv hr14 hp (by omega) ⟨by omega, by omega⟩ ?_⟩⟩
      · rw [if_neg (by omega)] at ih; exact ih
      · rw [if_pos (by omega)] at ih; exact ih
  · rw [a0]
    exact ⟨fun c => hq J1 100 fr ⟨a0, Nat.le_refl _, a1, Or.inl rfl⟩, fun c => ⟨fun _ => hq J1 100 fr ⟨a0, Nat.le_refl _, a1, Or.inl rfl⟩, fun c2 => absurd (Int.le_refl _) c2⟩⟩
/-- all that the class holds when it looks for the best minute -/
def LyS (J : mJ) (e h : Nat) (g : Nat → Int) (p L : Nat) : Prop := HV g ∧ HR J h g ∧ EvO J e g ∧ WO J 66 (gRun g).1 (gRun g).2 p 0 100 ∧ LyP J g p L ∧ (∀ t : Nat, t < 100 → J 78 t = gShoe g p (t : Int)) ∧ (p : Int) < g 3 ∧ 0 < g (46 + 14 * p)
theorem gLoud_half {g : Nat → Int} (hv : HV g) {p s : Nat} (hp : (p : Int) < g 3) (hs : s < 24) {w : Int} (hw : 0 ≤ w ∧ w ≤ 9) : 0 ≤ gLoud g p s w / 2 ∧ gLoud g p s w / 2 ≤ 9 := by have := gLoud_rng hv hp hs hw; omega
theorem eLd_rng {g : Nat → Int} (hv : HV g) {p h i : Nat} (hp : (p : Int) < g 3) (hw : 0 < g (46 + 14 * p)) : 0 ≤ eLd g p h i ∧ eLd g p h i ≤ 9 := by
  have rs := (pth_rng hv hp hw i).1
  have h0 := hv.1
  unfold eLd
  split
  · decide
  · split
    · next c1 c2 =>
      unfold byB at c2
      rw [decide_eq_true_eq] at c2
      obtain ⟨y1, _⟩ := lO_spec c2.1
      obtain ⟨_, _, _, _, t4, _⟩ := gRun_TV hv _ (show (lO (gRun g).1 (gRun g).2 p (pthS g p i).1.toNat ((h + i : Nat) : Int)).toNat < (gRun g).1 by omega)
      split <;> omega
    · have := gLoud_half hv (p := p) (s := (pthS g p i).1.toNat) hp (by omega) (gShoe_rng hv hp (ownF g p h i))
      split <;> omega
theorem x_echoLoud {J : mJ} {e h : Nat} {g : Nat → Int} {p L b i : Nat} (hS : LyS J e h g p L) (hi : i < L) (hb : b + i < 100) {post' : Int → Prop} (hq : post' (eLd g p b i)) : v_X0_echoLoud J 75 e h 66 (p : Int) (b : Int) (i : Int) post' := by
  obtain ⟨hv, hr, hO, hWO, hL, hsh, hp, hw⟩ := hS
  have hn := gRun_le hv
  have h0 := hv.1
  have h1 := hv.2.1
  obtain ⟨l0, l1, l2, l3⟩ := hL
  obtain ⟨p1, p2, p3⟩ := l2 i hi
  have rs := (pth_rng hv hp hw i).1
  obtain ⟨s, es⟩ : ∃ s : Nat, (pthS g p i).1 = (s : Int) := ⟨(pthS g p i).1.toNat, by omega⟩
  have rb := latF_rng (fun j => (pthS g p j).1) (pthS g p i).1 i
  have hown : ownF g p b i = if bfF g p i = -1 then -1 else (b : Int) + bfF g p i := rfl
  have rbf : -1 ≤ bfF g p i ∧ bfF g p i < (i : Int) := rb
  unfold v_X0_echoLoud
  simp only [Int.toNat_natCast]
  refine ⟨⟨by omega, by omega⟩, ?_⟩
  rintro _ rfl
  rw [p1, p2, es]
  refine ⟨⟨by omega, by omega⟩, ?_⟩
  have e1 : (b : Int) + (i : Int) = ((b + i : Nat) : Int) := by omega
  rw [e1]
  refine x_latestOn hWO (Nat.le_refl _) (by omega) (by omega) (by omega) ⟨⟨by omega, by omega⟩, ?_⟩
  unfold eLd at hq
  rw [es, Int.toNat_natCast] at hq
  generalize ha : lO (gRun g).1 (gRun g).2 p s ((b + i : Nat) : Int) = a at hq
  have ra : a ≠ -1 → (0 ≤ a ∧ a < ((gRun g).1 : Int)) := fun c => by
    have := (lO_spec (n := (gRun g).1) (T := (gRun g).2) (p := p) (s := s) (t := ((b + i : Nat) : Int)) (by rw [ha]; exact c)).1
    rw [ha] at this; exact this
  have col : ∀ j, j < 9 → a ≠ -1 → J (e + 1 + j) a.toNat = (gRun g).2 j a.toNat := fun j hj c => hO.1.2.1 j a.toNat hj (by have := ra c; omega)
  -- what follows once it is known whose tread it was
  have fin : ∀ own : Int, own = ownF g p b i → ¬ (a = -1 ∧ own = -1) → ∀ bb : Bool, bb = byB (gRun g).2 p a own → v_X0_echoLoud_115 J 75 e h 66 (p : Int) (b : Int) (i : Int) post' (s : Int) a own (bZ bb) := by
    intro own eo hno bb ebb
    rw [← eo, if_neg hno, ← ebb] at hq
    have ro : own = -1 ∨ (0 ≤ own ∧ own < ((b + i : Nat) : Int)) := by
      rw [eo, hown]; split <;> omega
    unfold v_X0_echoLoud_115
    cases hbb : bb with
    | true =>
      rw [hbb, if_pos rfl] at hq
      rw [hbb] at ebb
      have hby := ebb.symm
      unfold byB at hby
      rw [decide_eq_true_eq] at hby
      have ra := ra hby.1
      obtain ⟨_, _, t2, _, t4, _⟩ := gRun_TV hv a.toNat (by omega)
      refine ⟨fun c => absurd c (by decide), fun _ => ⟨⟨by omega, by omega⟩, ?_⟩⟩
      unfold v_X0_echoLoud_134
      rw [show J (e + 3) a.toNat = _ from col 2 (by decide) hby.1, hr.1.2.1, e1]
      refine ⟨⟨by omega, by omega⟩, ⟨by omega, by omega⟩, fun c => ⟨fun c2 => absurd c2 (by decide), fun _ => ⟨⟨by omega, by omega⟩, ?_⟩⟩, fun c => ?_⟩
      · rw [if_pos c] at hq
        rw [show J (e + 5) a.toNat = _ from col 4 (by decide) hby.1, divZ_two (by omega)]; exact hq
      · rw [if_neg c] at hq; exact hq
    | false =>
      rw [hbb, if_neg Bool.false_ne_true] at hq
      rw [hbb] at ebb
      have hby := ebb.symm
      unfold byB at hby
      rw [decide_eq_false_iff_not] at hby
      have hon : own ≠ -1 := fun c => hby ⟨fun c2 => hno ⟨c2, c⟩, Or.inl c⟩
      refine ⟨fun _ => ?_, fun c => absurd rfl c⟩
      unfold v_X0_echoLoud_134
      rw [hr.1.2.1, e1]
      have so := gShoe_rng hv hp own
      have lr := gLoud_rng hv (p := p) (s := s) hp (by omega) so
      refine ⟨⟨by omega, by omega⟩, ⟨by omega, by omega⟩, fun c => ⟨fun _ => ⟨⟨by omega, by omega⟩, ?_⟩, fun c2 => absurd rfl c2⟩, fun c => ?_⟩
      · rw [if_pos c] at hq
        rw [hsh own.toNat (by omega), show ((own.toNat : Nat) : Int) = own by omega]
        refine x_loudOf hv hr hp (by omega) so ?_
        rw [divZ_two (by omega)]; exact hq
      · rw [if_neg c] at hq; exact hq
  have go : ∀ own : Int, own = ownF g p b i → v_X0_echoLoud_47 J 75 e h 66 (p : Int) (b : Int) (i : Int) post' (s : Int) a own := by
    intro own eo
    have g63 : ¬ (a = -1 ∧ own = -1) → v_X0_echoLoud_63 J 75 e h 66 (p : Int) (b : Int) (i : Int) post' (s : Int) a own := by
      intro hno
      have f0 : ¬ (a ≠ -1 ∧ (own = -1 ∨ own < (gRun g).2 2 a.toNat ∨ (gRun g).2 2 a.toNat = own ∧ (p : Int) < (gRun g).2 0 a.toNat)) → v_X0_echoLoud_114 J 75 e h 66 (p : Int) (b : Int) (i : Int) post' (s : Int) a own := fun c => fin own eo hno false (decide_eq_false c).symm
      have f1 : (a ≠ -1 ∧ (own = -1 ∨ own < (gRun g).2 2 a.toNat ∨ (gRun g).2 2 a.toNat = own ∧ (p : Int) < (gRun g).2 0 a.toNat)) → v_X0_echoLoud_110 J 75 e h 66 (p : Int) (b : Int) (i : Int) post' (s : Int) a own := fun c => fin own eo hno true (decide_eq_true c).symm
      unfold v_X0_echoLoud_63
      refine ⟨fun c => f0 (fun c2 => c2.1 c), fun c => ⟨fun c2 => f1 ⟨c, Or.inl c2⟩, fun c2 => ?_⟩⟩
      have ra := ra c
      rw [show J (e + 3) a.toNat = _ from col 2 (by decide) c, show J (e + 1) a.toNat = _ from col 0 (by decide) c]
      exact ⟨⟨by omega, by omega⟩, fun c3 => f1 ⟨c, Or.inr (Or.inl c3)⟩, fun c3 => ⟨⟨by omega, by omega⟩, fun c4 => f0 (by omega), fun c4 => ⟨⟨by omega, by omega⟩, fun c5 => f0 (by omega), fun c5 => f1 ⟨c, Or.inr (Or.inr ⟨c4, by omega⟩)⟩⟩⟩⟩
    unfold v_X0_echoLoud_47
    refine ⟨fun c => g63 (fun c2 => c c2.1), fun c => ⟨fun c2 => g63 (fun c3 => c2 c3.2), fun c2 => ?_⟩⟩
    rw [if_pos ⟨c, by rw [← eo]; exact c2⟩] at hq; exact hq
  refine ⟨fun c => ⟨⟨by omega, by omega⟩, ⟨by omega, by omega⟩, go _ ?_⟩, fun c => go _ ?_⟩
  · rw [hown, if_neg c]
  · rw [hown, if_pos c]
theorem x_notesFrom {J : mJ} {e h : Nat} {g : Nat → Int} {p L b : Nat} (hS : LyS J e h g p L) (hb : b ≤ 60) {post' : Int → Prop} (hq : post' (lateN g p b)) : v_X0_notesFrom J 75 e h 66 (p : Int) (b : Int) post' := by
  obtain ⟨hv, hr, hO, hWO, hL, hsh, hp, hw⟩ := hS
  have hS : LyS J e h g p L := ⟨hv, hr, hO, hWO, hL, hsh, hp, hw⟩
  obtain ⟨l0, l1, l2, l3⟩ := hL
  have h0 := hv.1
  have pr := pth_rng hv hp hw
  unfold v_X0_notesFrom v_X0_notesFrom_6
  intro ZZ hZ
  generalize hf : (fun i => if (pthS g p i).2.2 = true ∧ b + i < 100 then lateT g p b i else 0) = f
  have hN : lateN g p b = sumZ f 100 := by rw [← hf]; rfl
  rw [hN] at hq
  have stop : ∀ i, (L ≤ i ∨ 100 ≤ b + i) → ∀ k, i ≤ k → k < 100 → f k = 0 := fun i hi k h1 h2 => by
    rw [← hf]
    show (if _ then _ else _) = _
    refine if_neg (fun c => ?_)
    rcases hi with hi | hi
    · have hLl : (pthS g p L).2.2 = false := by
        rcases l3 with l3 | l3
        · omega
        · exact l3
      have := pth_stop hv hp hw hLl (k - L)
      rw [show L + (k - L) = k by omega] at this
      rw [this] at c; exact Bool.noConfusion c.1
    · omega
  have tail : ∀ i, i ≤ 100 → (L ≤ i ∨ 100 ≤ b + i) → sumZ f i = sumZ f 100 := fun i h1 h2 => by
    rw [show 100 = i + (100 - i) by omega, sumZ_split, sumZ_zero (100 - i) (fun k hk => stop i h2 (i + k) (by omega) (by omega)), Int.add_zero]
  have frng : ∀ k, -((31 : Nat) : Int) ≤ f k ∧ f k ≤ ((31 : Nat) : Int) := fun k => by
    rw [← hf]
    show _ ≤ (if _ then lateT g p b k else 0) ∧ (if _ then lateT g p b k else 0) ≤ _
    have : 0 ≤ lateT g p b k ∧ lateT g p b k ≤ 31 := popZ_rng _
    split <;> omega
  refine lpN (S := fun i => ZZ (sumZ f i) (i : Int)) (N := 100) (fun i hi ih => hZ _ _ ?_) (hZ _ _ ?_)
  · rw [l0]
    have e1 : (b : Int) + (i : Int) = ((b + i : Nat) : Int) := by omega
    rw [e1]
    refine ⟨fun c => ?_, fun c => ⟨⟨by omega, by omega⟩, fun c2 => ?_, fun c2 => ⟨⟨by omega, by omega⟩, ?_⟩⟩⟩
    · rw [tail i (by omega) (Or.inl (by omega))]; exact hq
    · rw [tail i (by omega) (Or.inr (by omega))]; exact hq
    · obtain ⟨p1, p2, p3⟩ := l2 i (by omega)
      simp only [Int.toNat_natCast]
      rw [p1, hsh (b + i) (by omega)]
      rintro _ rfl
      have rs := (pr i).1
      obtain ⟨s, es⟩ : ∃ s : Nat, (pthS g p i).1 = (s : Int) := ⟨(pthS g p i).1.toNat, by omega⟩
      rw [es]
      have so := gShoe_rng hv hp ((b + i : Nat) : Int)
      have lr := gLoud_rng hv (p := p) (s := s) hp (by omega) so
      have er := eLd_rng hv (h := b) (i := i) hp hw
      refine ⟨⟨by omega, by omega⟩, ⟨by omega, by omega⟩, x_loudOf hv hr hp (by omega) so (x_hearersI hv hO.2.1 (by omega) lr (x_echoLoud hS (by omega) (by omega) (x_hearersI hv hO.2.1 (by omega) ⟨by omega, by omega⟩ ?_)))⟩
      rintro _ rfl
      have g1 := gEars_lt hv (gLoud g p s (gShoe g p ((b + i : Nat) : Int))) (s : Int)
      have g2 := gEars_lt hv (eLd g p b i) (s : Int)
      rw [orZ_Z ⟨by omega, by omega⟩ ⟨by omega, by omega⟩]
      have ol := oZ_lt (x := ((gEars g (gLoud g p s (gShoe g p ((b + i : Nat) : Int))) (s : Int) : Nat) : Int)) (y := ((gEars g (eLd g p b i) (s : Int) : Nat) : Int)) ⟨by omega, by omega⟩ ⟨by omega, by omega⟩
      have ef : f i = popZ (oZ ((gEars g (gLoud g p s (gShoe g p ((b + i : Nat) : Int))) (s : Int) : Nat) : Int) ((gEars g (eLd g p b i) (s : Int) : Nat) : Int)) := by
        rw [← hf]
        show (if _ then lateT g p b i else 0) = _
        rw [if_pos ⟨p3, by omega⟩]
        unfold lateT; rw [es, Int.toNat_natCast]
      refine p_bitCount ⟨by omega, by omega⟩ ?_
      rw [← ef]
      have r1 := sumZ_rng (f := f) (m := 31) i (fun k _ => frng k)
      have r2 := frng i
      rw [sumZ] at ih
      refine ⟨⟨by omega, by omega⟩, ?_⟩
      rintro _ rfl
      refine ⟨⟨by omega, by omega⟩, ?_⟩
      rintro _ rfl
      exact ih
  · rw [l0]
    exact ⟨fun _ => hq, fun c => by omega⟩
def lateF (g : Nat → Int) (p : Nat) : Int := if g (46 + 14 * p) ≤ 0 then -1 else ((bestF (fun h => - lateN g p h) 60 : Nat) : Int)
theorem x_bestBegin {J : mJ} {e h : Nat} {g : Nat → Int} (hv : HV g) (hr : HR J h g) (hh : h ≤ 40) (he : 80 ≤ e) (hO : EvO J e g) {p : Nat} (hp : (p : Int) < g 3) {post' : Int → mJ → Prop} (hq : ∀ J1, (∀ c, (c < 66 ∨ 69 < c) → (c < 75 ∨ 79 < c) → J1 c = J c) → post' (lateF g p) J1) : v_X11_bestBegin J e h (p : Int) post' := by
  have h3 := hv.2.2.2.1
  unfold v_X11_bestBegin v_X3_walks
  obtain ⟨_, _, _, _, _, r9, _⟩ := hr.2.2.2.1 p hp
  rw [Int.toNat_natCast, r9]
  unfold lateF at hq
  refine ⟨⟨by omega, by omega⟩, fun c => ⟨fun c2 => Bool.noConfusion c2, fun _ => ?_⟩, fun c => ⟨fun _ => ?_, fun c2 => Bool.noConfusion c2⟩⟩
  · have h := hq J (fun _ _ _ => rfl)
    rw [if_pos c] at h; exact h
  · rw [if_neg c] at hq
    refine x_watch (first := 0) (m := 100) hv hO (by omega) hp (by omega) (by omega) (fun J1 f1 hWO => ?_)
    have hr1 : HR J1 h g := HR_frame (fun q hq => f1 _ (by omega)) hr
    unfold v_X0_best
    refine x_layPath hv hr1 hh hp (by omega) (fun J2 L f2 hL => ?_)
    have hr2 : HR J2 h g := HR_frame (fun q hq => f2 _ (by omega)) hr1
    unfold v_X0_best_12
    intro ZZ hZ
    refine lpN (S := fun t => ∀ J3, (∀ c, c ≠ 78 → J3 c = J2 c) → (∀ t' : Nat, t' < t → J3 78 t' = gShoe g p (t' : Int)) → ZZ J3 (t : Int)) (N := 100) (fun t ht ih J3 f3 hs => hZ _ _ ?_) (fun J3 f3 hs => hZ _ _ ?_) J2 (fun _ _ => rfl) (fun t' ht' => absurd ht' (Nat.not_lt_zero _))
    · have hr3 : HR J3 h g := HR_frame (fun q hq => f3 _ (by omega)) hr2
      refine ⟨fun c => by omega, fun _ => x_shoeAt hv hr3 hp ⟨⟨by omega, by omega⟩, ?_⟩⟩
      rw [Int.toNat_natCast]
      rintro J4 rfl
      refine ⟨⟨by omega, by omega⟩, ?_⟩
      rintro _ rfl
      refine ih _ (fun c hc => by rw [up2_n _ _ _ hc]; exact f3 c hc) (fun t' ht' => ?_)
      show up2 J3 (75 + 3) t _ (75 + 3) t' = _
      rw [up2_s]
      by_cases e : t' = t
      · rw [e, up1_s]
      · rw [up1_n _ _ e]; exact hs t' (by omega)
    · refine ⟨fun _ => ?_, fun c => absurd (Int.le_refl _) c⟩
      have fall : ∀ c, (c < 66 ∨ 69 < c) → (c < 75 ∨ 79 < c) → J3 c = J c := fun c h1 h2 => by
        rw [f3 c (by omega), f2 c (by omega), f1 c (by omega)]
      have hS : LyS J3 e h g p L := by
        refine ⟨hv, HR_frame (fun q hq => fall _ (by omega) (by omega)) hr, EvO_frame (fun q hq => fall _ (by omega) (by omega)) hO, ?_, ?_, hs, hp, by omega⟩
        · obtain ⟨w1, w2, w3, w4⟩ := hWO
          have e6 : ∀ c, 66 ≤ c → c ≤ 69 → J3 c = J1 c := fun c h1 h2 => by rw [f3 c (by omega), f2 c (by omega)]
          refine ⟨by rw [e6 66 (by decide) (by decide)]; exact w1, by rw [e6 66 (by decide) (by decide)]; exact w2, fun i s hi hs => by rw [e6 (66 + 1) (by decide) (by decide)]; exact w3 i s hi hs, fun i hi => by rw [e6 (66 + 2) (by decide) (by decide)]; exact w4 i hi⟩
        · obtain ⟨q1, q2, q3, q4⟩ := hL
          exact ⟨by rw [f3 75 (by decide)]; exact q1, q2, fun i hi => by rw [f3 76 (by decide), f3 77 (by decide)]; exact q3 i hi, q4⟩
      unfold v_X0_best_42
      refine x_notesFrom (b := 0) hS (by decide) ?_
      unfold v_X0_best_58
      intro Z2 hZ2
      refine lpN (S := fun i => Z2 J3 ((bestF (fun h => - lateN g p h) i : Nat) : Int) (lateN g p (bestF (fun h => - lateN g p h) i)) ((i + 1 : Nat) : Int)) (N := 60) (fun i hi ih => hZ2 _ _ _ _ ?_) (hZ2 _ _ _ _ ?_)
      · rw [bestF] at ih
        refine ⟨fun c => by omega, fun _ => x_notesFrom (b := i + 1) hS (by omega) ⟨fun c => ⟨⟨by omega, by omega⟩, ?_⟩, fun c => ⟨⟨by omega, by omega⟩, ?_⟩⟩⟩
        · rintro _ rfl
          rw [if_neg (by omega)] at ih; exact ih
        · rintro _ rfl
          rw [if_pos (by omega)] at ih; exact ih
      · exact ⟨fun _ => hq J3 fall, fun c => by omega⟩
theorem n_late {J : mJ} {b p : Nat} {g : Nat → Int} (h : MH J b g (J 128)) (hp : UP (J 128)) (hp3 : (p : Int) < g 3) {post' : Int → mJ → Prop} (hq : ∀ J1, FK J J1 b g → post' (lateF g p) J1) : v_X12_late J 128 (p : Int) post' := by
  have hv := h.2.2.2.1
  have h3 := hv.2.2.2.1
  obtain ⟨_, _, _, _, h46, hiff, _⟩ := hv.2.2.2.2.2.2.2.1 p hp3
  unfold v_X12_late
  unfold lateF at hq
  refine n_told h p 3 (44 + 14 * p) rfl rfl ⟨by omega, by omega⟩ (by omega) ⟨fun c => ?_, fun c => ?_⟩
  · have hw : 0 < g (46 + 14 * p) := by
      by_cases c2 : g (46 + 14 * p) = 0
      · exact absurd (hiff.mpr c2) c
      · omega
    rw [if_neg (by omega)] at hq
    rintro J2 rfl
    rintro J3 rfl
    unfold v_X12_late_26
    intro ZZ hZ
    have k0 : ∀ i, i ≠ 15 → i ≠ 16 → up2 (up2 J 128 15 (p : Int)) 128 16 0 128 i = J 128 i := fun i h1 h2 => by rw [up2_s, up1_n _ _ h2, up2_s, up1_n _ _ h1]
    have F0 : FK J (up2 (up2 J 128 15 (p : Int)) 128 16 0) b g := FK_up (FK_up ⟨h, fun _ _ _ => rfl⟩ (by decide) (fun e => by omega) (fun e => by omega)) (by decide) (fun e => by omega) (fun e => by omega)
    have U0 : UL (up2 (up2 J 128 15 (p : Int)) 128 16 0 128) p 0 := ⟨by rw [k0 13 (by decide) (by decide)]; exact hp.1, by rw [up2_s, up1_n _ _ (by decide), up2_s, up1_s], by rw [up2_s, up1_s]; rfl, by rw [k0 17 (by decide) (by decide)]; exact hp.2.2.1, by rw [k0 18 (by decide) (by decide)]; exact hp.2.2.2.1, by rw [k0 20 (by decide) (by decide)]; exact hp.2.2.2.2.1, by rw [k0 22 (by decide) (by decide)]; exact hp.2.2.2.2.2⟩
    generalize up2 (up2 J 128 15 (p : Int)) 128 16 0 = Ja at F0 U0
    -- one run, begun in minute m
    have one : ∀ (m : Nat) (J1 : mJ) (v2 v3 : Int), m ≤ 60 → FK J J1 b g → UL (J1 128) p m → (∀ J4, FK J J4 b g → UL (J4 128) p m → v_X12_late_98 128 (p : Int) post' ZZ J4 v2 v3 (lateN g p m)) → v_X12_runs J1 128 (fun J4 => (v_X12_late_45 128 (p : Int) post' (v_X12_late_98 128 (p : Int) post' ZZ)) J4 v2 v3 0 0) := by
      intro m J1 v2 v3 hm F1 U1 hk
      obtain ⟨a13, a15, a16, a17, a18, a20, a22⟩ := U1
      have U1 : UL (J1 128) p m := ⟨a13, a15, a16, a17, a18, a20, a22⟩
      have hUB : UB (J1 128) := Or.inr (by rw [a16]; omega)
      have hTV := mRun_TV (u := J1 128) hv F1.1.2.2.2.2.1 (Or.inl a13) hUB
      have hml := mRun_le (u := J1 128) hv
      have hsum := late_sum (u := J1 128) hv U1 hm hp3 hw
      refine FK_run F1 (Or.inl a13) hUB a22 (fun J4 hO F4 f4 => ?_)
      have hk := hk J4 F4 ⟨by rw [f4 13 (by decide)]; exact a13, by rw [f4 15 (by decide)]; exact a15, by rw [f4 16 (by decide)]; exact a16, by rw [f4 17 (by decide)]; exact a17, by rw [f4 18 (by decide)]; exact a18, by rw [f4 20 (by decide)]; exact a20, by rw [f4 22 (by decide)]; exact a22⟩
      rw [← hsum] at hk
      have hR := hO.1
      generalize (mRun (J1 128) g).2 = T at hTV hk hR
      generalize (mRun (J1 128) g).1 = n at hTV hml hk hR
      unfold v_X12_late_45
      intro Z2 hZ2
      generalize hf : (fun k => if T 0 k = (p : Int) then popZ (oZ (T 6 k) (T 7 k)) else 0) = f at hk
      have frng : ∀ k, -((31 : Nat) : Int) ≤ f k ∧ f k ≤ ((31 : Nat) : Int) := fun k => by
        rw [← hf]
        show _ ≤ (if _ then popZ _ else 0) ∧ (if _ then popZ _ else 0) ≤ _
        have := popZ_rng (oZ (T 6 k) (T 7 k))
        split <;> omega
      refine lpN (S := fun k => Z2 J4 v2 v3 (sumZ f k) (k : Int)) (N := n) (fun k hkn ih => hZ2 _ _ _ _ _ ?_) (hZ2 _ _ _ _ _ ⟨fun _ => hk, fun c => absurd (Int.le_of_eq hR.1) c⟩)
      rw [hR.1]
      simp only [Int.toNat_natCast]
      rw [show J4 (128 + 4) k = _ from hR.2 0 k (by decide) hkn, show J4 (128 + 10) k = _ from hR.2 6 k (by decide) hkn, show J4 (128 + 11) k = _ from hR.2 7 k (by decide) hkn]
      obtain ⟨_, _, _, _, _, _, h6, h7, _⟩ := hTV k hkn
      have ol := oZ_lt h6 h7
      rw [orZ_Z ⟨by omega, by omega⟩ ⟨by omega, by omega⟩]
      have r1 := sumZ_rng (f := f) (m := 31) k (fun k _ => frng k)
      have r2 := frng k
      have ef : f k = if T 0 k = (p : Int) then popZ (oZ (T 6 k) (T 7 k)) else 0 := by rw [← hf]
      rw [sumZ] at ih
      refine ⟨fun c => by omega, fun _ => ⟨⟨by omega, by omega⟩, fun c => ⟨⟨by omega, by omega⟩, ?_⟩, fun c => ⟨⟨by omega, by omega⟩, ⟨by omega, by omega⟩, m_bits ⟨by omega, by omega⟩ ?_⟩⟩⟩
      · rintro _ rfl
        refine ⟨⟨by omega, by omega⟩, ?_⟩
        rintro _ rfl
        rw [ef, if_neg c] at ih; exact ih
      · rw [if_pos c] at ef
        rw [← ef]
        refine ⟨⟨by omega, by omega⟩, ?_⟩
        rintro _ rfl
        refine ⟨⟨by omega, by omega⟩, ?_⟩
        rintro _ rfl
        exact ih
    have next : ∀ (m : Nat) (J4 : mJ), m ≤ 60 → FK J J4 b g → UL (J4 128) p m → ir (J4 128 16 + 1) ∧ ∀ J5, J5 = up2 J4 128 16 (J4 128 16 + 1) → FK J J5 b g ∧ UL (J5 128) p (m + 1) := by
      intro m J4 hm F4 U4
      obtain ⟨a13, a15, a16, a17, a18, a20, a22⟩ := U4
      refine ⟨⟨by rw [a16]; omega, by rw [a16]; omega⟩, ?_⟩
      rintro J5 rfl
      have kk : ∀ j, j ≠ 16 → up2 J4 128 16 (J4 128 16 + 1) 128 j = J4 128 j := fun j hj => by rw [up2_s, up1_n _ _ hj]
      exact ⟨FK_up F4 (by decide) (fun e => by omega) (fun e => by omega), by rw [kk 13 (by decide)]; exact a13, by rw [kk 15 (by decide)]; exact a15, by rw [up2_s, up1_s, a16]; omega, by rw [kk 17 (by decide)]; exact a17, by rw [kk 18 (by decide)]; exact a18, by rw [kk 20 (by decide)]; exact a20, by rw [kk 22 (by decide)]; exact a22⟩
    have main : ∀ J1, FK J J1 b g → UL (J1 128) p (0 + 1) → ZZ J1 ((bestF (fun h => - lateN g p h) 0 : Nat) : Int) (lateN g p (bestF (fun h => - lateN g p h) 0)) := by
      refine lpN (S := fun i => ∀ J1, FK J J1 b g → UL (J1 128) p (i + 1) → ZZ J1 ((bestF (fun h => - lateN g p h) i : Nat) : Int) (lateN g p (bestF (fun h => - lateN g p h) i))) (N := 60) (fun i hi ih J1 F1 U1 => hZ _ _ _ ?_) (fun J1 F1 U1 => hZ _ _ _ ?_)
      · have a16 := U1.2.2.1
        rw [a16]
        refine ⟨fun c => by omega, fun _ => one (i + 1) J1 _ _ (by omega) F1 U1 (fun J4 F4 U4 => ?_)⟩
        obtain ⟨n1, n2⟩ := next (i + 1) J4 (by omega) F4 U4
        rw [bestF] at ih
        refine ⟨fun c => by omega, fun _ => ⟨fun c => ?_, fun c => ⟨n1, fun J5 e5 => ?_⟩⟩⟩
        · rintro _ rfl
          refine ⟨n1, fun J5 e5 => ?_⟩
          have ih := ih J5 (n2 J5 e5).1 (n2 J5 e5).2
          rw [if_pos (by omega)] at ih
          rw [U4.2.2.1]; exact ih
        · have ih := ih J5 (n2 J5 e5).1 (n2 J5 e5).2
          rw [if_neg (by omega)] at ih; exact ih
      · have a16 := U1.2.2.1
        rw [a16]
        exact ⟨fun _ => hq J1 F1, fun c => by omega⟩
    refine hZ _ _ _ ?_
    have a16 := U0.2.2.1
    rw [a16]
    refine ⟨fun c => by omega, fun _ => one 0 Ja _ _ (by omega) F0 U0 (fun J4 F4 U4 => ⟨fun _ => ?_, fun c => absurd (by decide) c⟩)⟩
    obtain ⟨n1, n2⟩ := next 0 J4 (by omega) F4 U4
    rintro _ rfl
    refine ⟨n1, fun J5 e5 => ?_⟩
    have := main J5 (n2 J5 e5).1 (n2 J5 e5).2
    rw [U4.2.2.1]; exact this
  · have c2 : g (46 + 14 * p) = 0 := hiff.mp c
    have hq := hq J ⟨h, fun _ _ _ => rfl⟩
    rw [if_pos (by omega)] at hq; exact hq
/-- look -/
def bLook (g : Nat → Int) (w : Int) : Int :=
  if w = 0 then hushF (gRun g).1 (gRun g).2 else if w = 1 then busyF g (gRun g).1 (gRun g).2 else if w = 2 then ((copF g : Nat) : Int)
  else if 10 ≤ w ∧ w < 10 + g 2 then shoesF (gRun g).1 (gRun g).2 (w - 10).toNat
  else if 20 ≤ w ∧ w < 20 + g 2 then ((moveF g (w - 20).toNat : Nat) : Int)
  else if 30 ≤ w ∧ w < 30 + g 3 then hireF g (w - 30).toNat
  else if 40 ≤ w ∧ w < 40 + g 3 then lateF g (w - 40).toNat else -2
def aLook (A : Nat → Int) (a1 a2 : Int) : Int := if 0 ≤ a1 ∧ a1 < A 0 then bLook (gH A a1.toNat) a2 else -2
theorem x_look {J : mJ} {a1 a2 : Int} (hI : TI J 1 (J 129)) (hE : InvE J) (hw : ir a2) {post' : Int → mJ → Prop} (hq : ∀ J1, XF J J1 → InvE J1 → post' (aLook (J 129) a1 a2) J1) : v_X11_look J a1 a2 post' := by
  unfold v_X11_look
  refine x_eveningAt hI hE (fun c => ⟨fun _ => lf (hq J XF_refl hE) ?_, fun q c2 => (by cases c2)⟩) (fun k J1 ek hk hk2 hv hr hO hX hE1 => ⟨fun c2 => (by cases c2), fun q eq => ?_⟩)
  · unfold aLook; rw [if_neg c]
  · cases eq
    have h1 := hq J1 (XE_XF hX) hE1
    subst ek
    unfold aLook at h1 hq
    rw [if_pos ⟨by omega, hk⟩, Int.toNat_natCast] at h1 hq
    rw [hE_k]
    generalize hgg : gH (J 129) k = g at hv hr hO h1 hq
    have h2 := hv.2.2.1
    have h3 := hv.2.2.2.1
    refine ⟨fun c => ?_, fun c => lf h1 ?_⟩
    · obtain ⟨w, rfl⟩ : ∃ w : Nat, a2 = (w : Int) := ⟨a2.toNat, by omega⟩
      have er := remZ_nat (a := w) (d := 10) (by omega) (by decide) (by decide)
      have ed := divZ_nat (a := w) (d := 10) (by omega) (by decide) (by decide)
      rw [show ((10 : Nat) : Int) = 10 from rfl] at er ed
      rw [er, ed]
      rintro _ rfl
      rintro _ rfl
      refine ⟨fun e => ?_, fun e => x_hasF hv hr (fun c2 => ⟨fun _ => lf h1 ?_, fun c2 => Bool.noConfusion c2⟩) (fun f ef hf hf6 => ⟨fun c2 => Bool.noConfusion c2, fun _ => ?_⟩), fun e => x_hasF hv hr (fun c2 => ⟨fun _ => lf h1 ?_, fun c2 => Bool.noConfusion c2⟩) (fun f ef hf hf6 => ⟨fun c2 => Bool.noConfusion c2, fun _ => ?_⟩), fun e => x_hasP hv hr (fun c2 => ⟨fun _ => lf h1 ?_, fun c2 => Bool.noConfusion c2⟩) (fun p ep hp hp6 => ⟨fun c2 => Bool.noConfusion c2, fun _ => ?_⟩), fun e => x_hasP hv hr (fun c2 => ⟨fun _ => lf h1 ?_, fun c2 => Bool.noConfusion c2⟩) (fun p ep hp hp6 => ⟨fun c2 => Bool.noConfusion c2, fun _ => ?_⟩), fun e0 e1 e2 e3 e4 => lf h1 ?_⟩
      · unfold v_X11_lookAtAll
        refine ⟨fun e0 => x_longestHush hv hO (lf h1 ?_), fun e1 => x_busiest hv hr (fun i hi => by omega) hO (fun J2 f2 => lf (hq J2 (XF_tally hk2 hX f2) (InvE_tally hk2 f2 hE1)) ?_), fun e2 => x_copies hv hr (lf h1 ?_), fun e0 e1 e2 => lf h1 ?_⟩
        · unfold bLook; rw [if_pos e0]
        · unfold bLook; rw [if_neg (by omega), if_pos e1]
        · unfold bLook; rw [if_neg (by omega), if_neg (by omega), if_pos e2]
        · unfold bLook; rw [if_neg e0, if_neg e1, if_neg e2, if_neg (by omega), if_neg (by omega), if_neg (by omega), if_neg (by omega)]
      · unfold bLook; rw [if_neg (by omega), if_neg (by omega), if_neg (by omega), if_neg (by omega), if_neg (by omega), if_neg (by omega), if_neg (by omega)]
      · rw [ef]
        refine x_shoesHeard hv hO hf6 (lf h1 ?_)
        unfold bLook; rw [if_neg (by omega), if_neg (by omega), if_neg (by omega), if_pos (by omega), show ((w : Int) - 10).toNat = f by omega]
      · unfold bLook; rw [if_neg (by omega), if_neg (by omega), if_neg (by omega), if_neg (by omega), if_neg (by omega), if_neg (by omega), if_neg (by omega)]
      · rw [ef]
        refine x_quietest hv hr (fun i hi => by omega) hO hf (fun J2 f2 => lf (hq J2 (XF_tally hk2 hX f2) (InvE_tally hk2 f2 hE1)) ?_)
        unfold bLook; rw [if_neg (by omega), if_neg (by omega), if_neg (by omega), if_neg (by omega), if_pos (by omega), show ((w : Int) - 20).toNat = f by omega]
      · unfold bLook; rw [if_neg (by omega), if_neg (by omega), if_neg (by omega), if_neg (by omega), if_neg (by omega), if_neg (by omega), if_neg (by omega)]
      · rw [ep]
        refine x_loudest hv hr hO hp (lf h1 ?_)
        unfold bLook; rw [if_neg (by omega), if_neg (by omega), if_neg (by omega), if_neg (by omega), if_neg (by omega), if_pos (by omega), show ((w : Int) - 30).toNat = p by omega]
      · unfold bLook; rw [if_neg (by omega), if_neg (by omega), if_neg (by omega), if_neg (by omega), if_neg (by omega), if_neg (by omega), if_neg (by omega)]
      · rw [ep]
        refine x_bestBegin hv hr (by omega) (by omega) hO hp (fun J2 f2 => lf (hq J2 (fun c hc => ?_) ?_) ?_)
        · rw [f2 c (by omega) (by omega)]; exact hX c (by omega)
        · intro k' hk' hf' hk0
          rw [f2 129 (by omega) (by omega)] at hk0 ⊢
          rw [f2 (94 + 17 * k') (by omega) (by omega)] at hf'
          exact EvO_frame (fun i hi => f2 _ (by omega) (by omega)) (hE1 k' hk' hf' hk0)
        · unfold bLook; rw [if_neg (by omega), if_neg (by omega), if_neg (by omega), if_neg (by omega), if_neg (by omega), if_neg (by omega), if_pos (by omega), show ((w : Int) - 40).toNat = p by omega]
      · unfold bLook; rw [if_neg (by omega), if_neg (by omega), if_neg (by omega), if_neg (by omega), if_neg (by omega), if_neg (by omega), if_neg (by omega)]
    · unfold bLook; rw [if_neg (by omega), if_neg (by omega), if_neg (by omega), if_neg (by omega), if_neg (by omega), if_neg (by omega), if_neg (by omega)]
theorem subW_eq {a b : Int} (h : ir (a - b)) : subW a b = a - b := by
  unfold subW
  rw [show zi a - zi b = zi (a - b) from zs rfl rfl, zi_toInt h]
/-- what is less a small number, by the machine: right, or far beyond all -/
theorem subW_far {a b : Int} (ha : ir a) (hb : 0 ≤ b ∧ b ≤ 100) : subW a b = a - b ∨ (a < b ∧ 1000 < subW a b) := by
  by_cases c : -2147483648 ≤ a - b
  · exact Or.inl (subW_eq ⟨c, by omega⟩)
  · right
    refine ⟨by omega, ?_⟩
    unfold subW
    rw [show zi a - zi b = zi (a - b) from zs rfl rfl]
    unfold zi
    rw [Int32.toInt_ofInt]
    have e : Int.bmod (a - b) Int32.size = a - b + 4294967296 := by
      have hz : (Int32.size : Nat) = 4294967296 := rfl
      have hr : (a - b) % ((4294967296 : Nat) : Int) = a - b + 4294967296 := by omega
      rw [hz]
      unfold Int.bmod
      simp only [hr]
      rw [if_pos (by omega)]
    rw [e]; omega
theorem m_look {J : mJ} {a1 a2 : Int} {t : Nat} (hI : TI J t (J 129)) (hU : UV (J 128)) (hw : ir a2) {post' : Int → mJ → Prop} (hq : ∀ J1, MF J J1 → post' (aLook (J 129) a1 a2) J1) : v_X12_look J 128 a1 a2 post' := by
  unfold v_X12_look
  refine n_isHouse hI hU (fun c => ⟨fun c2 => Bool.noConfusion c2, fun _ => lf (hq J (MF_refl hU)) ?_⟩) (fun k J1 ek hk hk2 hM hp f1 f2 => ⟨fun _ => n_runs hM hp (fun J2 hR hM2 hp2 f3 f4 => ?_), fun c2 => Bool.noConfusion c2⟩)
  · unfold aLook; rw [if_neg c]
  · have h := hq J2 (MF_run f1 f3 (UV_of hM2))
    subst ek
    have hv := hM.2.2.2.1
    unfold aLook at h hq
    rw [if_pos ⟨by omega, hk⟩, Int.toNat_natCast] at h hq
    generalize gH (J 129) k = g at hv hR hM2 h hq
    have h2 := hv.2.2.1
    have h3 := hv.2.2.2.1
    have s1 := subW_far (b := 10) hw (by decide)
    have s2 := subW_far (b := 20) hw (by decide)
    have s3 := subW_far (b := 30) hw (by decide)
    have s4 := subW_far (b := 40) hw (by decide)
    have fk : ∀ J3, FK J2 J3 (610 + 149 * k) g → MF J J3 := fun J3 F3 => ⟨fun c hc => by rw [F3.2 c (by omega) (by omega), f3 c (by omega) (by omega), f1 c (by omega)], UV_of F3.1⟩
    refine ⟨fun c0 => ⟨fun c1 => ⟨fun c2 => n_isFlat hM2 (fun c3 => ⟨fun _ => n_isFlat hM2 (fun c4 => ⟨fun _ => n_isPerson hM2 (fun c5 => ⟨fun _ => n_isPerson hM2 (fun c6 => ⟨fun _ => lf h ?_, fun c2 => Bool.noConfusion c2⟩) (fun p ep hp3 hp6 => ⟨fun c2 => Bool.noConfusion c2, fun _ => ?_⟩), fun c2 => Bool.noConfusion c2⟩) (fun p ep hp3 hp6 => ⟨fun c2 => Bool.noConfusion c2, fun _ => ?_⟩), fun c2 => Bool.noConfusion c2⟩) (fun f ef hf hf6 => ⟨fun c2 => Bool.noConfusion c2, fun _ => ?_⟩), fun c2 => Bool.noConfusion c2⟩) (fun f ef hf hf6 => ⟨fun c2 => Bool.noConfusion c2, fun _ => ?_⟩), fun c2 => n_copies hM2 hp2 (lf h ?_)⟩, fun c1 => n_busy hM2 hR (lf h ?_)⟩, fun c0 => n_hollow hv hR (lf h ?_)⟩
    · unfold bLook; rw [if_neg c0, if_neg c1, if_neg c2, if_neg (by omega), if_neg (by omega), if_neg (by omega), if_neg (by omega)]
    · rw [ep]
      refine n_late hM2 hp2 hp3 (fun J3 F3 => lf (hq J3 (fk J3 F3)) ?_)
      unfold bLook; rw [if_neg c0, if_neg c1, if_neg c2, if_neg (by omega), if_neg (by omega), if_neg (by omega), if_pos (by omega), show (a2 - 40).toNat = p by omega]
    · rw [ep]
      refine n_hire hM2 hp2 hp3 (fun J3 F3 => lf (hq J3 (fk J3 F3)) ?_)
      unfold bLook; rw [if_neg c0, if_neg c1, if_neg c2, if_neg (by omega), if_neg (by omega), if_pos (by omega), show (a2 - 30).toNat = p by omega]
    · rw [ef]
      refine n_move hM2 hp2 hf (fun J3 F3 => lf (hq J3 (fk J3 F3)) ?_)
      unfold bLook; rw [if_neg c0, if_neg c1, if_neg c2, if_neg (by omega), if_pos (by omega), show (a2 - 20).toNat = f by omega]
    · rw [ef]
      refine n_tells hv hR hf6 (lf h ?_)
      unfold bLook; rw [if_neg c0, if_neg c1, if_neg c2, if_pos (by omega), show (a2 - 10).toNat = f by omega]
    · unfold bLook; rw [if_neg c0, if_neg c1, if_pos c2]
    · unfold bLook; rw [if_neg c0, if_pos c1]
    · unfold bLook; rw [if_pos c0]
