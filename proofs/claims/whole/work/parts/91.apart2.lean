/-! apart on both sides -/
def isApA (A : Nat → Int) (a1 a2 r : Int) : Prop :=
  if 0 ≤ a1 ∧ a1 < A 0 then
    (if gH A a1.toNat 3 = 0 then r = (if a2 = 0 then 0 else -1)
    else ∃ S c, isAp (mxB (gRun (gH A a1.toNat)).1 (gRun (gH A a1.toNat)).2) (gH A a1.toNat 3).toNat S c ∧ r = (if a2 = 0 then (S : Int) else if 10 ≤ a2 ∧ a2 < 10 + gH A a1.toNat 3 then (digN (gH A a1.toNat 3).toNat c (a2 - 10).toNat : Int) else -1))
  else r = -1
theorem x_dress {J : mJ} {e h P : Nat} {g : Nat → Int} (hv : HV g) (hr : HR J h g) (hh : h ≤ 40) (he : 90 ≤ e) (hO : EvO J e g) (hP : g 3 = (P : Int)) {post' : mJ → Prop} (h0 : P = 0 → ∀ J1, (∀ c, (c < 80 ∨ 83 < c) → J1 c = J c) → J1 80 0 = 0 → post' J1) (h1 : 1 ≤ P → ∃ S c, isAp (mxB (gRun g).1 (gRun g).2) P S c ∧ ∀ J1, (∀ c, (c < 80 ∨ 83 < c) → J1 c = J c) → J1 80 0 = (S : Int) → (∀ i, i < P → J1 81 i = (digN P c i : Int)) → post' J1) : v_X9_dress J 80 e h post' := by
  have h3 := hv.2.2.2.1
  have hl : ∀ p, p < P → mixF (gRun g).1 (gRun g).2 (g 2).toNat p < 64 := fun p _ => orF_lt (b := 6) _ (fun f _ => by
    have := hd_lt (g := g) (f := f) (by omega) (gRun_TV hv)
    show (if _ then _ else _) < _
    split
    · exact this
    · decide)
  have hmx : ∀ p q, p < P → q < p → (mixF (gRun g).1 (gRun g).2 (g 2).toNat p).testBit q = mxB (gRun g).1 (gRun g).2 p q := fun p q _ _ => mix_eq hv p q
  unfold v_X9_dress
  refine x_findMixed hv hr hh he hO (fun J1 f1 hm => ?_)
  have hr1 : HR J1 h g := HR_frame (fun q hq => f1 _ (by omega)) hr
  rw [hr1.1.2.2.2.1, hP]
  rintro _ rfl
  refine ⟨fun c => ?_, fun c => ?_⟩
  · obtain ⟨S, cc, hap, hpost⟩ := h1 (by omega)
    obtain ⟨s1, s2, s3, s4⟩ := hap
    unfold v_X9_dress_23
    rintro J3 rfl
    unfold v_X9_dress_26
    intro ZZ hZ
    have key : ∀ d s, s + d = S → 1 ≤ s → ∀ J2, (∀ c, (c < 80 ∨ 83 < c) → J2 c = J c) → J2 82 = J1 82 → J2 80 0 = (s : Int) → ZZ J2 (P : Int) := by
      intro d
      induction d with
      | zero =>
        intro s es hs J2 f2 e82 e80
        have es : s = S := by omega
        subst es
        apply hZ
        rw [e80]
        intro hJ post hp
        refine w_giveOut (M := fun p => mixF (gRun g).1 (gRun g).2 (g 2).toNat p) (by omega) (by omega) hl hmx 7 0 0 J2 (by omega) (by omega) hJ (fun i hi => by rw [e82]; exact hm i (by omega)) (fun i hi => absurd hi (Nat.not_lt_zero _)) (fun i hi => absurd hi (Nat.not_lt_zero _)) post (fun J4 c hJ4 f4 hc hw => hp true J4 hJ4 ⟨fun _ => ?_, fun c2 => Bool.noConfusion c2⟩) (fun J4 hJ4 f4 p4 hn => ?_)
        · rw [Nat.zero_mul, Nat.sub_zero] at hc
          have ec : (c : Int) = (cc : Int) := by rw [← fst_isFs _ hc, ← fst_isFs _ s3]
          have ec : c = cc := by omega
          subst ec
          exact hpost J4 (fun c hc => by rw [f4 c (by omega)]; exact f2 c hc) (by rw [f4 80 (by decide)]; exact e80) hw
        · rw [Nat.zero_mul, Nat.sub_zero] at hn
          have := hn cc (Nat.zero_le _) s3.2.1
          rw [s3.2.2.1] at this; exact Bool.noConfusion this
      | succ d ih =>
        intro s es hs J2 f2 e82 e80
        apply hZ
        rw [e80]
        intro hJ post hp
        refine w_giveOut (M := fun p => mixF (gRun g).1 (gRun g).2 (g 2).toNat p) (by omega) (by omega) hl hmx 7 0 0 J2 (by omega) (by omega) hJ (fun i hi => by rw [e82]; exact hm i (by omega)) (fun i hi => absurd hi (Nat.not_lt_zero _)) (fun i hi => absurd hi (Nat.not_lt_zero _)) post (fun J4 c hJ4 f4 hc hw => ?_) (fun J4 hJ4 f4 p4 hn => hp false J4 hJ4 ⟨fun c2 => Bool.noConfusion c2, fun _ => ?_⟩)
        · rw [Nat.zero_mul, Nat.sub_zero] at hc
          have := s4 s hs (by omega) c hc.1 hc.2.1
          rw [hc.2.2.1] at this; exact Bool.noConfusion this
        · have e4 : J4 80 0 = (s : Int) := by rw [f4 80 (by decide)]; exact e80
          rw [e4]
          refine ⟨fun c => by omega, fun _ => ⟨⟨by omega, by omega⟩, ?_⟩⟩
          rintro J5 rfl
          refine ih (s + 1) (by omega) (by omega) _ (fun c hc => by rw [up2_n _ _ _ (by omega), f4 c (by omega)]; exact f2 c hc) (by rw [up2_n _ _ _ (by decide), f4 82 (by decide)]; exact e82) (by rw [up2_s, up1_s]; omega)
    exact key (S - 1) 1 (by omega) (Nat.le_refl _) _ (fun c hc => by rw [up2_n _ _ _ (by omega)]; exact f1 c (by omega)) (up2_n _ _ _ (by decide)) (by rw [up2_s, up1_s]; rfl)
  · have e0 : P = 0 := by omega
    subst e0
    unfold v_X9_dress_23
    rintro J3 rfl
    unfold v_X9_dress_26
    intro ZZ hZ
    apply hZ
    have q0 : up2 J1 80 0 0 80 0 = 0 := by rw [up2_s, up1_s]
    rw [q0]
    intro hJ post hp
    refine w_giveOut (mx := fun _ _ => true) (M := fun _ => 0) (S := 0) (P := 0) (by omega) (by omega) (fun p hp => absurd hp (Nat.not_lt_zero _)) (fun p q hp => absurd hp (Nat.not_lt_zero _)) 7 0 0 _ (by omega) (by omega) hJ (fun i hi => absurd hi (Nat.not_lt_zero _)) (fun i hi => absurd hi (Nat.not_lt_zero _)) (fun i hi => absurd hi (Nat.not_lt_zero _)) post (fun J4 c hJ4 f4 hc hw => hp true J4 hJ4 ⟨fun _ => ?_, fun c2 => Bool.noConfusion c2⟩) (fun J4 hJ4 f4 p4 hn => ?_)
    · refine h0 rfl J4 (fun c hc => by rw [f4 c (by omega), up2_n _ _ _ (by omega)]; exact f1 c (by omega)) (by rw [f4 80 (by decide)]; exact q0)
    · have := hn 0 (Nat.zero_le _) (by decide)
      exact Bool.noConfusion this
theorem x_apart {J : mJ} {a1 a2 : Int} (hI : TI J 1 (J 129)) (hE : InvE J) (hw : ir a2) {post' : Int → mJ → Prop} (hq : ∀ r J1, isApA (J 129) a1 a2 r → XF J J1 → InvE J1 → post' r J1) : v_X11_apart J a1 a2 post' := by
  unfold v_X11_apart
  refine x_eveningAt hI hE (fun c => ⟨fun _ => hq _ J ?_ XF_refl hE, fun q c2 => (by cases c2)⟩) (fun k J1 ek hk hk2 hv hr hO hX hE1 => ⟨fun c2 => (by cases c2), fun q eq => ?_⟩)
  · unfold isApA; rw [if_neg c]
  · cases eq
    subst ek
    have mk : ∀ r : Int, (if gH (J 129) k 3 = 0 then r = (if a2 = 0 then 0 else -1) else ∃ S c, isAp (mxB (gRun (gH (J 129) k)).1 (gRun (gH (J 129) k)).2) (gH (J 129) k 3).toNat S c ∧ r = (if a2 = 0 then (S : Int) else if 10 ≤ a2 ∧ a2 < 10 + gH (J 129) k 3 then (digN (gH (J 129) k 3).toNat c (a2 - 10).toNat : Int) else -1)) → isApA (J 129) (k : Int) a2 r := fun r h => by
      unfold isApA
      rw [if_pos ⟨by omega, hk⟩, Int.toNat_natCast]; exact h
    replace hq := fun r J1 h => hq r J1 (mk r h)
    clear mk
    rw [hE_k]
    generalize gH (J 129) k = g at hv hr hO hq
    have h3 := hv.2.2.2.1
    have s1 := subW_far (b := 10) hw (by decide)
    have XFt : ∀ J2 : mJ, (∀ c, (c < 80 ∨ 83 < c) → J2 c = J1 c) → XF J J2 := fun J2 f2 c hc => by rw [f2 c (by omega)]; exact hX c (by omega)
    have IEt : ∀ J2 : mJ, (∀ c, (c < 80 ∨ 83 < c) → J2 c = J1 c) → InvE J2 := fun J2 f2 => by
      intro k' hk' hf' hk0
      rw [f2 129 (by omega)] at hk0 ⊢
      rw [f2 (94 + 17 * k') (by omega)] at hf'
      exact EvO_frame (fun i hi => f2 _ (by omega)) (hE1 k' hk' hf' hk0)
    obtain ⟨P, eP⟩ : ∃ P : Nat, g 3 = (P : Int) := ⟨(g 3).toNat, by omega⟩
    simp only [eP, Int.toNat_natCast] at hq
    refine x_dress hv hr (by omega) (by omega) hO eP (fun e0 J2 f2 e80 => ?_) (fun hP1 => ?_)
    · have hr2 : HR J2 (5 + 19 * k) g := HR_frame (fun q hq => f2 _ (by omega)) hr
      rw [hr2.1.2.2.2.1, eP]
      refine ⟨fun c => p_X11_pick (by decide) ?_, fun c => hq _ J2 ?_ (XFt J2 f2) (IEt J2 f2)⟩
      · rw [if_neg (by omega)]
        exact hq _ J2 (by rw [if_pos (c := (P : Int) = 0) (by omega), if_neg c]) (XFt J2 f2) (IEt J2 f2)
      · rw [if_pos (c := (P : Int) = 0) (by omega), if_pos c]; exact e80
    · obtain ⟨S, c, hap⟩ := ap_ex (by omega) hP1 (mxB (gRun g).1 (gRun g).2)
      refine ⟨S, c, hap, fun J2 f2 e80 hw2 => ?_⟩
      have hr2 : HR J2 (5 + 19 * k) g := HR_frame (fun q hq => f2 _ (by omega)) hr
      rw [hr2.1.2.2.2.1, eP]
      refine ⟨fun c2 => p_X11_pick (by decide) (hq _ J2 (by rw [if_neg (c := (P : Int) = 0) (by omega)]; exact ⟨S, c, hap, rfl⟩) (XFt J2 f2) (IEt J2 f2) |> fun z => lf z ?_), fun c2 => lf (hq _ J2 (by rw [if_neg (c := (P : Int) = 0) (by omega)]; exact ⟨S, c, hap, rfl⟩) (XFt J2 f2) (IEt J2 f2)) ?_⟩
      · rw [if_neg (c := a2 = 0) c2]
        by_cases d : 10 ≤ a2 ∧ a2 < 10 + (P : Int)
        · rw [if_pos ⟨by omega, by omega, by omega⟩, if_pos d, show (subW a2 10).toNat = (a2 - 10).toNat by omega]
          exact hw2 _ (by omega)
        · rw [if_neg (by omega), if_neg d]
      · rw [if_pos (c := a2 = 0) c2]; exact e80
/-- the reference tries all ways in their order -/
theorem dig_rd {P c a : Nat} (hc : c < 46656) : remZ (divZ (c : Int) ((6 ^ (P - 1 - a) : Nat) : Int)) 6 = (digN P c a : Int) ∨ 2 ^ 31 ≤ 6 ^ (P - 1 - a) := by
  by_cases h : 6 ^ (P - 1 - a) < 2 ^ 31
  · left
    rw [divZ_nat (by omega) (Nat.pow_pos (by decide)) h]
    have := remZ_nat (a := c / 6 ^ (P - 1 - a)) (d := 6) (Nat.lt_of_le_of_lt (Nat.div_le_self _ _) (by omega)) (by decide) (by decide)
    rw [show ((6 : Nat) : Int) = 6 from rfl] at this
    rw [this]; rfl
  · right; omega
theorem n_shodBy {J : mJ} {b n S P : Nat} {g u : Nat → Int} {T : Nat → Nat → Int} (h : MH J b g u) (hV : TV g n T) (hP : g 3 = (P : Int)) (hP1 : 1 ≤ P) (hS : S ≤ 6) (hb : ∀ i, i < P → J 147 i = (hoF T n i : Int)) {post' : Int → Prop} (hq : post' (fstF (vdB (mxB n T) S P) 0 (6 ^ P))) : v_X12_shodBy J 128 (S : Int) post' := by
  have h3 := h.2.2.2.1.2.2.2.1
  have p6 : ∀ k, k ≤ 6 → 6 ^ k ≤ 46656 := fun k hk => Nat.pow_le_pow_right (n := 6) (by decide) hk
  have p61 : ∀ k, 0 < 6 ^ k := fun k => Nat.pow_pos (by decide)
  unfold v_X12_shodBy v_X12_shodBy_4
  intro ZZ hZ
  refine lpN (S := fun k => ZZ ((6 ^ k : Nat) : Int) ((k + 1 : Nat) : Int)) (N := P - 1) (fun k hk ih => hZ _ _ (n_people h ?_)) (hZ _ _ (n_people h ?_))
  · have := p6 k (by omega)
    rw [Nat.pow_succ] at ih
    generalize 6 ^ k = m at this ih
    refine ⟨fun c => by omega, fun _ => ⟨⟨by omega, by omega⟩, ?_⟩⟩
    rintro _ rfl
    refine ⟨⟨by omega, by omega⟩, ?_⟩
    rintro _ rfl
    exact ih
  · refine ⟨fun _ => ?_, fun c => by omega⟩
    have eN : 6 * 6 ^ (P - 1) = 6 ^ P := by rw [show 6 ^ P = 6 ^ ((P - 1) + 1) by rw [show P - 1 + 1 = P by omega], Nat.pow_succ]; omega
    have lu := p6 (P - 1) (by omega)
    have lN := p6 P (by omega)
    unfold v_X12_shodBy_25
    intro Z2 hZ2
    refine lpN (S := fun c => fstF (vdB (mxB n T) S P) 0 (6 ^ P) = fstF (vdB (mxB n T) S P) c (6 ^ P - c) → Z2 ((6 ^ (P - 1) : Nat) : Int) (c : Int)) (N := 6 ^ P) (fun c hc ih hm => hZ2 _ _ ?_) (fun hm => hZ2 _ _ ?_) rfl
    · refine ⟨⟨by omega, by omega⟩, fun c2 => by omega, fun _ => ?_⟩
      rw [show 6 ^ P - c = (6 ^ P - (c + 1)) + 1 by omega, fstF] at hm
      -- behind a code: the next, or the answer
      have fin : ∀ bb : Bool, bb = vdB (mxB n T) S P c → v_X12_shodBy_160 J 128 (S : Int) post' Z2 ((6 ^ (P - 1) : Nat) : Int) (c : Int) (bZ bb) := by
        intro bb eb
        cases hbb : bb with
        | true =>
          refine ⟨fun c2 => absurd c2 (by decide), fun _ => ?_⟩
          rw [if_pos (by rw [← eb]; exact hbb)] at hm
          rw [hm] at hq; exact hq
        | false =>
          refine ⟨fun _ => ⟨⟨by omega, by omega⟩, ?_⟩, fun c2 => absurd rfl c2⟩
          rintro _ rfl
          rw [if_neg (by rw [← eb, hbb]; decide)] at hm
          exact ih hm
      have dg : ∀ a, a < P → remZ (divZ (c : Int) ((6 ^ (P - 1 - a) : Nat) : Int)) 6 = (digN P c a : Int) := fun a ha => by
        have := p6 (P - 1 - a) (by omega)
        rcases dig_rd (P := P) (a := a) (show c < 46656 by omega) with h | h
        · exact h
        · omega
      have dv : ∀ k : Nat, k ≤ 6 → divZ ((6 ^ (k + 1) : Nat) : Int) 6 = ((6 ^ k : Nat) : Int) := fun k hk => by
        have h1 := Nat.pow_le_pow_right (n := 6) (by decide) (show k + 1 ≤ 7 by omega)
        have := divZ_nat (a := 6 ^ (k + 1)) (d := 6) (by omega) (by decide) (by decide)
        rw [show ((6 : Nat) : Int) = 6 from rfl] at this
        rw [this, Nat.pow_succ, Nat.mul_div_cancel _ (by decide)]
      have dv1 : divZ ((6 ^ 0 : Nat) : Int) 6 = 0 := by
        have := divZ_nat (a := 1) (d := 6) (by decide) (by decide) (by decide)
        rw [show ((6 : Nat) : Int) = 6 from rfl] at this
        exact this
      -- the digit's unit behind a
      have un : ∀ a, a < P → ∃ v : Int, divZ ((6 ^ (P - 1 - a) : Nat) : Int) 6 = v ∧ (a + 1 < P → v = ((6 ^ (P - 1 - (a + 1)) : Nat) : Int)) := fun a ha => by
        by_cases e : a + 1 < P
        · exact ⟨_, rfl, fun _ => by rw [show P - 1 - a = (P - 1 - (a + 1)) + 1 by omega]; exact dv _ (by omega)⟩
        · exact ⟨_, rfl, fun c => absurd c e⟩
      unfold v_X12_shodBy_42
      intro Z3 hZ3
      -- once it does not fit, it is over
      have bad : vdB (mxB n T) S P c = false → ∀ (v5 : Int) (a : Nat), Z3 ((6 ^ (P - 1) : Nat) : Int) (c : Int) 0 v5 (a : Int) := by
        intro hv v5 a
        refine hZ3 _ _ _ _ _ (n_people h ⟨fun _ => fin false hv.symm, fun _ => ⟨fun _ => fin false hv.symm, fun c2 => absurd rfl c2⟩⟩)
      have notok : ∀ a, a < P → okD (mxB n T) S (digN P c) a = false → vdB (mxB n T) S P c = false := fun a ha hb => Bool.eq_false_iff.mpr (fun cv => by rw [vdB_iff.mp cv a ha] at hb; exact Bool.noConfusion hb)
      have key : ∀ d a : Nat, a + d = P → ∀ v5 : Int, (a < P → v5 = ((6 ^ (P - 1 - a) : Nat) : Int)) → (∀ i, i < a → okD (mxB n T) S (digN P c) i = true) → Z3 ((6 ^ (P - 1) : Nat) : Int) (c : Int) 1 v5 (a : Int) := by
        intro d
        induction d with
        | zero =>
          intro a ea v5 e5 hok
          have ea : a = P := by omega
          subst ea
          exact hZ3 _ _ _ _ _ (n_people h ⟨fun _ => fin true (vdB_iff.mpr hok).symm, fun c2 => by omega⟩)
        | succ d ihd =>
          intro a ea v5 e5 hok
          have ha : a < P := by omega
          have e5 := e5 ha
          subst e5
          have pu := p61 (P - 1 - a)
          obtain ⟨vn, evn, hvn⟩ := un a ha
          refine hZ3 _ _ _ _ _ (n_people h ⟨fun c2 => by omega, fun _ => ⟨fun c2 => absurd c2 (by decide), fun _ => ⟨by omega, ?_⟩⟩⟩)
          rw [dg a ha]
          refine ⟨fun c2 => ?_, fun c2 => ?_⟩
          · -- a shoe that there is not
            have hbad := notok a ha (by unfold okD; rw [decide_eq_false (by omega), Bool.false_and])
            unfold v_X12_shodBy_80
            intro Z4 hZ4
            refine hZ4 _ _ _ _ _ _ _ ⟨fun _ => ?_, fun _ => ⟨fun _ => ?_, fun c3 => absurd rfl c3⟩⟩
            · rintro _ rfl
              refine ⟨⟨by omega, by omega⟩, ?_⟩
              rintro _ rfl
              exact bad hbad _ (a + 1)
            · rintro _ rfl
              refine ⟨⟨by omega, by omega⟩, ?_⟩
              rintro _ rfl
              exact bad hbad _ (a + 1)
          · have hds : digN P c a < S := by omega
            unfold v_X12_shodBy_80
            intro Z4 hZ4
            have bad4 : vdB (mxB n T) S P c = false → ∀ (v7 : Int) (q : Nat), Z4 ((6 ^ (P - 1) : Nat) : Int) (c : Int) 0 ((6 ^ (P - 1 - a) : Nat) : Int) (a : Int) v7 (q : Int) := by
              intro hbad v7 q
              refine hZ4 _ _ _ _ _ _ _ ⟨fun _ => ?_, fun _ => ⟨fun _ => ?_, fun c3 => absurd rfl c3⟩⟩
              · rintro _ rfl
                refine ⟨⟨by omega, by omega⟩, ?_⟩
                rintro _ rfl
                exact bad hbad _ (a + 1)
              · rintro _ rfl
                refine ⟨⟨by omega, by omega⟩, ?_⟩
                rintro _ rfl
                exact bad hbad _ (a + 1)
            have key4 : ∀ d4 q : Nat, q + d4 = a → ∀ v7 : Int, v7 = ((6 ^ (P - 1 - q) : Nat) : Int) → anyF (fun b => decide (digN P c a = digN P c b) && mxB n T a b) q = false → Z4 ((6 ^ (P - 1) : Nat) : Int) (c : Int) 1 ((6 ^ (P - 1 - a) : Nat) : Int) (a : Int) v7 (q : Int) := by
              intro d4
              induction d4 with
              | zero =>
                intro q eq v7 e7 hany
                have eq : q = a := by omega
                subst eq
                refine hZ4 _ _ _ _ _ _ _ ⟨fun _ => ?_, fun c3 => absurd (Int.le_refl _) c3⟩
                rintro _ rfl
                refine ⟨⟨by omega, by omega⟩, ?_⟩
                rintro _ rfl
                refine ihd (q + 1) (by omega) _ (fun c3 => by rw [evn]; exact hvn c3) (fun i hi => ?_)
                by_cases e : i = q
                · rw [e]; unfold okD; rw [hany, decide_eq_true hds]; rfl
                · exact hok i (by omega)
              | succ d4 ih4 =>
                intro q eq v7 e7 hany
                subst e7
                have pq := p61 (P - 1 - q)
                have hqP : q < P := by omega
                obtain ⟨vq, evq, hvq⟩ := un q hqP
                refine hZ4 _ _ _ _ _ _ _ ⟨fun c3 => by omega, fun _ => ⟨fun c3 => absurd c3 (by decide), fun _ => ⟨by omega, by omega, ?_⟩⟩⟩
                rw [dg a ha, dg q hqP]
                have nx : (decide (digN P c a = digN P c q) && mxB n T a q) = false → v_X12_shodBy_127 J 128 (S : Int) post' Z4 ((6 ^ (P - 1) : Nat) : Int) (c : Int) ((6 ^ (P - 1 - a) : Nat) : Int) (a : Int) ((6 ^ (P - 1 - q) : Nat) : Int) (q : Int) := by
                  intro hf
                  unfold v_X12_shodBy_127
                  rintro _ rfl
                  refine ⟨⟨by omega, by omega⟩, ?_⟩
                  rintro _ rfl
                  exact ih4 (q + 1) (by omega) _ (by rw [evq]; exact hvq (by omega)) (by rw [anyF, hany, hf]; rfl)
                refine ⟨fun c3 => nx (by rw [decide_eq_false (by omega), Bool.false_and]), fun c3 => ⟨⟨by omega, by omega⟩, ⟨by omega, by omega⟩, ?_⟩⟩
                simp only [Int.toNat_natCast]
                rw [show J (128 + 19) a = _ from hb a ha, show J (128 + 19) q = _ from hb q hqP]
                have la := hoF_lt (p := a) hV
                have lq := hoF_lt (p := q) hV
                rw [andZ_nat (by omega) (by omega)]
                refine ⟨fun c4 => ?_, fun c4 => nx ?_⟩
                · have hbad := notok a ha (by
                    unfold okD
                    rw [(anyF_iff (P := fun b => decide (digN P c a = digN P c b) && mxB n T a b) a).mpr ⟨q, by omega, by rw [decide_eq_true (by omega)]; unfold mxB; rw [decide_eq_true (by omega)]; rfl⟩, Bool.not_true, Bool.and_false])
                  rintro _ rfl
                  refine ⟨⟨by omega, by omega⟩, ?_⟩
                  rintro _ rfl
                  exact bad4 hbad _ (q + 1)
                · unfold mxB; rw [decide_eq_false (p := (hoF T n a &&& hoF T n q) ≠ 0) (fun c5 => c5 (by omega)), Bool.and_false]
            exact key4 a 0 (by omega) _ (by rw [Nat.sub_zero]) rfl
      exact key P 0 (by omega) _ (fun _ => by rw [Nat.sub_zero]) (fun i hi => absurd hi (Nat.not_lt_zero _))
    · refine ⟨⟨by omega, by omega⟩, fun _ => ?_, fun c2 => by omega⟩
      rw [Nat.sub_self, fstF] at hm
      rw [hm] at hq; exact hq
theorem m_apart {J : mJ} {a1 a2 r : Int} {t : Nat} (hI : TI J t (J 129)) (hU : UV (J 128)) (hw : ir a2) (hA : isApA (J 129) a1 a2 r) {post' : Int → mJ → Prop} (hq : ∀ J1, MF J J1 → post' r J1) : v_X12_apart J 128 a1 a2 post' := by
  unfold v_X12_apart
  unfold isApA at hA
  refine n_isHouse hI hU (fun c => ⟨fun _ => lf (hq J (MF_refl hU)) ?_, fun c2 => Bool.noConfusion c2⟩) (fun k J1 ek hk hk2 hM hp f1 f2 => ⟨fun c2 => Bool.noConfusion c2, fun _ => ?_⟩)
  · rw [if_neg c] at hA; exact hA.symm
  · subst ek
    rw [if_pos ⟨by omega, hk⟩, Int.toNat_natCast] at hA
    have hv := hM.2.2.2.1
    generalize gH (J 129) k = g at hM hv hA
    have h3 := hv.2.2.2.1
    have hn := gRun_le hv
    have s1 := subW_far (b := 10) hw (by decide)
    obtain ⟨P, eP⟩ : ∃ P : Nat, g 3 = (P : Int) := ⟨(g 3).toNat, by omega⟩
    rw [eP, Int.toNat_natCast] at hA
    have go : (a2 = 0 ∨ 10 ≤ a2 ∧ a2 < 10 + (P : Int)) → v_X12_apart_25 128 (k : Int) a2 post' J1 := by
      intro ca
      unfold v_X12_apart_25
      refine n_people hM ⟨fun c => n_runs hM hp (fun J2 hR hM2 hp2 f3 f4 => ?_), fun c => lf (hq J1 (MF_one f1 (UV_of hM))) ?_⟩
      · rw [if_neg (by omega)] at hA
        obtain ⟨S, cc, hap, er⟩ := hA
        obtain ⟨q1, q2, q3, q4⟩ := hap
        unfold v_X12_apart_40
        intro ZZ hZ
        refine lpN (S := fun p => ∀ J3, (∀ c, c ≠ 147 → J3 c = J2 c) → (∀ i, i < p → J3 147 i = (hoF (gRun g).2 (gRun g).1 i : Int)) → ZZ J3 (p : Int)) (N := P) (fun p hpP ih J3 f5 hh => hZ _ _ ?_) (fun J3 f5 hh => hZ _ _ ?_) J2 (fun _ _ => rfl) (fun i hi => absurd hi (Nat.not_lt_zero _))
        · have hM3 : MH J3 (610 + 149 * k) g (J1 128) ∨ True := Or.inr trivial
          have hM3 : MH J3 (610 + 149 * k) g (J2 128) := MH_frame (f5 129 (by decide)) (fun k _ _ _ => by rw [f5 128 (by decide)]) hM2
          have hR3 : MR J3 (gRun g).1 (gRun g).2 := MR_frame (fun j hj => f5 _ (by omega)) (by rw [f5 128 (by decide)]) hR.1
          refine n_people hM3 ⟨fun c => by omega, fun _ => m_heardOf (gRun_TV hv) hR3 hn ⟨⟨by omega, by omega⟩, ?_⟩⟩
          rw [Int.toNat_natCast]
          rintro J4 rfl
          refine ⟨⟨by omega, by omega⟩, ?_⟩
          rintro _ rfl
          refine ih _ (fun c hc => by rw [up2_n _ _ _ hc]; exact f5 c hc) (fun i hi => ?_)
          show up2 J3 (128 + 19) p _ (128 + 19) i = _
          rw [up2_s]
          by_cases e : i = p
          · rw [e, up1_s]
          · rw [up1_n _ _ e]; exact hh i (by omega)
        · have hM3 : MH J3 (610 + 149 * k) g (J2 128) := MH_frame (f5 129 (by decide)) (fun k _ _ _ => by rw [f5 128 (by decide)]) hM2
          refine n_people hM3 ⟨fun _ => ?_, fun c => by omega⟩
          have h := hq J3 ⟨fun c hc => by rw [f5 c (by omega), f3 c (by omega) (by omega), f1 c (by omega)], UV_of hM3⟩
          unfold v_X12_apart_67
          intro Z2 hZ2
          have key : ∀ d s, s + d = S → 1 ≤ s → Z2 J3 (s : Int) := by
            intro d
            induction d with
            | zero =>
              intro s es hs
              have es : s = S := by omega
              subst es
              refine hZ2 _ _ (n_shodBy (n := (gRun g).1) (T := (gRun g).2) hM3 (gRun_TV hv) eP (by omega) (by omega) hh ?_)
              rw [fst_isFs _ q3]
              refine ⟨fun _ => ?_, fun c2 => by omega⟩
              unfold v_X12_apart_82
              refine ⟨fun c2 => n_shodBy (n := (gRun g).1) (T := (gRun g).2) hM3 (gRun_TV hv) eP (by omega) (by omega) hh ?_, fun c2 => lf h ?_⟩
              · rw [fst_isFs _ q3]
                refine n_people hM3 ⟨⟨by omega, by omega⟩, ?_⟩
                rw [eP]
                rintro _ rfl
                have l6 : cc < 46656 := by
                  have h1 := q3.2.1
                  have h2 := Nat.pow_le_pow_right (n := 6) (by decide) (show P ≤ 6 by omega)
                  omega
                obtain ⟨p, ep⟩ : ∃ p : Nat, subW a2 10 = (p : Int) := ⟨(subW a2 10).toNat, by omega⟩
                have hpP : p < P := by omega
                unfold v_X12_apart_103
                intro Z3 hZ3
                have k3 : ∀ d j : Nat, j + d = P - 1 - p → ∀ v5 : Int, v5 = (P : Int) - 1 - (j : Int) → Z3 J3 ((cc / 6 ^ j : Nat) : Int) v5 := by
                  intro d
                  induction d with
                  | zero =>
                    intro j ej v5 e5
                    apply hZ3
                    rw [ep]
                    refine ⟨fun _ => lf h ?_, fun c3 => by omega⟩
                    have l7 : cc / 6 ^ j < 2 ^ 31 := Nat.lt_of_le_of_lt (Nat.div_le_self _ _) (by omega)
                    have := remZ_nat (a := cc / 6 ^ j) (d := 6) l7 (by decide) (by decide)
                    rw [show ((6 : Nat) : Int) = 6 from rfl] at this
                    rw [this, er, if_neg c2, if_pos (by omega), show (a2 - 10).toNat = p by omega]
                    unfold digN
                    rw [show P - 1 - p = j by omega]
                  | succ d ih3 =>
                    intro j ej v5 e5
                    apply hZ3
                    rw [ep]
                    refine ⟨fun c3 => by omega, fun _ => ?_⟩
                    rintro _ rfl
                    refine ⟨⟨by omega, by omega⟩, ?_⟩
                    rintro _ rfl
                    have l7 : cc / 6 ^ j < 2 ^ 31 := Nat.lt_of_le_of_lt (Nat.div_le_self _ _) (by omega)
                    have := divZ_nat (a := cc / 6 ^ j) (d := 6) l7 (by decide) (by decide)
                    rw [show ((6 : Nat) : Int) = 6 from rfl] at this
                    rw [this, Nat.div_div_eq_div_mul, ← Nat.pow_succ]
                    exact ih3 (j + 1) (by omega) _ (by omega)
                have k0 := k3 (P - 1 - p) 0 (by omega) ((P : Int) - 1) (by omega)
                rw [Nat.pow_zero, Nat.div_one] at k0
                exact k0
              · rw [er, if_pos c2]
            | succ d ih =>
              intro s es hs
              refine hZ2 _ _ (n_shodBy (n := (gRun g).1) (T := (gRun g).2) hM3 (gRun_TV hv) eP (by omega) (by omega) hh ?_)
              rw [fst_isNo _ (q4 s hs (by omega))]
              refine ⟨fun c2 => absurd rfl c2, fun _ => ⟨⟨by omega, by omega⟩, ?_⟩⟩
              rintro _ rfl
              exact ih (s + 1) (by omega) (by omega)
          exact key (S - 1) 1 (by omega) (Nat.le_refl _)
      · rw [if_pos (by omega), if_pos (c := a2 = 0) (by omega)] at hA
        exact hA.symm
    refine ⟨fun c => go (Or.inl c), fun c => n_isPerson hM (fun c2 => ⟨fun c2 => Bool.noConfusion c2, fun _ => lf (hq J1 (MF_one f1 (UV_of hM))) ?_⟩) (fun p ep hp3 hp6 => ⟨fun _ => go (Or.inr (by omega)), fun c2 => Bool.noConfusion c2⟩)⟩
    by_cases e0 : (P : Int) = 0
    · rw [if_pos e0, if_neg c] at hA; exact hA.symm
    · rw [if_neg e0] at hA
      obtain ⟨S, cc, hap, er⟩ := hA
      rw [er, if_neg c, if_neg (by omega)]
