/-! home and thief -/
def InvR (J : mJ) : Prop := ∀ (k p f e mi : Nat) (fl : Int), k < 2 → J 70 3 = (k : Int) → J 70 4 = (p : Int) → J 70 5 = (f : Int) → J 70 6 = (e : Int) → J 70 7 = (mi : Int) → J 70 8 = fl → RtP J (qF (gH (J 129) k) p mi fl) (gH (J 129) k 0).toNat (gH (J 129) k (43 + 14 * p)).toNat f e
theorem RtP_frame {J J1 : mJ} {q : Nat → Nat → Nat} {S R f e : Nat} (h1 : J1 70 0 = J 70 0) (h2 : J1 70 1 = J 70 1) (h3 : J1 71 = J 71) (h : RtP J q S R f e) : RtP J1 q S R f e := by unfold RtP; rw [h1, h2, h3]; exact h
theorem InvR_frame {J J1 : mJ} (h1 : J1 70 = J 70) (h2 : J1 71 = J 71) (h3 : ∀ k, k < 2 → gH (J1 129) k = gH (J 129) k) (h : InvR J) : InvR J1 := by
  intro k p f e mi fl hk a3 a4 a5 a6 a7 a8
  rw [h1] at a3 a4 a5 a6 a7 a8
  rw [h3 k hk]
  exact RtP_frame (by rw [h1]) (by rw [h1]) h2 (h k p f e mi fl hk a3 a4 a5 a6 a7 a8)
def XG (J J1 : mJ) : Prop := ∀ c, (c < 66 ∨ 128 ≤ c) → J1 c = J c
theorem XF_XG {J J1 : mJ} (h : XF J J1) : XG J J1 := fun c hc => h c (by omega)
abbrev Err (g : Nat → Int) (a2 a3 a4 a5 : Int) : Prop := (0 ≤ a2 ∧ a2 < g 3) ∧ (0 ≤ a3 ∧ a3 < g 0) ∧ (0 ≤ a4 ∧ a4 < g 0) ∧ 0 ≤ a5 ∧ a5 < 100
theorem x_isErrand {J : mJ} {h : Nat} {g : Nat → Int} (hv : HV g) (hr : HR J h g) {a2 a3 a4 a5 : Int} {post' : Bool → Prop} (h0 : ¬ Err g a2 a3 a4 a5 → post' false) (h1 : Err g a2 a3 a4 a5 → post' true) : v_X11_isErrand J h a2 a3 a4 a5 post' := by
  unfold v_X11_isErrand
  refine x_hasP hv hr (fun c => ⟨fun _ => h0 (fun e => c e.1), fun c2 => Bool.noConfusion c2⟩) (fun p ep hp _ => ⟨fun c2 => Bool.noConfusion c2, fun _ => x_hasS hv hr (fun c => ⟨fun _ => h0 (fun e => c e.2.1), fun c2 => Bool.noConfusion c2⟩) (fun s es hs _ => ⟨fun c2 => Bool.noConfusion c2, fun _ => x_hasS hv hr (fun c => ⟨fun _ => h0 (fun e => c e.2.2.1), fun c2 => Bool.noConfusion c2⟩) (fun s2 es2 hs2 _ => ⟨fun c2 => Bool.noConfusion c2, fun _ => ⟨fun c => h0 (fun e => by have := e.2.2.2; omega), fun c => ⟨fun c2 => h0 (fun e => by have := e.2.2.2; omega), fun c2 => h1 ⟨by omega, by omega, by omega, by omega⟩⟩⟩⟩)⟩)⟩)
def NwS (J J6 : mJ) (a1 a2 a3 a4 a5 a6 : Int) : Prop := (J6 70 0 = J 70 0 ∧ J6 70 1 = J 70 1) ∧ (J6 70 3 = a1 ∧ J6 70 4 = a2 ∧ J6 70 5 = a3 ∧ J6 70 6 = a4 ∧ J6 70 7 = a5 ∧ J6 70 8 = a6) ∧ ∀ c, c ≠ 70 → J6 c = J c
theorem x_isNew {J : mJ} {a1 a2 a3 a4 a5 a6 : Int} {post' : Bool → mJ → Prop} (hs : J 70 3 = a1 → J 70 4 = a2 → J 70 5 = a3 → J 70 6 = a4 → J 70 7 = a5 → J 70 8 = a6 → ∀ J6, NwS J J6 a1 a2 a3 a4 a5 a6 → post' false J6) (hn : ∀ J6, NwS J J6 a1 a2 a3 a4 a5 a6 → post' true J6) : v_X7_isNew J 70 a1 a2 a3 a4 a5 a6 post' := by
  have k56 : ∀ s0 : Int, (¬ s0 = 0 → ∀ J6, NwS J J6 a1 a2 a3 a4 a5 a6 → post' false J6) → v_X7_isNew_56 70 a1 a2 a3 a4 a5 a6 post' J s0 := by
    intro s0 q0
    unfold v_X7_isNew_56
    rintro J1 rfl J2 rfl J3 rfl J4 rfl J5 rfl J6 rfl
    have n : NwS J (up2 (up2 (up2 (up2 (up2 (up2 J 70 3 a1) 70 4 a2) 70 5 a3) 70 6 a4) 70 7 a5) 70 8 a6) a1 a2 a3 a4 a5 a6 := by
      refine ⟨⟨?_, ?_⟩, ⟨?_, ?_, ?_, ?_, ?_, ?_⟩, fun c hc => by rw [up2_n _ _ _ hc, up2_n _ _ _ hc, up2_n _ _ _ hc, up2_n _ _ _ hc, up2_n _ _ _ hc, up2_n _ _ _ hc]⟩ <;> simp [up2_s, up1]
    exact ⟨fun c => q0 c _ n, fun c => hn _ n⟩
  have k55 : v_X7_isNew_55 70 a1 a2 a3 a4 a5 a6 post' J := k56 0 (fun c => absurd rfl c)
  unfold v_X7_isNew
  exact ⟨fun _ => k55, fun e1 => ⟨fun _ => k55, fun e2 => ⟨fun _ => k55, fun e3 => ⟨fun _ => k55, fun e4 => ⟨fun _ => k55, fun e5 => ⟨fun _ => k55, fun e6 => k56 1 (fun _ => hs e1 e2 e3 e4 e5 e6)⟩⟩⟩⟩⟩⟩
theorem cl_2 {x : Nat × Nat} : ((clA x).2 = -1 ↔ ¬ x.1 < 1000) := by
  unfold clA; split
  · next c => exact ⟨fun h => by change (x.2 : Int) = -1 at h; omega, fun h => absurd c h⟩
  · next c => exact ⟨fun _ => c, fun _ => rfl⟩
theorem x_hasRoute {J : mJ} {a1 a2 a3 a4 a5 fl : Int} (hI : TI J 1 (J 129)) (hE : InvE J) (hR : InvR J) (hfl : fl = -1 ∨ 0 ≤ fl ∧ fl < 64) {post' : Bool → mJ → Prop} (h0 : ¬ ((0 ≤ a1 ∧ a1 < J 129 0) ∧ Err (gH (J 129) a1.toNat) a2 a3 a4 a5) → ∀ J1, XG J J1 → InvE J1 → InvR J1 → post' false J1) (h1 : ((0 ≤ a1 ∧ a1 < J 129 0) ∧ Err (gH (J 129) a1.toNat) a2 a3 a4 a5) → ∀ J1, XG J J1 → InvE J1 → InvR J1 → RtP J1 (qF (gH (J 129) a1.toNat) a2.toNat a5.toNat fl) (gH (J 129) a1.toNat 0).toNat (gH (J 129) a1.toNat (43 + 14 * a2.toNat)).toNat a3.toNat a4.toNat → post' (decide ((bsF (aN (qF (gH (J 129) a1.toNat) a2.toNat a5.toNat fl) (gH (J 129) a1.toNat 0).toNat (gH (J 129) a1.toNat (43 + 14 * a2.toNat)).toNat a3.toNat a4.toNat) 61).1 < 1000)) J1) : v_X11_hasRoute J a1 a2 a3 a4 a5 fl post' := by
  unfold v_X11_hasRoute
  refine x_eveningAt hI hE (fun c => ⟨fun _ => h0 (fun c2 => c c2.1) J (fun _ _ => rfl) hE hR, fun q c2 => (by cases c2)⟩) (fun k J1 ek hk hk2 hv hr hO hX hE1 => ⟨fun c2 => (by cases c2), fun q eq => ?_⟩)
  cases eq
  subst ek
  rw [Int.toNat_natCast] at h0 h1
  rw [hE_k]
  have g129 : J1 129 = J 129 := hX 129 (by omega)
  have hR1 : InvR J1 := InvR_frame (hX 70 (by omega)) (hX 71 (by omega)) (fun k _ => by rw [g129]) hR
  have hG1 : XG J J1 := fun c hc => hX c (by omega)
  refine x_isErrand hv hr (fun c => ⟨fun c2 => Bool.noConfusion c2, fun _ => h0 (fun c2 => c c2.2) J1 hG1 hE1 hR1⟩) (fun er => ⟨fun _ => ?_, fun c2 => Bool.noConfusion c2⟩)
  have h1 := h1 ⟨⟨by omega, hk⟩, er⟩
  obtain ⟨p, rfl⟩ : ∃ p : Nat, a2 = (p : Int) := ⟨a2.toNat, by omega⟩
  obtain ⟨f, rfl⟩ : ∃ p : Nat, a3 = (p : Int) := ⟨a3.toNat, by omega⟩
  obtain ⟨e, rfl⟩ : ∃ p : Nat, a4 = (p : Int) := ⟨a4.toNat, by omega⟩
  obtain ⟨mi, rfl⟩ : ∃ p : Nat, a5 = (p : Int) := ⟨a5.toNat, by omega⟩
  simp only [Int.toNat_natCast] at h1
  obtain ⟨⟨_, hp⟩, ⟨_, hf⟩, ⟨_, he⟩, _, hm⟩ := er
  have g0 := hv.1
  obtain ⟨_, _, h43, _⟩ := hv.2.2.2.2.2.2.2.1 p hp
  have fin : ∀ J9 : mJ, RtP J9 (qF (gH (J 129) k) p mi fl) (gH (J 129) k 0).toNat (gH (J 129) k (43 + 14 * p)).toNat f e → J9 70 3 = (k : Int) → J9 70 4 = (p : Int) → J9 70 5 = (f : Int) → J9 70 6 = (e : Int) → J9 70 7 = (mi : Int) → J9 70 8 = fl → XG J J9 → InvE J9 → v_X11_hasRoute_79 (k : Int) (p : Int) (f : Int) (e : Int) (mi : Int) fl post' J9 := by
    intro J9 hRt b3 b4 b5 b6 b7 b8 hG hE9
    have hR9 : InvR J9 := by
      intro k' p' f' e' mi' fl' hk' c3 c4 c5 c6 c7 c8
      have e1 : k' = k := by omega
      have e2 : p' = p := by omega
      have e3 : f' = f := by omega
      have e4 : e' = e := by omega
      have e5 : mi' = mi := by omega
      have e6 : fl' = fl := by omega
      subst e1 e2 e3 e4 e5 e6
      rw [hG 129 (by omega)]; exact hRt
    have h1 := h1 J9 hG hE9 hR9 hRt
    unfold v_X11_hasRoute_79
    rw [hRt.1.2]
    refine ⟨fun c => ?_, fun c => ?_⟩
    · rw [decide_eq_false (cl_2.mp c)] at h1; exact h1
    · rw [decide_eq_true (Classical.not_not.mp (fun c2 => c (cl_2.mpr c2)))] at h1; exact h1
  refine x_isNew (fun b3 b4 b5 b6 b7 b8 J6 nw => ⟨fun _ => ?_, fun c2 => Bool.noConfusion c2⟩) (fun J6 nw => ⟨fun c2 => Bool.noConfusion c2, fun _ => ⟨⟨by omega, by omega⟩, ?_⟩⟩)
  · obtain ⟨⟨n0, n1⟩, ⟨n3, n4, n5, n6, n7, n8⟩, nf⟩ := nw
    have rt := hR1 k p f e mi fl hk2 b3 b4 b5 b6 b7 b8
    rw [g129] at rt
    refine fin J6 (RtP_frame n0 n1 (nf 71 (by decide)) rt) n3 n4 n5 n6 n7 n8 (fun c hc => by rw [nf c (by omega)]; exact hG1 c hc) ?_
    intro k' hk' hf' hk0
    rw [nf 129 (by decide)] at hk0 ⊢
    rw [nf (94 + 17 * k') (by omega)] at hf'
    exact EvO_frame (fun i hi => nf _ (by omega)) (hE1 k' hk' hf' hk0)
  · obtain ⟨⟨n0, n1⟩, ⟨n3, n4, n5, n6, n7, n8⟩, nf⟩ := nw
    rw [show (mi : Int) + 1 = ((mi + 1 : Nat) : Int) by omega]
    refine x_watch (m := 60) hv (EvO_frame (fun i hi => nf _ (by omega)) hO) (by omega) hp (by decide) (by omega) (fun J8 f8 hW => ?_)
    have q8 : ∀ c, c ≠ 70 → (c < 66 ∨ 69 < c) → J8 c = J1 c := fun c h1 h2 => by rw [f8 c h2]; exact nf c h1
    have q70 : J8 70 = J6 70 := f8 70 (by omega)
    refine x_plan (S := (gH (J 129) k 0).toNat) (R := (gH (J 129) k (43 + 14 * p)).toNat) (f := f) (e := e) hv (HR_frame (fun i hi => q8 _ (by omega) (by omega)) hr) (by omega) (by omega) (EvO_frame (fun i hi => q8 _ (by omega) (by omega)) hO) hW hp (by omega) (by omega) (by omega) (by rw [q70]; exact n4) (by rw [q70]; exact n5) (by rw [q70]; exact n6) (by rw [q70]; exact n7) (by rw [q70]; exact n8) hfl (by omega) (by omega) (fun J9 hRt k9 f9 => ?_)
    have q9 : ∀ c, (c < 66 ∨ 74 < c) → J9 c = J1 c := fun c hc => by rw [f9 c (by omega)]; exact q8 c (by omega) (by omega)
    refine fin J9 hRt (by rw [k9 3 (by decide), q70]; exact n3) (by rw [k9 4 (by decide), q70]; exact n4) (by rw [k9 5 (by decide), q70]; exact n5) (by rw [k9 6 (by decide), q70]; exact n6) (by rw [k9 7 (by decide), q70]; exact n7) (by rw [k9 8 (by decide), q70]; exact n8) (fun c hc => by rw [q9 c (by omega)]; exact hG1 c hc) ?_
    intro k' hk' hf' hk0
    rw [q9 129 (by omega)] at hk0 ⊢
    rw [q9 (94 + 17 * k') (by omega)] at hf'
    exact EvO_frame (fun i hi => q9 _ (by omega)) (hE1 k' hk' hf' hk0)
/-- the steps of a way by what is asked -/
def rowA (w : Int) (n : Nat) (W : Nat → Nat) : Int := if 10 ≤ w ∧ w < 10 + (n : Int) then ((W ((w - 10).toNat + 1) : Nat) : Int) else -1
def bHome (q : Nat → Nat → Nat) (S R f e : Nat) (w : Int) : Int := if (bsF (aN q S R f e) 61).1 < 1000 then (if w = 0 then ((bsF (aN q S R f e) 61).2 : Int) else rowA w (bsF (aN q S R f e) 61).2 (wyF q S R f e (bsF (aN q S R f e) 61).2)) else -1
def bThief (q : Nat → Nat → Nat) (S R f e : Nat) (w : Int) : Int := if (bsF (aN q S R f e) 61).1 < 1000 then (if w = 0 then ((bsF (aN q S R f e) 61).1 : Int) else if w = 1 then ((bsF (aN q S R f e) 61).2 : Int) else rowA w (bsF (aN q S R f e) 61).2 (wyF q S R f e (bsF (aN q S R f e) 61).2)) else -1
theorem x_pickRow {J : mJ} {w : Int} {n : Nat} {W : Nat → Nat} (hw : ir w) (hn : n ≤ 60) (h1 : J 70 1 = (n : Int)) (h2 : ∀ i, i < n → J 71 i = ((W (i + 1) : Nat) : Int)) {post' : Int → Prop} (hq : post' (rowA w n W)) : v_X11_pick J 71 60 (subW w 10) (J 70 1) (-1) post' := by
  refine p_X11_pick (by decide) ?_
  rw [h1]
  unfold rowA at hq
  rcases subW_far (a := w) (b := 10) hw (by decide) with c | c
  · rw [c]
    by_cases c2 : 10 ≤ w ∧ w < 10 + (n : Int)
    · rw [if_pos c2] at hq
      rw [if_pos ⟨by omega, by omega, by omega⟩, h2 _ (by omega)]; exact hq
    · rw [if_neg c2] at hq
      rw [if_neg (by omega)]; exact hq
  · rw [if_neg (by omega)] at hq
    rw [if_neg (by omega)]; exact hq
def aHome (A : Nat → Int) (a1 a2 a3 a4 a5 a6 a7 : Int) : Int := if ((0 ≤ a1 ∧ a1 < A 0) ∧ Err (gH A a1.toNat) a2 a3 a4 a5) ∧ 0 ≤ a6 ∧ a6 < ((2 ^ (gH A a1.toNat 2).toNat : Nat) : Int) then bHome (qF (gH A a1.toNat) a2.toNat a5.toNat a6) (gH A a1.toNat 0).toNat (gH A a1.toNat (43 + 14 * a2.toNat)).toNat a3.toNat a4.toNat a7 else -1
def aThief (A : Nat → Int) (a1 a2 a3 a4 a5 a6 : Int) : Int := if (0 ≤ a1 ∧ a1 < A 0) ∧ Err (gH A a1.toNat) a2 a3 a4 a5 then bThief (qF (gH A a1.toNat) a2.toNat a5.toNat (-1)) (gH A a1.toNat 0).toNat (gH A a1.toNat (43 + 14 * a2.toNat)).toNat a3.toNat a4.toNat a6 else -1
theorem flats_ok {a : Int} (ha : ir a) {F : Nat} (hF : F ≤ 6) : andZ a (xorZ ((2 ^ F - 1 : Nat) : Int) (-1)) = 0 ↔ 0 ≤ a ∧ a < ((2 ^ F : Nat) : Int) := by
  have h64 : 2 ^ F ≤ 2 ^ 6 := Nat.pow_le_pow_right (by decide) hF
  have hpos : 0 < 2 ^ F := Nat.two_pow_pos F
  have ea : (zi a).toInt = a := zi_toInt ha
  have cond : a = if 2 * (zi a).toBitVec.toNat < 2 ^ 32 then ((zi a).toBitVec.toNat : Int) else ((zi a).toBitVec.toNat : Int) - ((2 ^ 32 : Nat) : Int) := by
    rw [← BitVec.toInt_eq_toNat_cond, Int32.toInt_toBitVec]; exact ea.symm
  have hlt := (zi a).toBitVec.isLt
  generalize hy : (zi a).toBitVec = y at cond hlt
  have e1 : andZ a (xorZ ((2 ^ F - 1 : Nat) : Int) (-1)) = 0 ↔ y.toNat < 2 ^ F := by
    have bits : ∀ i, i < 32 → (zi a &&& zi (xorZ ((2 ^ F - 1 : Nat) : Int) (-1))).toBitVec.getLsbD i = (y.getLsbD i && ! decide (i < F)) := fun i hi => by
      unfold xorZ
      rw [zi_of, Int32.toBitVec_and, Int32.toBitVec_xor, BitVec.getLsbD_and, BitVec.getLsbD_xor, hy, zi_nI, nI_bv, BitVec.getLsbD_ofNat, decide_eq_true hi, Bool.true_and, Nat.testBit_two_pow_sub_one]
      have : (zi (-1)).toBitVec.getLsbD i = true := by
        rw [show (zi (-1)).toBitVec = BitVec.allOnes 32 from rfl, BitVec.getLsbD_allOnes, decide_eq_true hi]
      rw [this]
      cases decide (i < F) <;> rfl
    constructor
    · intro h
      have hz : (zi a &&& zi (xorZ ((2 ^ F - 1 : Nat) : Int) (-1))) = 0 := by
        unfold andZ at h
        apply Int32.toInt_inj.mp
        exact h
      refine Nat.lt_pow_two_of_testBit _ (fun i hi => ?_)
      by_cases c : i < 32
      · have b := bits i c
        rw [hz, show (0 : Int32).toBitVec = 0#32 from rfl, BitVec.getLsbD_zero, decide_eq_false (by omega : ¬ i < F)] at b
        rw [BitVec.testBit_toNat]
        cases hb : y.getLsbD i
        · rfl
        · rw [hb] at b; exact Bool.noConfusion b
      · exact Nat.testBit_lt_two_pow (Nat.lt_of_lt_of_le hlt (Nat.pow_le_pow_right (by decide) (by omega)))
    · intro h
      have hz : (zi a &&& zi (xorZ ((2 ^ F - 1 : Nat) : Int) (-1))) = 0 := by
        apply Int32.toBitVec_inj.mp
        apply BitVec.eq_of_getLsbD_eq
        intro i hi
        rw [bits i hi, show (0 : Int32).toBitVec = 0#32 from rfl, BitVec.getLsbD_zero]
        by_cases c : i < F
        · rw [decide_eq_true c]; cases y.getLsbD i <;> rfl
        · rw [← BitVec.testBit_toNat, Nat.testBit_lt_two_pow (Nat.lt_of_lt_of_le h (Nat.pow_le_pow_right (by decide) (by omega)))]; rfl
      unfold andZ
      rw [hz]; rfl
  rw [e1]
  split at cond <;> omega
theorem x_allFlats {J : mJ} {h : Nat} {g : Nat → Int} (hv : HV g) (hr : HR J h g) {post' : Int → Prop} (hq : post' ((2 ^ (g 2).toNat - 1 : Nat) : Int)) : v_X3_allFlats J h post' := by
  have h2 := hv.2.2.1
  have h64 : 2 ^ (g 2).toNat ≤ 2 ^ 6 := Nat.pow_le_pow_right (by decide) (by omega)
  have hpos : 0 < 2 ^ (g 2).toNat := Nat.two_pow_pos _
  unfold v_X3_allFlats
  rw [hr.1.2.2.1]
  obtain ⟨F, hF⟩ : ∃ F : Nat, g 2 = (F : Int) := ⟨(g 2).toNat, by omega⟩
  rw [hF] at hq h64 hpos ⊢
  rw [Int.toNat_natCast] at hq h64 hpos
  rw [shlZ_one (by omega)]
  exact ⟨⟨by omega, by omega⟩, lf1 hq (by omega)⟩
theorem x_home {J : mJ} {a1 a2 a3 a4 a5 a6 a7 : Int} (hI : TI J 1 (J 129)) (hE : InvE J) (hR : InvR J) (h6 : ir a6) (h7 : ir a7) {post' : Int → mJ → Prop} (hq : ∀ J1, XG J J1 → InvE J1 → InvR J1 → post' (aHome (J 129) a1 a2 a3 a4 a5 a6 a7) J1) : v_X11_home J a1 a2 a3 a4 a5 a6 a7 post' := by
  unfold v_X11_home
  refine x_houseAt hI (fun c => ⟨fun _ => lf (hq J (fun _ _ => rfl) hE hR) ?_, fun q c2 => (by cases c2)⟩) (fun k ek hk hk2 hv hr => ⟨fun c2 => (by cases c2), fun q eq => ?_⟩)
  · unfold aHome; rw [if_neg (fun c2 => c c2.1.1)]
  · cases eq
    have h2 := hv.2.2.1
    have h64 : 2 ^ (gH (J 129) k 2).toNat ≤ 2 ^ 6 := Nat.pow_le_pow_right (by decide) (by omega)
    refine x_allFlats hv hr ?_
    rw [flats_ok h6 (by omega)]
    unfold aHome at hq
    subst ek
    rw [Int.toNat_natCast] at hq
    refine ⟨fun c => ?_, fun c => x_hasRoute hI hE hR (Or.inr (by omega)) (fun c2 J1 hG hE1 hR1 => ⟨fun c2 => Bool.noConfusion c2, fun _ => ?_⟩) (fun c2 J1 hG hE1 hR1 hRt => ?_)⟩
    · have := hq J (fun _ _ => rfl) hE hR
      rw [if_neg (fun c2 => c c2.2)] at this; exact this
    · have := hq J1 hG hE1 hR1
      rw [Int.toNat_natCast] at c2
      rw [if_neg (fun c3 => c2 c3.1)] at this; exact this
    · have hq := hq J1 hG hE1 hR1
      rw [Int.toNat_natCast] at c2 hRt ⊢
      rw [if_pos ⟨c2, c⟩] at hq
      unfold bHome at hq
      have b6 := bs_60 (qF_2 (gH (J 129) k) a2.toNat a5.toNat a6) (S := (gH (J 129) k 0).toNat) (R := (gH (J 129) k (43 + 14 * a2.toNat)).toNat) (f := a3.toNat) (e := a4.toNat) (Nat.le_refl 61)
      by_cases c3 : (bsF (aN (qF (gH (J 129) k) a2.toNat a5.toNat a6) (gH (J 129) k 0).toNat (gH (J 129) k (43 + 14 * a2.toNat)).toNat a3.toNat a4.toNat) 61).1 < 1000
      · rw [if_pos c3] at hq
        have e1 := hRt.1.2
        unfold clA at e1
        rw [if_pos c3] at e1
        refine ⟨fun _ => ⟨fun c4 => ?_, fun c4 => ?_⟩, fun c4 => by rw [decide_eq_true c3] at c4; exact Bool.noConfusion c4⟩
        · rw [if_neg c4] at hq
          exact x_pickRow h7 (b6 (by omega)).2 e1 (hRt.2 c3) hq
        · rw [if_pos c4] at hq
          exact lf hq e1
      · rw [if_neg c3] at hq
        exact ⟨fun c4 => by rw [decide_eq_false c3] at c4; exact Bool.noConfusion c4, fun _ => hq⟩
theorem x_thief {J : mJ} {a1 a2 a3 a4 a5 a6 : Int} (hI : TI J 1 (J 129)) (hE : InvE J) (hR : InvR J) (h6 : ir a6) {post' : Int → mJ → Prop} (hq : ∀ J1, XG J J1 → InvE J1 → InvR J1 → post' (aThief (J 129) a1 a2 a3 a4 a5 a6) J1) : v_X11_thief J a1 a2 a3 a4 a5 a6 post' := by
  unfold v_X11_thief
  unfold aThief at hq
  refine x_hasRoute hI hE hR (Or.inl rfl) (fun c2 J1 hG hE1 hR1 => ⟨fun c2 => Bool.noConfusion c2, fun _ => ?_⟩) (fun c2 J1 hG hE1 hR1 hRt => ?_)
  · have := hq J1 hG hE1 hR1
    rw [if_neg c2] at this; exact this
  · have hq := hq J1 hG hE1 hR1
    rw [if_pos c2] at hq
    unfold bThief at hq
    generalize gH (J 129) a1.toNat = g at hq hRt ⊢
    have b6 := bs_60 (qF_2 g a2.toNat a5.toNat (-1)) (S := (g 0).toNat) (R := (g (43 + 14 * a2.toNat)).toNat) (f := a3.toNat) (e := a4.toNat) (Nat.le_refl 61)
    by_cases c3 : (bsF (aN (qF g a2.toNat a5.toNat (-1)) (g 0).toNat (g (43 + 14 * a2.toNat)).toNat a3.toNat a4.toNat) 61).1 < 1000
    · rw [if_pos c3] at hq
      have e0 := hRt.1.1
      have e1 := hRt.1.2
      unfold clA at e0 e1
      rw [if_pos c3] at e0 e1
      refine ⟨fun _ => ⟨fun c4 => ⟨fun c5 => ?_, fun c5 => ?_⟩, fun c4 => ?_⟩, fun c4 => by rw [decide_eq_true c3] at c4; exact Bool.noConfusion c4⟩
      · rw [if_neg c4, if_neg c5] at hq
        exact x_pickRow h6 (b6 (by omega)).2 e1 (hRt.2 c3) hq
      · rw [if_neg c4, if_pos c5] at hq
        exact lf hq e1
      · rw [if_pos c4] at hq
        exact lf hq e0
    · rw [if_neg c3] at hq
      exact ⟨fun c4 => by rw [decide_eq_false c3] at c4; exact Bool.noConfusion c4, fun _ => hq⟩
/-- the reference -/
theorem n_isAsked {J : mJ} {a1 a2 a3 a4 a5 : Int} {t : Nat} (hI : TI J t (J 129)) (hU : UV (J 128)) {post' : Bool → mJ → Prop} (h0 : ¬ ((0 ≤ a1 ∧ a1 < J 129 0) ∧ Err (gH (J 129) a1.toNat) a2 a3 a4 a5) → ∀ J1, MF J J1 → post' false J1) (h1 : ((0 ≤ a1 ∧ a1 < J 129 0) ∧ Err (gH (J 129) a1.toNat) a2 a3 a4 a5) → ∀ J1, MH J1 (610 + 149 * a1.toNat) (gH (J 129) a1.toNat) (J1 128) → UP (J1 128) → (∀ c, c ≠ 128 → J1 c = J c) → post' true J1) : v_X12_isAsked J 128 a1 a2 a3 a4 a5 post' := by
  unfold v_X12_isAsked
  refine n_isHouse hI hU (fun c => ⟨fun _ => h0 (fun c2 => c c2.1) J (MF_refl hU), fun c2 => Bool.noConfusion c2⟩) (fun k J1 ek hk hk2 hM hp f1 f2 => ⟨fun c2 => Bool.noConfusion c2, fun _ => ?_⟩)
  subst ek
  rw [Int.toNat_natCast] at h0 h1
  have h0 := fun c => h0 c J1 (MF_one f1 (UV_of hM))
  refine n_isPerson hM (fun c => ⟨fun _ => h0 (fun e => c e.2.1), fun c2 => Bool.noConfusion c2⟩) (fun p ep hp3 _ => ⟨fun c2 => Bool.noConfusion c2, fun _ => n_isStep hM (fun c => ⟨fun _ => h0 (fun e => c e.2.2.1), fun c2 => Bool.noConfusion c2⟩) (fun s es hs _ => ⟨fun c2 => Bool.noConfusion c2, fun _ => n_isStep hM (fun c => ⟨fun _ => h0 (fun e => c e.2.2.2.1), fun c2 => Bool.noConfusion c2⟩) (fun s2 es2 hs2 _ => ⟨fun c2 => Bool.noConfusion c2, fun _ => n_isMinute (fun c => ⟨fun _ => h0 (fun e => c e.2.2.2.2), fun c2 => Bool.noConfusion c2⟩) (fun m em hm => ⟨fun c2 => Bool.noConfusion c2, fun _ => h1 ⟨⟨by omega, hk⟩, by omega, by omega, by omega, by omega⟩ J1 hM hp f1⟩)⟩)⟩)⟩)
theorem n_row {J : mJ} {w : Int} {n : Nat} {W : Nat → Nat} (hn : n ≤ 60) (h1 : J 128 41 = (n : Int)) (h2 : ∀ i, i < n → J 146 i = ((W (i + 1) : Nat) : Int)) {post' : Int → mJ → Prop} (hq : post' (rowA w n W) J) : ir (9 + J 128 41) ∧ v_X12_isIn w 10 (9 + J 128 41) (fun b => (b = false → post' (-1) J) ∧ (b = true → ir (w - 10) ∧ (0 ≤ w - 10 ∧ w - 10 < 61) ∧ post' (J (128 + 18) (w - 10).toNat) J)) := by
  rw [h1]
  unfold rowA at hq
  refine ⟨⟨by omega, by omega⟩, n_isIn (fun c => ⟨fun _ => ?_, fun c2 => Bool.noConfusion c2⟩) (fun c => ⟨fun c2 => Bool.noConfusion c2, fun _ => ⟨⟨by omega, by omega⟩, ⟨by omega, by omega⟩, ?_⟩⟩)⟩
  · rw [if_neg (by omega)] at hq; exact hq
  · rw [if_pos (by omega)] at hq
    exact lf hq (h2 _ (by omega))
theorem n_flats2 {g : Nat → Int} (hv : HV g) : shlZ 1 (g 2) - 1 = ((2 ^ (g 2).toNat - 1 : Nat) : Int) ∧ 2 ^ (g 2).toNat ≤ 64 := by
  have h2 := hv.2.2.1
  have h64 : 2 ^ (g 2).toNat ≤ 2 ^ 6 := Nat.pow_le_pow_right (by decide) (by omega)
  have hpos : 0 < 2 ^ (g 2).toNat := Nat.two_pow_pos _
  obtain ⟨F, hF⟩ : ∃ F : Nat, g 2 = (F : Int) := ⟨(g 2).toNat, by omega⟩
  rw [hF] at h64 hpos ⊢
  rw [Int.toNat_natCast] at h64 hpos ⊢
  rw [shlZ_one (by omega)]
  omega
theorem m_home {J : mJ} {a1 a2 a3 a4 a5 a6 a7 : Int} {t : Nat} (hI : TI J t (J 129)) (hU : UV (J 128)) {post' : Int → mJ → Prop} (hq : ∀ J1, MF J J1 → post' (aHome (J 129) a1 a2 a3 a4 a5 a6 a7) J1) : v_X12_home J 128 a1 a2 a3 a4 a5 a6 a7 post' := by
  unfold v_X12_home
  unfold aHome at hq
  refine n_isAsked hI hU (fun c J1 hF => ⟨fun _ => ?_, fun c2 => Bool.noConfusion c2⟩) (fun er J1 hM hp f1 => ⟨fun c2 => Bool.noConfusion c2, fun _ => ?_⟩)
  · have := hq J1 hF
    rw [if_neg (fun c2 => c c2.1)] at this; exact this
  · generalize hg : gH (J 129) a1.toNat = g at *
    have hv := hM.2.2.2.1
    have h0 := hv.1
    obtain ⟨ef, e64⟩ := n_flats2 hv
    have hpos : 0 < 2 ^ (g 2).toNat := Nat.two_pow_pos _
    refine n_flats hM ?_
    rw [ef]
    refine ⟨⟨by omega, by omega⟩, n_isIn (fun c => ⟨fun c2 => Bool.noConfusion c2, fun _ => ?_⟩) (fun c => ⟨fun _ => ?_, fun c2 => Bool.noConfusion c2⟩)⟩
    · have := hq J1 (MF_one f1 (UV_of hM))
      rw [if_neg (fun c2 => c (by omega))] at this; exact this
    · rw [if_pos ⟨er, by omega⟩] at hq
      obtain ⟨_, ⟨_, q2⟩, ⟨_, q3⟩, ⟨_, q4⟩, _, q5⟩ := er
      obtain ⟨p, rfl⟩ : ∃ p : Nat, a2 = (p : Int) := ⟨a2.toNat, by omega⟩
      obtain ⟨f, rfl⟩ : ∃ p : Nat, a3 = (p : Int) := ⟨a3.toNat, by omega⟩
      obtain ⟨e, rfl⟩ : ∃ p : Nat, a4 = (p : Int) := ⟨a4.toNat, by omega⟩
      obtain ⟨mi, rfl⟩ : ∃ p : Nat, a5 = (p : Int) := ⟨a5.toNat, by omega⟩
      simp only [Int.toNat_natCast] at hq
      obtain ⟨_, _, h43, _⟩ := hv.2.2.2.2.2.2.2.1 p q2
      have b6 := bs_60 (qF_2 g p mi a6) (S := (g 0).toNat) (R := (g (43 + 14 * p)).toNat) (f := f) (e := e) (Nat.le_refl 61)
      refine n_costs (fl := a6) hM hp q2 (by omega) (Or.inl ⟨rfl, rfl, by omega, by omega⟩) (fun J6 hM6 f6 hC => n_isWay (S := (g 0).toNat) (R := (g (43 + 14 * p)).toNat) hM6 q2 (by omega) (by omega) (fun i s h1 h2 h3 => hC i s h1 h2 (by omega)) (qF_2 g p mi a6) (by omega) (by omega) (fun c3 J8 hM8 f8 => ⟨fun c2 => Bool.noConfusion c2, fun _ => ?_⟩) (fun c3 J8 hM8 f8 e40 e41 hX => ⟨fun _ => ⟨fun c4 => ?_, fun c4 => ?_⟩, fun c2 => Bool.noConfusion c2⟩))
      · have := hq J8 ⟨fun c hc => by rw [f8 c (by omega) (by omega) (by omega), f6 c (by omega) (by omega), f1 c (by omega)], UV_of hM8⟩
        unfold bHome at this
        rw [if_neg c3] at this; exact this
      · have := hq J8 ⟨fun c hc => by rw [f8 c (by omega) (by omega) (by omega), f6 c (by omega) (by omega), f1 c (by omega)], UV_of hM8⟩
        unfold bHome at this
        rw [if_pos c3, if_neg c4] at this
        exact n_row (b6 (by omega)).2 e41 hX this
      · have := hq J8 ⟨fun c hc => by rw [f8 c (by omega) (by omega) (by omega), f6 c (by omega) (by omega), f1 c (by omega)], UV_of hM8⟩
        unfold bHome at this
        rw [if_pos c3, if_pos c4] at this
        exact lf this e41
theorem m_thief {J : mJ} {a1 a2 a3 a4 a5 a6 : Int} {t : Nat} (hI : TI J t (J 129)) (hU : UV (J 128)) {post' : Int → mJ → Prop} (hq : ∀ J1, MF J J1 → post' (aThief (J 129) a1 a2 a3 a4 a5 a6) J1) : v_X12_thief J 128 a1 a2 a3 a4 a5 a6 post' := by
  unfold v_X12_thief
  unfold aThief at hq
  refine n_isAsked hI hU (fun c J1 hF => ⟨fun c2 => Bool.noConfusion c2, fun _ => ?_⟩) (fun er J1 hM hp f1 => ⟨fun _ => ?_, fun c2 => Bool.noConfusion c2⟩)
  · have := hq J1 hF
    rw [if_neg c] at this; exact this
  · generalize hg : gH (J 129) a1.toNat = g at *
    have hv := hM.2.2.2.1
    have h0 := hv.1
    obtain ⟨ef, e64⟩ := n_flats2 hv
    have hpos : 0 < 2 ^ (g 2).toNat := Nat.two_pow_pos _
    refine n_flats hM ?_
    rw [ef]
    refine ⟨⟨by omega, by omega⟩, ?_⟩
    rw [if_pos er] at hq
    obtain ⟨_, ⟨_, q2⟩, ⟨_, q3⟩, ⟨_, q4⟩, _, q5⟩ := er
    obtain ⟨p, rfl⟩ : ∃ p : Nat, a2 = (p : Int) := ⟨a2.toNat, by omega⟩
    obtain ⟨f, rfl⟩ : ∃ p : Nat, a3 = (p : Int) := ⟨a3.toNat, by omega⟩
    obtain ⟨e, rfl⟩ : ∃ p : Nat, a4 = (p : Int) := ⟨a4.toNat, by omega⟩
    obtain ⟨mi, rfl⟩ : ∃ p : Nat, a5 = (p : Int) := ⟨a5.toNat, by omega⟩
    simp only [Int.toNat_natCast] at hq
    obtain ⟨_, _, h43, _⟩ := hv.2.2.2.2.2.2.2.1 p q2
    have b6 := bs_60 (qF_2 g p mi (-1)) (S := (g 0).toNat) (R := (g (43 + 14 * p)).toNat) (f := f) (e := e) (Nat.le_refl 61)
    refine n_costs (fl := -1) hM hp q2 (by omega) (Or.inr ⟨rfl, rfl, rfl⟩) (fun J6 hM6 f6 hC => n_isWay (S := (g 0).toNat) (R := (g (43 + 14 * p)).toNat) hM6 q2 (by omega) (by omega) (fun i s h1 h2 h3 => hC i s h1 h2 (by omega)) (qF_2 g p mi (-1)) (by omega) (by omega) (fun c3 J8 hM8 f8 => ⟨fun c2 => Bool.noConfusion c2, fun _ => ?_⟩) (fun c3 J8 hM8 f8 e40 e41 hX => ⟨fun _ => ⟨fun c4 => ⟨fun c5 => ?_, fun c5 => ?_⟩, fun c4 => ?_⟩, fun c2 => Bool.noConfusion c2⟩))
    · have := hq J8 ⟨fun c hc => by rw [f8 c (by omega) (by omega) (by omega), f6 c (by omega) (by omega), f1 c (by omega)], UV_of hM8⟩
      unfold bThief at this
      rw [if_neg c3] at this; exact this
    · have := hq J8 ⟨fun c hc => by rw [f8 c (by omega) (by omega) (by omega), f6 c (by omega) (by omega), f1 c (by omega)], UV_of hM8⟩
      unfold bThief at this
      rw [if_pos c3, if_neg c4, if_neg c5] at this
      exact n_row (b6 (by omega)).2 e41 hX this
    · have := hq J8 ⟨fun c hc => by rw [f8 c (by omega) (by omega) (by omega), f6 c (by omega) (by omega), f1 c (by omega)], UV_of hM8⟩
      unfold bThief at this
      rw [if_pos c3, if_neg c4, if_pos c5] at this
      exact lf this e41
    · have := hq J8 ⟨fun c hc => by rw [f8 c (by omega) (by omega) (by omega), f6 c (by omega) (by omega), f1 c (by omega)], UV_of hM8⟩
      unfold bThief at this
      rw [if_pos c3, if_pos c4] at this
      exact lf this e40
