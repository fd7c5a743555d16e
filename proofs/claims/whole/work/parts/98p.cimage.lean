/-! the case of the image -/
theorem isX11_fr {K K1 : mK} {R R1 : mR} (h : ∀ c, c < 151 → K1 c = K c) (h' : ∀ c, c < 151 → c ≠ 43 → R1 c = R c) (hr : isX11 K R) : isX11 K1 R1 := isX11_x (fun c hc => h c (by omega)) (fun c hc x => h' c (by omega) x) (fun j hj he => isE_fr hj (fun c x y => h c (by omega)) (fun c hc => h c (by omega)) (h' _ (by omega) (by omega)) (h' _ (by omega) (by omega)) he) hr
theorem imA_lo {A : Nat → Int} {k j : Nat} (h : j < 990) : imA A k j = A j := by unfold imA; rw [if_neg (by omega)]
theorem imA_in {A : Nat → Int} {k j : Nat} (h : j < 990) : imA A k (990 * (k + 1) + j) = A j := by unfold imA; rw [if_pos (by omega), show 990 * (k + 1) + j - 990 * (k + 1) = j by omega]
theorem imA_ot {A : Nat → Int} {k q j : Nat} (hq : q ≠ k) (h : j < 990) : imA A k (990 * (q + 1) + j) = A (990 * (q + 1) + j) := by unfold imA; rw [if_neg (by omega)]
theorem Inv_I {n n' k t : Nat} {K K' : mK} {R R' : mR} {J J9 J10 : mJ} (h : Inv n K R J) (hk : k < 3) (hn : n ≤ n') (hK : ∀ c, c < n → K' c = K c) (hR : ∀ c, c < n → c ≠ 43 → R' c = R c) (hR1 : R' 43 k = some t) (hR2 : ∀ q, q ≠ k → R' 43 q = R 43 q) (ht : 151 ≤ t) (ht2 : t + 41 < n') (h8 : isX8 K' R' t) (hd : ∀ q s, q < 3 → q ≠ k → R 43 q = some s → t + 41 < s ∨ s + 41 < t) (hT : TI J9 t (J 129)) (f9 : ∀ c, (c < t ∨ t + 41 < c) → c < n → J9 c = J c) (a : J10 129 = imA (J9 129) k) (b : J10 130 = up1 (J9 130) k 1) (f : ∀ c, c ≠ 129 → c ≠ 130 → J10 c = J9 c) : Inv n' K' R' J10 := by
  obtain ⟨i1, i2, i3, i4, i5, i6, i7, i8, i9, i10⟩ := h
  have e129 : J9 129 = J 129 := f9 129 (by omega) (by omega)
  have e130 : J9 130 = J 130 := f9 130 (by omega) (by omega)
  rw [e129] at a
  rw [e130] at b
  have fl : ∀ c, c ≠ 129 → c ≠ 130 → (c < t ∨ t + 41 < c) → c < n → J10 c = J c := fun c x y z w => by rw [f c x y, f9 c z w]
  have gg : ∀ q, q < 2 → gH (J10 129) q = gH (J 129) q := fun q hq => gH_e (fun j hj => by rw [a]; exact imA_lo (by omega))
  refine ⟨isX11_fr (fun c hc => hK c (by omega)) (fun c hc x => hR c (by omega) x) i1, isO_fr (m := 23) (by decide) (fun c x y => hK c (by omega)) (hR 128 (by omega) (by decide)) (by decide) i2, ?_, ?_, ?_, ?_, ?_, ⟨by rw [hK 92 (by omega)]; exact i8.1, by rw [hK 93 (by omega)]; exact i8.2⟩, ⟨fun q hq => ?_, fun q q' s s' hq hq' hqq hs hs' => ?_⟩, by omega⟩
  · refine TI_cong (fun j hj => by rw [a]; exact imA_lo hj) (TI_frame (fun i hi => fl _ (by omega) (by omega) (by omega) (by omega)) i3)
  · have : InvEA J10 (J10 129) := InvEA_of i4 (by rw [a]; exact imA_lo (by decide)) gg (fun c x y => fl c (by omega) (by omega) (by omega) (by omega))
    exact this
  · have : InvRA J10 (J10 129) := InvRA_of i5 gg (fl 70 (by decide) (by decide) (by omega) (by omega)) (fl 71 (by decide) (by decide) (by omega) (by omega))
    exact this
  · rw [fl 128 (by decide) (by decide) (by omega) (by omega)]; exact i6
  · unfold RWw; rw [hR 89 (by omega) (by decide)]; exact i7
  · by_cases hqk : q = k
    · subst hqk
      refine Or.inr ⟨by rw [b, up1_s], t, hR1, ht, ht2, h8, ?_⟩
      refine TI_cong (fun j hj => ?_) (TI_frame (fun i hi => f _ (by omega) (by omega)) hT)
      show J10 129 (990 * (q + 1) + j) = J 129 j
      rw [a]; exact imA_in hj
    · rw [b, up1_rd hqk, hR2 q hqk]
      rcases i9.1 q hq with c | ⟨c, s, s1, s2, s3, s4, s5⟩
      · exact Or.inl c
      · have dj := hd q s hq hqk s1
        refine Or.inr ⟨c, s, s1, s2, by omega, isX8_fr (fun c x y => ⟨hK c (by omega), hR c (by omega) (by omega)⟩) s4, ?_⟩
        refine TI_cong (fun j hj => ?_) (TI_frame (fun i hi => fl _ (by omega) (by omega) (by omega) (by omega)) s5)
        show J10 129 (990 * (q + 1) + j) = J 129 (990 * (q + 1) + j)
        rw [a]; exact imA_ot hqk hj
  · by_cases h1 : q = k
    · subst h1
      rw [hR1] at hs
      cases hs
      rw [hR2 q' (Ne.symm hqq)] at hs'
      exact hd q' s' hq' (Ne.symm hqq) hs'
    · by_cases h2 : q' = k
      · subst h2
        rw [hR1] at hs'
        cases hs'
        rw [hR2 q hqq] at hs
        have := hd q s hq hqq hs
        omega
      · rw [hR2 q h1] at hs
        rw [hR2 q' h2] at hs'
        exact i9.2 q q' s s' hq hq' hqq hs hs'
/-- whole numbers of an int memory -/
def tJ (I : mI) : mJ := fun c k => (I c k).toInt
theorem zz_tJ (I : mI) : zz (tJ I) = I := by funext c k; exact zi_of _
theorem irm_tJ (I : mI) : irm (tJ I) := fun c k => ir_toInt _
theorem tJ_of {I : mI} {J : mJ} {c : Nat} (hJ : irm J) (h : I c = zz J c) : tJ I c = J c := by
  funext k; unfold tJ; rw [h]; exact zi_toInt (hJ c k)
theorem cL23 {xs : Nat → Int32} {Ls : Nat} {kk : Nat → mK → mR → mI → mL → Prop} {n : Nat} {K : mK} {R : mR} {J : mJ} {L : mL} {w : Int32} (hJ : irm J) (hI : Inv n K R J) (hv : VV w Ls) (hk : ∀ (n : Nat) (K : mK) (R : mR) (J : mJ) (L : mL), irm J → Inv n K R J → kk n K R (zz J) L) : w_L_23 xs Ls kk n K R (zz J) L w := by
  unfold w_L_23
  generalize xs ((w + 1).toNatClampNeg) = x1
  obtain ⟨v1, v2, v3, v4, v5, v6, v7⟩ := hv
  have hi := hI
  obtain ⟨i1, i2, i3, i4, i5, i6, i7, i8, i9, i10⟩ := hI
  have fin : ∀ (n' : Nat) (K' : mK) (R' : mR) (J9 : mJ) (L' : mL), irm J9 → isX12 K' R' 128 → (0 ≤ x1.toInt ∧ x1.toInt ≤ 2) → (∀ (k : Nat) (J10 : mJ), x1.toInt = (k : Int) → k < 3 → J10 129 = imA (J9 129) k → J10 130 = up1 (J9 130) k 1 → (∀ c, c ≠ 129 → c ≠ 130 → J10 c = J9 c) → Inv n' K' R' J10) → (vp_in (w + 1) Ls ∧ isX12 K' R' 128 ∧ w_X12_image (zz J9) 128 x1 (fun b104 I105 => ((bI true) = (bI b104) → kk n' K' R' I105 L') ∧ (¬ (bI true) = (bI b104) → False))) := by
    intro n' K' R' J9 L' hJ9 h12 hx H
    refine ⟨v1, h12, vw_X12_image hJ9 (z_num _) (ir_toInt _) (post' := fun r2 J2 => r2 = true ∧ Inv n' K' R' J2) (fun r2 J2 hJ2 hp2 => ?_) (m_image (fun c => absurd hx c) (fun k J1 e l a b f => ⟨rfl, H k J1 e l a b f⟩))⟩
    obtain ⟨rfl, h⟩ := hp2
    exact ⟨fun _ => hk _ _ _ _ _ hJ2 h, fun c => c rfl⟩
  have bad : ¬ (0 ≤ x1.toInt ∧ x1.toInt ≤ 2) → (vp_in (w + 1) Ls ∧ isX12 K R 128 ∧ w_X12_image (zz J) 128 x1 (fun b104 I105 => ((bI false) = (bI b104) → kk n K R I105 L) ∧ (¬ (bI false) = (bI b104) → False))) := by
    intro hx
    refine ⟨v1, i2, vw_X12_image hJ (z_num _) (ir_toInt _) (post' := fun r2 J2 => r2 = false ∧ J2 = J) (fun r2 J2 hJ2 hp2 => ?_) (m_image (fun c => ⟨rfl, rfl⟩) (fun k J1 e l a b f => absurd (by omega) hx))⟩
    obtain ⟨rfl, rfl⟩ := hp2
    exact ⟨fun _ => hk _ _ _ _ _ hJ2 hi, fun c => c rfl⟩
  have z0 : x1 < 0 ↔ x1.toInt < 0 := zlt (z_num x1) (b := 0) rfl (ir_toInt _) (by decide)
  have z3 : x1 < 3 ↔ x1.toInt < 3 := zlt (z_num x1) (b := 3) rfl (ir_toInt _) (by decide)
  unfold w_X11_image
  refine ⟨v1, i1, fun c => bad (by have := z0.mp c; omega), fun c => ⟨fun c3 => ?_, fun c3 => bad (by have h3 : ¬ x1.toInt < 3 := fun h => c3 (z3.mpr h); omega)⟩⟩
  have p0 : ¬ x1.toInt < 0 := fun h => c (z0.mpr h)
  have p3 := z3.mp c3
  obtain ⟨k, ek⟩ : ∃ k : Nat, x1.toInt = (k : Int) := ⟨x1.toInt.toNat, by omega⟩
  have eC : x1.toNatClampNeg = k := by rw [zcl (z_num x1) (ir_toInt _) (by omega), ek]; exact Int.toNat_natCast k
  rw [eC]
  have hk3 : k < 3 := by omega
  refine ⟨i1.1, i1.2.2.1.1, i1.2.2.1.2, zvp (z_num x1) (ir_toInt _) (by omega) (by omega), fun eN => ?_, fun q1 eS => ⟨fun e => (by rw [e] at eS; cases eS), fun q e => ?_⟩⟩
  · rintro K2 R3 I4 L5 ⟨rfl, rfl, rfl, rfl⟩
    refine ⟨by rw [up1_s], w_i8 (by rw [up1_s]) (fun K6 R7 I8 L9 x8 B => ?_)⟩
    have B' : Bel n K K6 R R7 (zz J) I8 L L9 := fun c hc => by
      have := B c hc
      rw [up1_n _ _ (by omega), up1_n _ _ (by omega), up1_n _ _ (by omega), up1_n _ _ (by omega)] at this
      exact this
    refine ⟨by rw [(B' 43 (by omega)).1]; exact i1.2.2.1.2, x8.1.1, ?_⟩
    rintro R10 rfl
    refine ⟨by rw [(B' 0 (by omega)).1]; exact i1.1, by rw [up2_n _ _ _ (by decide), (B' 0 (by omega)).2.2.2]; exact i1.2.2.1.1, fun e => absurd e (by rw [up2_at]; intro h; cases h), fun q e => ?_⟩
    rw [up2_at] at e
    have eq : n = q := Option.some.inj e
    subst eq
    refine ⟨by rw [up2_n _ _ _ (by decide), (B' 0 (by omega)).2.2.2]; exact i1.2.1.1, isX8_Rn (fun c k x y => by rw [up2_n _ _ _ (by omega)]) x8, isX8_fr (fun c x y => ⟨(B' c (by omega)).1, by rw [up2_n _ _ _ (by omega)]; exact (B' c (by omega)).2.2.2⟩) i1.2.1.2, ?_⟩
    have eJ : ∀ c, c < n → tJ I8 c = J c := fun c hc => tJ_of hJ (B' c hc).2.1
    rw [← zz_tJ I8]
    refine vw_X8_copyFrom (irm_tJ I8) (post' := fun J9 => TI J9 n (J 129) ∧ ∀ c, (c < n ∨ n + 41 < c) → J9 c = tJ I8 c) (fun J9 hJ9 hp => ?_) (x_copyT (A := J 129) (TI_frame (fun i hi => eJ _ (by omega)) i3) (by omega) (fun J9 a b => ⟨a, b⟩))
    refine fin (n + 42) K6 _ J9 L9 hJ9 (isO_fr (m := 23) (by decide) (fun c x y => (B' c (by omega)).1) (by rw [up2_n _ _ _ (by decide)]; exact (B' 128 (by omega)).2.2.2) (by decide) i2) (by omega) (fun k2 J10 e2 l2 a b f => ?_)
    have ekk : k2 = k := by omega
    subst ekk
    refine Inv_I (t := n) hi hk3 (by omega) (fun c hc => (B' c hc).1) (fun c hc x => by rw [up2_n _ _ _ x]; exact (B' c hc).2.2.2) (by rw [up2_at]) (fun q hq => by rw [up2_off _ _ (Or.inr hq), (B' 43 (by omega)).2.2.2]) i10 (by omega) (isX8_Rn (fun c k x y => by rw [up2_n _ _ _ (by omega)]) x8) (fun q s hq hqk hs => ?_) hp.1 (fun c x y => by rw [hp.2 c (by omega), eJ c y]) a b f
    rcases i9.1 q hq with ⟨_, c⟩ | ⟨_, s', s1, s2, s3, s4, s5⟩
    · rw [c] at hs; cases hs
    · rw [s1] at hs; cases hs; omega
  · rcases i9.1 k hk3 with ⟨_, c⟩ | ⟨t0, t, t1, t2, t3, t4, t5⟩
    · rw [c] at e; cases e
    · rw [t1] at e
      have eq : t = q := Option.some.inj e
      subst eq
      refine ⟨i1.2.1.1, t4, i1.2.1.2, vw_X8_copyFrom hJ (post' := fun J9 => TI J9 t (J 129) ∧ ∀ c, (c < t ∨ t + 41 < c) → J9 c = J c) (fun J9 hJ9 hp => fin n K R J9 L hJ9 i2 (by omega) (fun k2 J10 e2 l2 a b f => ?_)) (x_copyT (A := J 129) i3 (by omega) (fun J9 a b => ⟨a, b⟩))⟩
      have ekk : k2 = k := by omega
      subst ekk
      exact Inv_I (t := t) hi hk3 (Nat.le_refl _) (fun _ _ => rfl) (fun _ _ _ => rfl) t1 (fun _ _ => rfl) t2 t3 t4 (fun q s hq hqk hs => i9.2 k2 q t s hk3 hq (Ne.symm hqk) t1 hs) hp.1 (fun c x y => hp.2 c x) a b f
