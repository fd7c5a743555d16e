/-! the class tells a line -/
def HR6 (J : mJ) (h : Nat) (g : Nat → Int) : Prop := (J h 0 = g 0 ∧ J h 1 = g 1 ∧ J h 2 = g 2 ∧ J h 3 = g 3 ∧ J h 4 = g 4) ∧ (∀ s : Nat, s < 24 → J (h + 1) s = g (5 + s)) ∧ (∀ f : Nat, (f : Int) < g 2 → J (h + 2) f = g (29 + 2 * f) ∧ J (h + 3) f = g (30 + 2 * f)) ∧ (∀ p : Nat, (p : Int) < g 3 → J (h + 4) p = g (41 + 14 * p) ∧ J (h + 5) p = g (42 + 14 * p) ∧ J (h + 6) p = g (43 + 14 * p)) ∧ (∀ p : Nat, p < 6 → J (h + 7) p = g (44 + 14 * p) ∧ J (h + 8) p = g (45 + 14 * p) ∧ J (h + 9) p = g (46 + 14 * p) ∧ ∀ k : Nat, (k : Int) < g (46 + 14 * p) → J (h + 10) (8 * p + k) = g (47 + 14 * p + k)) ∧ (∀ c : Nat, (c : Int) < g 4 → J (h + 11) c = g (125 + 3 * c) ∧ J (h + 12) c = g (126 + 3 * c) ∧ J (h + 13) c = g (127 + 3 * c))
theorem HR6_HR {J : mJ} {h : Nat} {g : Nat → Int} (h3 : g 3 ≤ 6) (hr : HR6 J h g) : HR J h g := by
  obtain ⟨a, b, c, d, e, f⟩ := hr
  refine ⟨a, b, c, fun p hp => ?_, f⟩
  obtain ⟨d1, d2, d3⟩ := d p hp
  obtain ⟨e1, e2, e3, e4⟩ := e p (by omega)
  exact ⟨d1, d2, d3, e1, e2, e3, e4⟩
theorem HR6_frame {J J1 : mJ} {h : Nat} {g : Nat → Int} (hf : ∀ k, k < 14 → J1 (h + k) = J (h + k)) (hr : HR6 J h g) : HR6 J1 h g := by
  have h0 : J1 h = J h := hf 0 (by decide)
  unfold HR6
  rw [h0, hf 1 (by decide), hf 2 (by decide), hf 3 (by decide), hf 4 (by decide), hf 5 (by decide), hf 6 (by decide), hf 7 (by decide), hf 8 (by decide), hf 9 (by decide), hf 10 (by decide), hf 11 (by decide), hf 12 (by decide), hf 13 (by decide)]
  exact hr
def CDd (J : mJ) (sort : Int) (D : Dt) : Prop := (sort = 0 → HR6 J 45 D.1 ∧ J 44 12 = D.2.1 ∧ J 44 13 = D.2.2) ∧ (¬ sort = 0 → RdR J 59 D.1)
/-- the class between lines -/
def CS (J0 J : mJ) (B : Nat → Nat) (N : Nat) (sort : Int) (st : St) : Prop := TkC J st.1 ∧ (J 44 2 = st.2.1.1 ∧ J 44 3 = st.2.1.2) ∧ TpC J B N ∧ (st.2.1.1 = 0 → CDd J sort st.2.2) ∧ (∀ x, (x < 44 ∨ 64 < x) → J x = J0 x)
theorem x_isFull {J : mJ} {l : Nat} {sort : Int} {D : Dt} (hl : l < 8) (hs : sort = 0 ↔ l < 7) (hD : CDd J sort D) {post' : Bool → Prop} (hq : post' (flB l D.1)) : v_X5_isFull J 44 2 (l : Int) post' := by
  unfold flB at hq
  have hq := pb hq
  unfold v_X5_isFull
  have H : l < 7 → J 45 2 = D.1 2 ∧ J 45 3 = D.1 3 ∧ J 45 4 = D.1 4 := fun h => by
    obtain ⟨⟨⟨_, _, a, b, c⟩, _⟩, _⟩ := hD.1 (hs.mpr h)
    exact ⟨a, b, c⟩
  have R : l = 7 → J 59 0 = D.1 0 := fun h => (hD.2 (fun h2 => by have := hs.mp h2; omega)).1
  refine ⟨fun e => ?_, fun e => ?_, fun e => hq.2 (by omega), fun e => ?_, fun e => ?_, fun e3 e4 e5 e6 e7 => hq.2 (by omega)⟩
  · have := H (by omega)
    rw [show J (44 + 1) 2 = _ from this.1]
    exact ⟨fun c => hq.2 (by omega), fun c => hq.1 (by omega)⟩
  · have := H (by omega)
    rw [show J (44 + 1) 3 = _ from this.2.1]
    exact ⟨fun c => hq.2 (by omega), fun c => hq.1 (by omega)⟩
  · have := H (by omega)
    rw [show J (44 + 1) 4 = _ from this.2.2]
    exact ⟨fun c => hq.2 (by omega), fun c => hq.1 (by omega)⟩
  · rw [show J (44 + 15) 0 = _ from R (by omega)]
    exact ⟨fun c => hq.2 (by omega), fun c => hq.1 (by omega)⟩
/-- after telling: tokens and tape stand, the house or reading is told -/
def TlP (J J1 : mJ) (sort : Int) (D : Dt) : Prop := CDd J1 sort D ∧ (∀ i, i < 12 → J1 44 i = J 44 i) ∧ (∀ x, (x < 44 ∨ 63 < x) → J1 x = J x)
theorem u2n {J : mJ} {c d k : Nat} {v : Int} (h : d ≠ c) : up2 J c k v d = J d := up2_n J k v h
set_option maxHeartbeats 2000000 in
theorem x_tell {J : mJ} {l n : Nat} {sort : Int} {D : Dt} {v : Nat → Int} (hl : l < 8) (hs : sort = 0 ↔ l < 7) (hD : CDd J sort D) (hV : DtV sort D) (hf : flB l D.1 = false) (hv : ∀ j, j < slN l → inR l j (v j) ∧ J 64 j = v j) (hn : 1 ≤ n ∧ n ≤ 8) (h11 : l = 5 → J 44 11 = (n : Int)) (hg : l = 5 → ∀ k, k < n → J 64 (3 + k) = v (3 + k)) {post' : mJ → Prop} (hq : ∀ J1, TlP J J1 sort (tlF l D v n) → post' J1) : v_X5_tell J 44 2 (l : Int) post' := by
  obtain ⟨g, hs', hp'⟩ := D
  unfold flB at hf
  rw [decide_eq_false_iff_not] at hf
  change ¬ (l = 3 ∧ 6 ≤ g 2 ∨ l = 4 ∧ 6 ≤ g 3 ∨ l = 6 ∧ 8 ≤ g 4 ∨ l = 7 ∧ 10 ≤ g 0) at hf
  have rng : ∀ j, j < slN l → ∀ a b : Int, loT l j = a → hiT l j = b → (l ≠ 7 ∨ j ≠ 3) → a ≤ v j ∧ v j ≤ b := fun j hj a b ea eb hne => by
    rcases (hv j hj).1 with h | h
    · rw [ea, eb] at h; exact h
    · omega
  have vv : ∀ j, j < slN l → J (44 + 20) j = v j := fun j hj => (hv j hj).2
  by_cases l7 : l < 7
  · have s0 : sort = 0 := hs.mpr l7
    have hq : ∀ J1, HR6 J1 45 (tlF l (g, hs', hp') v n).1 → J1 44 12 = (tlF l (g, hs', hp') v n).2.1 → J1 44 13 = (tlF l (g, hs', hp') v n).2.2 → (∀ i, i < 12 → J1 44 i = J 44 i) → (∀ x, (x < 44 ∨ 63 < x) → J1 x = J x) → post' J1 := fun J1 a b c d e => hq J1 ⟨⟨fun _ => ⟨a, b, c⟩, fun h => absurd s0 h⟩, d, e⟩
    obtain ⟨hH, h12, h13⟩ := hD.1 s0
    change HR6 J 45 g at hH
    change J 44 12 = hs' at h12
    change J 44 13 = hp' at h13
    have hVp : HVp g hs' hp' := hV.1 s0
    obtain ⟨⟨va0, va1, va2, va3, va4⟩, _⟩ := hVp
    obtain ⟨⟨b0, b1, b2, b3, b4⟩, bc, bf, bp, bw, bh⟩ := hH
    unfold v_X5_tell
    unfold tlF at hq
    refine ⟨fun e => ?_, fun e => ?_, fun e => ?_, fun e => ?_, fun e => ?_, fun e => ?_, fun e => ?_, fun e0 e1 e2 e3 e4 e5 e6 => by omega⟩
    · have el : l = 0 := by omega
      subst el
      rw [if_pos rfl] at hq
      rintro J2 rfl
      rw [vv 0 (by decide)]
      refine hq _ ⟨⟨?_, ?_, ?_, ?_, ?_⟩, fun s hs => ?_, fun f hf => ?_, fun p hp => ?_, fun p hp => ?_, fun c hc => ?_⟩ ?_ ?_ (fun i hi => ?_) (fun x hx => ?_)
      · show up2 J 45 0 (v 0) 45 0 = up1 g 0 (v 0) 0
        rw [up2_at, up1_s]
      · show up2 J 45 0 (v 0) 45 1 = up1 g 0 (v 0) 1
        rw [up2_off _ _ (Or.inr (by decide)), up1_rd (by decide)]; exact b1
      · show up2 J 45 0 (v 0) 45 2 = up1 g 0 (v 0) 2
        rw [up2_off _ _ (Or.inr (by decide)), up1_rd (by decide)]; exact b2
      · show up2 J 45 0 (v 0) 45 3 = up1 g 0 (v 0) 3
        rw [up2_off _ _ (Or.inr (by decide)), up1_rd (by decide)]; exact b3
      · show up2 J 45 0 (v 0) 45 4 = up1 g 0 (v 0) 4
        rw [up2_off _ _ (Or.inr (by decide)), up1_rd (by decide)]; exact b4
      · rw [u2n (by decide)]; show _ = up1 g 0 (v 0) _; rw [up1_rd (by omega)]; exact bc s hs
      · change (f : Int) < up1 g 0 (v 0) 2 at hf; rw [up1_rd (by decide)] at hf
        rw [u2n (by decide), u2n (by decide)]; show _ = up1 g 0 (v 0) _ ∧ _ = up1 g 0 (v 0) _; rw [up1_rd (by omega), up1_rd (by omega)]; exact bf f hf
      · change (p : Int) < up1 g 0 (v 0) 3 at hp; rw [up1_rd (by decide)] at hp
        rw [u2n (by decide), u2n (by decide), u2n (by decide)]; show _ = up1 g 0 (v 0) _ ∧ _ = up1 g 0 (v 0) _ ∧ _ = up1 g 0 (v 0) _; rw [up1_rd (by omega), up1_rd (by omega), up1_rd (by omega)]; exact bp p hp
      · rw [u2n (by decide), u2n (by decide), u2n (by decide), u2n (by decide)]
        show _ = up1 g 0 (v 0) _ ∧ _ = up1 g 0 (v 0) _ ∧ _ = up1 g 0 (v 0) _ ∧ ∀ k : Nat, (k : Int) < up1 g 0 (v 0) _ → _ = up1 g 0 (v 0) _
        rw [up1_rd (by omega), up1_rd (by omega), up1_rd (by omega)]
        exact ⟨(bw p hp).1, (bw p hp).2.1, (bw p hp).2.2.1, fun k hk => by rw [up1_rd (by omega)]; exact (bw p hp).2.2.2 k hk⟩
      · change (c : Int) < up1 g 0 (v 0) 4 at hc; rw [up1_rd (by decide)] at hc
        rw [u2n (by decide), u2n (by decide), u2n (by decide)]; show _ = up1 g 0 (v 0) _ ∧ _ = up1 g 0 (v 0) _ ∧ _ = up1 g 0 (v 0) _; rw [up1_rd (by omega), up1_rd (by omega), up1_rd (by omega)]; exact bh c hc
      · rw [u2n (by decide)]; exact h12
      · rw [u2n (by decide)]; exact h13
      · rw [u2n (by decide)]
      · rw [u2n (by omega)]
    · have el : l = 1 := by omega
      subst el
      rw [if_neg (by decide), if_pos rfl] at hq
      rintro J2 rfl
      rw [vv 0 (by decide)]
      refine hq _ ⟨⟨?_, ?_, ?_, ?_, ?_⟩, fun s hs => ?_, fun f hf => ?_, fun p hp => ?_, fun p hp => ?_, fun c hc => ?_⟩ ?_ ?_ (fun i hi => ?_) (fun x hx => ?_)
      · show up2 J 45 1 (v 0) 45 0 = up1 g 1 (v 0) 0
        rw [up2_off _ _ (Or.inr (by decide)), up1_rd (by decide)]; exact b0
      · show up2 J 45 1 (v 0) 45 1 = up1 g 1 (v 0) 1
        rw [up2_at, up1_s]
      · show up2 J 45 1 (v 0) 45 2 = up1 g 1 (v 0) 2
        rw [up2_off _ _ (Or.inr (by decide)), up1_rd (by decide)]; exact b2
      · show up2 J 45 1 (v 0) 45 3 = up1 g 1 (v 0) 3
        rw [up2_off _ _ (Or.inr (by decide)), up1_rd (by decide)]; exact b3
      · show up2 J 45 1 (v 0) 45 4 = up1 g 1 (v 0) 4
        rw [up2_off _ _ (Or.inr (by decide)), up1_rd (by decide)]; exact b4
      · rw [u2n (by decide)]; show _ = up1 g 1 (v 0) _; rw [up1_rd (by omega)]; exact bc s hs
      · change (f : Int) < up1 g 1 (v 0) 2 at hf; rw [up1_rd (by decide)] at hf
        rw [u2n (by decide), u2n (by decide)]; show _ = up1 g 1 (v 0) _ ∧ _ = up1 g 1 (v 0) _; rw [up1_rd (by omega), up1_rd (by omega)]; exact bf f hf
      · change (p : Int) < up1 g 1 (v 0) 3 at hp; rw [up1_rd (by decide)] at hp
        rw [u2n (by decide), u2n (by decide), u2n (by decide)]; show _ = up1 g 1 (v 0) _ ∧ _ = up1 g 1 (v 0) _ ∧ _ = up1 g 1 (v 0) _; rw [up1_rd (by omega), up1_rd (by omega), up1_rd (by omega)]; exact bp p hp
      · rw [u2n (by decide), u2n (by decide), u2n (by decide), u2n (by decide)]
        show _ = up1 g 1 (v 0) _ ∧ _ = up1 g 1 (v 0) _ ∧ _ = up1 g 1 (v 0) _ ∧ ∀ k : Nat, (k : Int) < up1 g 1 (v 0) _ → _ = up1 g 1 (v 0) _
        rw [up1_rd (by omega), up1_rd (by omega), up1_rd (by omega)]
        exact ⟨(bw p hp).1, (bw p hp).2.1, (bw p hp).2.2.1, fun k hk => by rw [up1_rd (by omega)]; exact (bw p hp).2.2.2 k hk⟩
      · change (c : Int) < up1 g 1 (v 0) 4 at hc; rw [up1_rd (by decide)] at hc
        rw [u2n (by decide), u2n (by decide), u2n (by decide)]; show _ = up1 g 1 (v 0) _ ∧ _ = up1 g 1 (v 0) _ ∧ _ = up1 g 1 (v 0) _; rw [up1_rd (by omega), up1_rd (by omega), up1_rd (by omega)]; exact bh c hc
      · rw [u2n (by decide)]; exact h12
      · rw [u2n (by decide)]; exact h13
      · rw [u2n (by decide)]
      · rw [u2n (by omega)]
    · have el : l = 2 := by omega
      subst el
      rw [if_neg (by decide), if_neg (by decide), if_pos rfl] at hq
      change ∀ J1, HR6 J1 45 (up1 g (5 + (v 0).toNat) (v 1)) → J1 44 12 = maxZ hs' (v 0) → J1 44 13 = hp' → _ at hq
      have r0 := rng 0 (by decide) 0 23 (by decide) (by decide) (by omega)
      unfold v_X5_tellCarpet
      rw [vv 0 (by decide), vv 1 (by decide)]
      refine ⟨⟨by omega, by omega⟩, ?_⟩
      rintro J4 rfl J6 rfl
      rw [show up2 J (44 + 1 + 1) (v 0).toNat (v 1) 44 12 = hs' by rw [u2n (by decide)]; exact h12, show up2 J (44 + 1 + 1) (v 0).toNat (v 1) (44 + 20) 0 = v 0 by rw [u2n (by decide)]; exact vv 0 (by decide)]
      have kk : ∀ x, x ≠ 44 → x ≠ 46 → up2 (up2 J (44 + 1 + 1) (v 0).toNat (v 1)) 44 12 (maxZ hs' (v 0)) x = J x := fun x h1 h2 => by rw [u2n h1, u2n h2]
      have k46 : up2 (up2 J (44 + 1 + 1) (v 0).toNat (v 1)) 44 12 (maxZ hs' (v 0)) 46 = up1 (J 46) (v 0).toNat (v 1) := by rw [u2n (by decide)]; exact up2_s _ _ _ _
      refine hq _ ⟨?_, fun s hs => ?_, fun f hf => ?_, fun p hp => ?_, fun p hp => ?_, fun c hc => ?_⟩ (up2_at _ _ _ _) ?_ (fun i hi => ?_) (fun x hx => ?_)
      · rw [kk 45 (by decide) (by decide), up1_rd (by omega), up1_rd (by omega), up1_rd (by omega), up1_rd (by omega), up1_rd (by omega)]; exact ⟨b0, b1, b2, b3, b4⟩
      · rw [show (45 + 1 : Nat) = 46 from rfl, k46]
        by_cases ee : s = (v 0).toNat
        · rw [ee, up1_s, up1_s]
        · rw [up1_n _ _ ee, up1_rd (by omega)]; exact bc s hs
      · rw [up1_rd (by omega)] at hf; rw [kk _ (by decide) (by decide), kk _ (by decide) (by decide), up1_rd (by omega), up1_rd (by omega)]; exact bf f hf
      · rw [up1_rd (by omega)] at hp; rw [kk _ (by decide) (by decide), kk _ (by decide) (by decide), kk _ (by decide) (by decide), up1_rd (by omega), up1_rd (by omega), up1_rd (by omega)]; exact bp p hp
      · rw [kk _ (by decide) (by decide), kk _ (by decide) (by decide), kk _ (by decide) (by decide), kk _ (by decide) (by decide), up1_rd (by omega), up1_rd (by omega), up1_rd (by omega)]
        exact ⟨(bw p hp).1, (bw p hp).2.1, (bw p hp).2.2.1, fun k hk => by rw [up1_rd (by omega)]; exact (bw p hp).2.2.2 k hk⟩
      · rw [up1_rd (by omega)] at hc; rw [kk _ (by decide) (by decide), kk _ (by decide) (by decide), kk _ (by decide) (by decide), up1_rd (by omega), up1_rd (by omega), up1_rd (by omega)]; exact bh c hc
      · rw [up2_off _ _ (Or.inr (by decide)), u2n (by decide)]; exact h13
      · rw [up2_off _ _ (Or.inr (by omega)), u2n (by decide)]
      · exact kk x (by omega) (by omega)
    · have el : l = 3 := by omega
      subst el
      rw [if_neg (by decide), if_neg (by decide), if_neg (by decide), if_pos rfl] at hq
      change ∀ J1, HR6 J1 45 (up1 (up1 (up1 g (29 + 2 * (g 2).toNat) (v 0)) (30 + 2 * (g 2).toNat) (v 1)) 2 (g 2 + 1)) → J1 44 12 = maxZ hs' (v 0) → J1 44 13 = hp' → _ at hq
      obtain ⟨f2, ef2⟩ : ∃ f2 : Nat, g 2 = (f2 : Int) := ⟨(g 2).toNat, by omega⟩
      rw [ef2, Int.toNat_natCast] at hq
      have gg : ∀ j, j ≠ 2 → j ≠ 29 + 2 * f2 → j ≠ 30 + 2 * f2 → up1 (up1 (up1 g (29 + 2 * f2) (v 0)) (30 + 2 * f2) (v 1)) 2 ((f2 : Int) + 1) j = g j := fun j h1 h2 h3 => by rw [up1_rd h1, up1_rd h3, up1_rd h2]
      unfold v_X5_tellFlat
      rw [show J (44 + 1) 2 = (f2 : Int) by rw [← ef2]; exact b2, Int.toNat_natCast, vv 0 (by decide)]
      refine ⟨⟨by omega, by omega⟩, ?_⟩
      rintro J3 rfl
      rw [show up2 J (44 + 1 + 2) f2 (v 0) (44 + 1) 2 = (f2 : Int) by rw [u2n (by decide), ← ef2]; exact b2, Int.toNat_natCast, show up2 J (44 + 1 + 2) f2 (v 0) (44 + 20) 1 = v 1 by rw [u2n (by decide)]; exact vv 1 (by decide)]
      refine ⟨⟨by omega, by omega⟩, ?_⟩
      rintro J6 rfl
      rw [show up2 (up2 J (44 + 1 + 2) f2 (v 0)) (44 + 1 + 3) f2 (v 1) (44 + 1) 2 = (f2 : Int) by rw [u2n (by decide), u2n (by decide), ← ef2]; exact b2]
      refine ⟨⟨by omega, by omega⟩, ?_⟩
      rintro J8 rfl J10 rfl
      rw [show up2 (up2 (up2 J (44 + 1 + 2) f2 (v 0)) (44 + 1 + 3) f2 (v 1)) (44 + 1) 2 ((f2 : Int) + 1) 44 12 = hs' by rw [u2n (by decide), u2n (by decide), u2n (by decide)]; exact h12, show up2 (up2 (up2 J (44 + 1 + 2) f2 (v 0)) (44 + 1 + 3) f2 (v 1)) (44 + 1) 2 ((f2 : Int) + 1) (44 + 20) 0 = v 0 by rw [u2n (by decide), u2n (by decide), u2n (by decide)]; exact vv 0 (by decide)]
      generalize hJ1 : up2 (up2 (up2 (up2 J (44 + 1 + 2) f2 (v 0)) (44 + 1 + 3) f2 (v 1)) (44 + 1) 2 ((f2 : Int) + 1)) 44 12 (maxZ hs' (v 0)) = J1
      have kk : ∀ x, x ≠ 44 → x ≠ 45 → x ≠ 47 → x ≠ 48 → J1 x = J x := fun x h1 h2 h3 h4 => by rw [← hJ1, u2n h1, u2n h2, u2n h4, u2n h3]
      have k45 : J1 45 = up1 (J 45) 2 ((f2 : Int) + 1) := by rw [← hJ1, u2n (by decide), show (45 : Nat) = 44 + 1 from rfl, up2_s, u2n (by decide), u2n (by decide)]
      have k47 : J1 47 = up1 (J 47) f2 (v 0) := by rw [← hJ1, u2n (by decide), u2n (by decide), u2n (by decide), show (47 : Nat) = 44 + 1 + 2 from rfl, up2_s]
      have k48 : J1 48 = up1 (J 48) f2 (v 1) := by rw [← hJ1, u2n (by decide), u2n (by decide), show (48 : Nat) = 44 + 1 + 3 from rfl, up2_s, u2n (by decide)]
      have k44 : ∀ i, i ≠ 12 → J1 44 i = J 44 i := fun i hi => by rw [← hJ1, up2_off _ _ (Or.inr hi), u2n (by decide), u2n (by decide), u2n (by decide)]
      refine hq J1 ⟨?_, fun s hs => ?_, fun f hf => ?_, fun p hp => ?_, fun p hp => ?_, fun c hc => ?_⟩ (by rw [← hJ1, up2_at]) (by rw [k44 13 (by decide)]; exact h13) (fun i hi => k44 i (by omega)) (fun x hx => kk x (by omega) (by omega) (by omega) (by omega))
      · rw [k45, gg 0 (by omega) (by omega) (by omega), gg 1 (by omega) (by omega) (by omega), up1_s, up1_s, gg 3 (by omega) (by omega) (by omega), gg 4 (by omega) (by omega) (by omega), up1_rd (by decide), up1_rd (by decide), up1_rd (by decide), up1_rd (by decide)]; exact ⟨b0, b1, rfl, b3, b4⟩
      · rw [kk _ (by decide) (by decide) (by decide) (by decide), gg _ (by omega) (by omega) (by omega)]; exact bc s hs
      · rw [up1_s] at hf
        rw [show (45 + 2 : Nat) = 47 from rfl, show (45 + 3 : Nat) = 48 from rfl, k47, k48]
        by_cases ee : f = f2
        · rw [ee, up1_s, up1_s, up1_rd (by omega), up1_rd (by omega), up1_s, up1_rd (by omega), up1_s]; exact ⟨rfl, rfl⟩
        · rw [up1_n _ _ ee, up1_n _ _ ee, gg _ (by omega) (by omega) (by omega), gg _ (by omega) (by omega) (by omega)]; exact bf f (by omega)
      · rw [gg 3 (by omega) (by omega) (by omega)] at hp; rw [kk _ (by decide) (by decide) (by decide) (by decide), kk _ (by decide) (by decide) (by decide) (by decide), kk _ (by decide) (by decide) (by decide) (by decide), gg _ (by omega) (by omega) (by omega), gg _ (by omega) (by omega) (by omega), gg _ (by omega) (by omega) (by omega)]; exact bp p hp
      · rw [kk _ (by decide) (by decide) (by decide) (by decide), kk _ (by decide) (by decide) (by decide) (by decide), kk _ (by decide) (by decide) (by decide) (by decide), kk _ (by decide) (by decide) (by decide) (by decide), gg _ (by omega) (by omega) (by omega), gg _ (by omega) (by omega) (by omega), gg _ (by omega) (by omega) (by omega)]
        exact ⟨(bw p hp).1, (bw p hp).2.1, (bw p hp).2.2.1, fun k hk => by rw [gg _ (by omega) (by omega) (by omega)]; exact (bw p hp).2.2.2 k hk⟩
      · rw [gg 4 (by omega) (by omega) (by omega)] at hc; rw [kk _ (by decide) (by decide) (by decide) (by decide), kk _ (by decide) (by decide) (by decide) (by decide), kk _ (by decide) (by decide) (by decide) (by decide), gg _ (by omega) (by omega) (by omega), gg _ (by omega) (by omega) (by omega), gg _ (by omega) (by omega) (by omega)]; exact bh c hc
    · have el : l = 4 := by omega
      subst el
      rw [if_neg (by decide), if_neg (by decide), if_neg (by decide), if_neg (by decide), if_pos rfl] at hq
      change ∀ J1, HR6 J1 45 (up1 (up3 g (41 + 14 * (g 3).toNat) (v 0) (v 1) (v 2)) 3 (g 3 + 1)) → J1 44 12 = hs' → J1 44 13 = hp' → _ at hq
      unfold up3 at hq
      obtain ⟨f2, ef2⟩ : ∃ f2 : Nat, g 3 = (f2 : Int) := ⟨(g 3).toNat, by omega⟩
      rw [ef2, Int.toNat_natCast] at hq
      have gg : ∀ j, j ≠ 3 → (j < 41 + 14 * f2 ∨ 44 + 14 * f2 ≤ j) → up1 (up1 (up1 (up1 g (41 + 14 * f2) (v 0)) (41 + 14 * f2 + 1) (v 1)) (41 + 14 * f2 + 2) (v 2)) 3 ((f2 : Int) + 1) j = g j := fun j h1 h2 => by rw [up1_rd h1, up1_rd (by omega), up1_rd (by omega), up1_rd (by omega)]
      unfold v_X5_tellPerson
      rw [show J (44 + 1) 3 = (f2 : Int) by rw [← ef2]; exact b3, Int.toNat_natCast, vv 0 (by decide)]
      refine ⟨⟨by omega, by omega⟩, ?_⟩
      rintro J3 rfl
      rw [show up2 J (44 + 1 + 4) f2 (v 0) (44 + 1) 3 = (f2 : Int) by rw [u2n (by decide), ← ef2]; exact b3, Int.toNat_natCast, show up2 J (44 + 1 + 4) f2 (v 0) (44 + 20) 1 = v 1 by rw [u2n (by decide)]; exact vv 1 (by decide)]
      refine ⟨⟨by omega, by omega⟩, ?_⟩
      rintro J6 rfl
      rw [show up2 (up2 J (44 + 1 + 4) f2 (v 0)) (44 + 1 + 5) f2 (v 1) (44 + 1) 3 = (f2 : Int) by rw [u2n (by decide), u2n (by decide), ← ef2]; exact b3, Int.toNat_natCast, show up2 (up2 J (44 + 1 + 4) f2 (v 0)) (44 + 1 + 5) f2 (v 1) (44 + 20) 2 = v 2 by rw [u2n (by decide), u2n (by decide)]; exact vv 2 (by decide)]
      refine ⟨⟨by omega, by omega⟩, ?_⟩
      rintro J9 rfl
      rw [show up2 (up2 (up2 J (44 + 1 + 4) f2 (v 0)) (44 + 1 + 5) f2 (v 1)) (44 + 1 + 6) f2 (v 2) (44 + 1) 3 = (f2 : Int) by rw [u2n (by decide), u2n (by decide), u2n (by decide), ← ef2]; exact b3]
      refine ⟨⟨by omega, by omega⟩, ?_⟩
      rintro J11 rfl
      generalize hJ1 : up2 (up2 (up2 (up2 J (44 + 1 + 4) f2 (v 0)) (44 + 1 + 5) f2 (v 1)) (44 + 1 + 6) f2 (v 2)) (44 + 1) 3 ((f2 : Int) + 1) = J1
      have kk : ∀ x, x ≠ 45 → x ≠ 49 → x ≠ 50 → x ≠ 51 → J1 x = J x := fun x h1 h2 h3 h4 => by rw [← hJ1, u2n h1, u2n h4, u2n h3, u2n h2]
      have k45 : J1 45 = up1 (J 45) 3 ((f2 : Int) + 1) := by rw [← hJ1, show (45 : Nat) = 44 + 1 from rfl, up2_s, u2n (by decide), u2n (by decide), u2n (by decide)]
      have k49 : J1 49 = up1 (J 49) f2 (v 0) := by rw [← hJ1, u2n (by decide), u2n (by decide), u2n (by decide), show (49 : Nat) = 44 + 1 + 4 from rfl, up2_s]
      have k50 : J1 50 = up1 (J 50) f2 (v 1) := by rw [← hJ1, u2n (by decide), u2n (by decide), show (50 : Nat) = 44 + 1 + 5 from rfl, up2_s, u2n (by decide)]
      have k51 : J1 51 = up1 (J 51) f2 (v 2) := by rw [← hJ1, u2n (by decide), show (51 : Nat) = 44 + 1 + 6 from rfl, up2_s, u2n (by decide), u2n (by decide)]
      refine hq J1 ⟨?_, fun s hs => ?_, fun f hf => ?_, fun p hp => ?_, fun p hp => ?_, fun c hc => ?_⟩ (by rw [kk 44 (by decide) (by decide) (by decide) (by decide)]; exact h12) (by rw [kk 44 (by decide) (by decide) (by decide) (by decide)]; exact h13) (fun i hi => by rw [kk 44 (by decide) (by decide) (by decide) (by decide)]) (fun x hx => kk x (by omega) (by omega) (by omega) (by omega))
      · rw [k45, gg 0 (by omega) (by omega), gg 1 (by omega) (by omega), gg 2 (by omega) (by omega), up1_s, up1_s, gg 4 (by omega) (by omega), up1_rd (by decide), up1_rd (by decide), up1_rd (by decide), up1_rd (by decide)]; exact ⟨b0, b1, b2, rfl, b4⟩
      · rw [kk _ (by decide) (by decide) (by decide) (by decide), gg _ (by omega) (by omega)]; exact bc s hs
      · rw [gg 2 (by omega) (by omega)] at hf; rw [kk _ (by decide) (by decide) (by decide) (by decide), kk _ (by decide) (by decide) (by decide) (by decide), gg _ (by omega) (by omega), gg _ (by omega) (by omega)]; exact bf f hf
      · rw [up1_s] at hp
        rw [show (45 + 4 : Nat) = 49 from rfl, show (45 + 5 : Nat) = 50 from rfl, show (45 + 6 : Nat) = 51 from rfl, k49, k50, k51]
        by_cases ee : p = f2
        · rw [ee, up1_s, up1_s, up1_s, show 42 + 14 * f2 = 41 + 14 * f2 + 1 by omega, show 43 + 14 * f2 = 41 + 14 * f2 + 2 by omega, up1_rd (by omega), up1_rd (by omega), up1_rd (by omega), up1_s, up1_rd (by omega), up1_rd (by omega), up1_s, up1_rd (by omega), up1_s]; exact ⟨rfl, rfl, rfl⟩
        · rw [up1_n _ _ ee, up1_n _ _ ee, up1_n _ _ ee, gg _ (by omega) (by omega), gg _ (by omega) (by omega), gg _ (by omega) (by omega)]; exact bp p (by omega)
      · rw [kk _ (by decide) (by decide) (by decide) (by decide), kk _ (by decide) (by decide) (by decide) (by decide), kk _ (by decide) (by decide) (by decide) (by decide), kk _ (by decide) (by decide) (by decide) (by decide), gg _ (by omega) (by omega), gg _ (by omega) (by omega), gg _ (by omega) (by omega)]
        have w8 : g (46 + 14 * p) ≤ 8 := by
          rcases (hV.1 s0).2.2.2.2.1 p hp with w | w
          · have : g (46 + 14 * p) = 0 := w.2.2; omega
          · exact w.2.2.1.2
        exact ⟨(bw p hp).1, (bw p hp).2.1, (bw p hp).2.2.1, fun k hk => by rw [gg _ (by omega) (by omega)]; exact (bw p hp).2.2.2 k hk⟩
      · rw [gg 4 (by omega) (by omega)] at hc; rw [kk _ (by decide) (by decide) (by decide) (by decide), kk _ (by decide) (by decide) (by decide) (by decide), kk _ (by decide) (by decide) (by decide) (by decide), gg _ (by omega) (by omega), gg _ (by omega) (by omega), gg _ (by omega) (by omega)]; exact bh c hc
    · have el : l = 5 := by omega
      subst el
      rw [if_neg (by decide), if_neg (by decide), if_neg (by decide), if_neg (by decide), if_neg (by decide), if_pos rfl] at hq
      change ∀ J1, HR6 J1 45 (tlW g (v 0).toNat v n) → J1 44 12 = mxW (maxZ hs' (v 2)) v n → J1 44 13 = maxZ hp' (v 0) → _ at hq
      have r0 := rng 0 (by decide) 0 5 (by decide) (by decide) (by omega)
      have h11 := h11 rfl
      have hg := hg rfl
      obtain ⟨w, ew⟩ : ∃ w : Nat, v 0 = (w : Int) := ⟨(v 0).toNat, by omega⟩
      rw [ew, Int.toNat_natCast] at hq
      unfold v_X5_tellWalk
      rw [vv 0 (by decide), vv 1 (by decide), ew]
      rintro _ rfl
      rw [Int.toNat_natCast]
      refine ⟨⟨by omega, by omega⟩, ?_⟩
      rintro J5 rfl
      rw [show up2 J (44 + 1 + 7) w (v 1) (44 + 20) 2 = v 2 by rw [u2n (by decide)]; exact vv 2 (by decide)]
      refine ⟨⟨by omega, by omega⟩, ?_⟩
      rintro J8 rfl
      rw [show up2 (up2 J (44 + 1 + 7) w (v 1)) (44 + 1 + 8) w (v 2) 44 11 = (n : Int) by rw [u2n (by decide), u2n (by decide)]; exact h11]
      refine ⟨⟨by omega, by omega⟩, ?_⟩
      rintro J10 rfl J11 rfl
      rw [show up2 (up2 (up2 J (44 + 1 + 7) w (v 1)) (44 + 1 + 8) w (v 2)) (44 + 1 + 9) w (n : Int) 44 13 = hp' by rw [u2n (by decide), u2n (by decide), u2n (by decide)]; exact h13]
      rintro J13 rfl
      rw [show up2 (up2 (up2 (up2 J (44 + 1 + 7) w (v 1)) (44 + 1 + 8) w (v 2)) (44 + 1 + 9) w (n : Int)) 44 13 (maxZ hp' (w : Int)) 44 12 = hs' by rw [up2_off _ _ (Or.inr (by decide)), u2n (by decide), u2n (by decide), u2n (by decide)]; exact h12, show up2 (up2 (up2 (up2 J (44 + 1 + 7) w (v 1)) (44 + 1 + 8) w (v 2)) (44 + 1 + 9) w (n : Int)) 44 13 (maxZ hp' (w : Int)) (44 + 20) 2 = v 2 by rw [u2n (by decide), u2n (by decide), u2n (by decide), u2n (by decide)]; exact vv 2 (by decide)]
      generalize hJ1 : up2 (up2 (up2 (up2 (up2 J (44 + 1 + 7) w (v 1)) (44 + 1 + 8) w (v 2)) (44 + 1 + 9) w (n : Int)) 44 13 (maxZ hp' (w : Int))) 44 12 (maxZ hs' (v 2)) = J1
      have kk : ∀ x, x ≠ 44 → x ≠ 52 → x ≠ 53 → x ≠ 54 → J1 x = J x := fun x h1 h2 h3 h4 => by rw [← hJ1, u2n h1, u2n h1, u2n h4, u2n h3, u2n h2]
      have k52 : J1 52 = up1 (J 52) w (v 1) := by rw [← hJ1, u2n (by decide), u2n (by decide), u2n (by decide), u2n (by decide), show (52 : Nat) = 44 + 1 + 7 from rfl, up2_s]
      have k53 : J1 53 = up1 (J 53) w (v 2) := by rw [← hJ1, u2n (by decide), u2n (by decide), u2n (by decide), show (53 : Nat) = 44 + 1 + 8 from rfl, up2_s, u2n (by decide)]
      have k54 : J1 54 = up1 (J 54) w (n : Int) := by rw [← hJ1, u2n (by decide), u2n (by decide), show (54 : Nat) = 44 + 1 + 9 from rfl, up2_s, u2n (by decide), u2n (by decide)]
      have k44 : ∀ i, i ≠ 12 → i ≠ 13 → J1 44 i = J 44 i := fun i h1 h2 => by rw [← hJ1, up2_off _ _ (Or.inr h1), up2_off _ _ (Or.inr h2), u2n (by decide), u2n (by decide), u2n (by decide)]
      have k12 : J1 44 12 = maxZ hs' (v 2) := by rw [← hJ1, up2_at]
      have k13 : J1 44 13 = maxZ hp' (w : Int) := by rw [← hJ1, up2_off _ _ (Or.inr (by decide)), up2_at]
      unfold v_X5_tellWalk_81
      intro ZZ hZ
      refine lpN (S := fun i => ∀ J2 : mJ, (∀ x, x ≠ 44 → x ≠ 55 → J2 x = J1 x) → (∀ j, j ≠ 12 → J2 44 j = J1 44 j) → J2 44 12 = mxW (maxZ hs' (v 2)) v i → (∀ j, J2 55 j = if 8 * w ≤ j ∧ j < 8 * w + i then v (3 + (j - 8 * w)) else J 55 j) → ZZ J2 (w : Int) (i : Int)) (N := n) (fun i hi ih J2 f1 f2 f3 f4 => hZ _ _ _ ?_) (fun J2 f1 f2 f3 f4 => hZ _ _ _ ?_) J1 (fun _ _ _ => rfl) (fun _ _ => rfl) k12 (fun j => by rw [if_neg (by omega), kk 55 (by decide) (by decide) (by decide) (by decide)])
      · have e64 : J2 (44 + 20) = J (44 + 20) := by rw [f1 _ (by decide) (by decide), kk _ (by decide) (by decide) (by decide) (by decide)]
        rw [show J2 44 11 = (n : Int) by rw [f2 11 (by decide), k44 11 (by decide) (by decide)]; exact h11, show (3 + (i : Int)).toNat = 3 + i by omega, show ((w : Int) * 8 + (i : Int)).toNat = 8 * w + i by omega, e64, show J (44 + 20) (3 + i) = _ from hg i hi]
        refine ⟨fun c1 => by omega, fun _ => ⟨⟨by omega, by omega⟩, ⟨by omega, by omega⟩, ⟨by omega, by omega⟩, ⟨by omega, by omega⟩, ⟨by omega, by omega⟩, ?_⟩⟩
        rintro J3 rfl
        refine ⟨⟨by omega, by omega⟩, ⟨by omega, by omega⟩, ?_⟩
        rintro J4 rfl
        refine ⟨⟨by omega, by omega⟩, ?_⟩
        rintro _ rfl
        rw [show up2 J2 (44 + 1 + 10) (8 * w + i) (v (3 + i)) 44 12 = mxW (maxZ hs' (v 2)) v i by rw [u2n (by decide)]; exact f3, show up2 J2 (44 + 1 + 10) (8 * w + i) (v (3 + i)) (44 + 20) (3 + i) = v (3 + i) by rw [u2n (by decide), e64]; exact hg i hi]
        refine ih _ (fun x h1 h2 => by rw [u2n h1, u2n h2]; exact f1 x h1 h2) (fun j hj => by rw [up2_off _ _ (Or.inr hj), u2n (by decide)]; exact f2 j hj) (by rw [up2_at, mxW]) (fun j => ?_)
        rw [u2n (by decide)]
        show up2 J2 (44 + 1 + 10) (8 * w + i) (v (3 + i)) (44 + 1 + 10) j = _
        rw [up2_s]
        by_cases ee : j = 8 * w + i
        · rw [ee, up1_s, if_pos (by omega), show 8 * w + i - 8 * w = i by omega]
        · rw [up1_n _ _ ee]
          show J2 55 j = _
          rw [f4 j]
          by_cases c : 8 * w ≤ j ∧ j < 8 * w + i
          · rw [if_pos c, if_pos (by omega)]
          · rw [if_neg c, if_neg (by omega)]
      · rw [show J2 44 11 = (n : Int) by rw [f2 11 (by decide), k44 11 (by decide) (by decide)]; exact h11]
        refine ⟨fun _ => ?_, fun c1 => absurd (Int.le_refl _) c1⟩
        have gg : ∀ j, (j < 44 + 14 * w ∨ 55 + 14 * w ≤ j) → tlW g w v n j = g j := fun j hj => by unfold tlW; rw [if_neg (by omega), if_neg (by omega), if_neg (by omega), if_neg (by omega)]
        have kx : ∀ x, x ≠ 44 → x ≠ 52 → x ≠ 53 → x ≠ 54 → x ≠ 55 → J2 x = J x := fun x h1 h2 h3 h4 h5 => by rw [f1 x h1 h5, kk x h1 h2 h3 h4]
        have x45 := kx 45 (by decide) (by decide) (by decide) (by decide) (by decide)
        refine hq J2 ⟨?_, fun s hs => ?_, fun f hf => ?_, fun p hp => ?_, fun p hp => ?_, fun c hc => ?_⟩ f3 (by rw [f2 13 (by decide)]; exact k13) (fun i hi => by rw [f2 i (by omega), k44 i (by omega) (by omega)]) (fun x hx => kx x (by omega) (by omega) (by omega) (by omega) (by omega))
        · rw [x45, gg 0 (by omega), gg 1 (by omega), gg 2 (by omega), gg 3 (by omega), gg 4 (by omega)]; exact ⟨b0, b1, b2, b3, b4⟩
        · rw [kx _ (by decide) (by decide) (by decide) (by decide) (by decide), gg _ (by omega)]; exact bc s hs
        · rw [gg 2 (by omega)] at hf; rw [kx _ (by decide) (by decide) (by decide) (by decide) (by decide), kx _ (by decide) (by decide) (by decide) (by decide) (by decide), gg _ (by omega), gg _ (by omega)]; exact bf f hf
        · rw [gg 3 (by omega)] at hp; rw [kx _ (by decide) (by decide) (by decide) (by decide) (by decide), kx _ (by decide) (by decide) (by decide) (by decide) (by decide), kx _ (by decide) (by decide) (by decide) (by decide) (by decide), gg _ (by omega), gg _ (by omega), gg _ (by omega)]; exact bp p hp
        · rw [show (45 + 7 : Nat) = 52 from rfl, show (45 + 8 : Nat) = 53 from rfl, show (45 + 9 : Nat) = 54 from rfl, show (45 + 10 : Nat) = 55 from rfl, f1 52 (by decide) (by decide), f1 53 (by decide) (by decide), f1 54 (by decide) (by decide), k52, k53, k54]
          by_cases ee : p = w
          · subst ee
            have e1 : tlW g p v n (44 + 14 * p) = v 1 := by unfold tlW; rw [if_pos rfl]
            have e2 : tlW g p v n (45 + 14 * p) = v 2 := by unfold tlW; rw [if_neg (by omega), if_pos rfl]
            have e3 : tlW g p v n (46 + 14 * p) = (n : Int) := by unfold tlW; rw [if_neg (by omega), if_neg (by omega), if_pos rfl]
            rw [e1, e2, e3, up1_s, up1_s, up1_s]
            refine ⟨rfl, rfl, rfl, fun k hk => ?_⟩
            have e4 : tlW g p v n (47 + 14 * p + k) = v (3 + k) := by unfold tlW; rw [if_neg (by omega), if_neg (by omega), if_neg (by omega), if_pos (by omega), show 47 + 14 * p + k - (47 + 14 * p) = k by omega]
            rw [e4, f4, if_pos (by omega), show 8 * p + k - 8 * p = k by omega]
          · have w8 : g (46 + 14 * p) ≤ 8 := by
              rcases (hV.1 s0).2.2.2.2.1 p hp with w | w
              · have : g (46 + 14 * p) = 0 := w.2.2; omega
              · exact w.2.2.1.2
            rw [up1_n _ _ ee, up1_n _ _ ee, up1_n _ _ ee, gg _ (by omega), gg _ (by omega), gg _ (by omega)]
            refine ⟨(bw p hp).1, (bw p hp).2.1, (bw p hp).2.2.1, fun k hk => ?_⟩
            rw [gg _ (by omega), f4, if_neg (by omega)]; exact (bw p hp).2.2.2 k hk
        · rw [gg 4 (by omega)] at hc; rw [kx _ (by decide) (by decide) (by decide) (by decide) (by decide), kx _ (by decide) (by decide) (by decide) (by decide) (by decide), kx _ (by decide) (by decide) (by decide) (by decide) (by decide), gg _ (by omega), gg _ (by omega), gg _ (by omega)]; exact bh c hc
    · have el : l = 6 := by omega
      subst el
      rw [if_neg (by decide), if_neg (by decide), if_neg (by decide), if_neg (by decide), if_neg (by decide), if_neg (by decide), if_pos rfl] at hq
      change ∀ J1, HR6 J1 45 (up1 (up3 g (125 + 3 * (g 4).toNat) (v 0) (v 1) (v 2)) 4 (g 4 + 1)) → J1 44 12 = hs' → J1 44 13 = maxZ hp' (v 0) → _ at hq
      unfold up3 at hq
      obtain ⟨f2, ef2⟩ : ∃ f2 : Nat, g 4 = (f2 : Int) := ⟨(g 4).toNat, by omega⟩
      rw [ef2, Int.toNat_natCast] at hq
      have gg : ∀ j, j ≠ 4 → (j < 125 + 3 * f2 ∨ 128 + 3 * f2 ≤ j) → up1 (up1 (up1 (up1 g (125 + 3 * f2) (v 0)) (125 + 3 * f2 + 1) (v 1)) (125 + 3 * f2 + 2) (v 2)) 4 ((f2 : Int) + 1) j = g j := fun j h1 h2 => by rw [up1_rd h1, up1_rd (by omega), up1_rd (by omega), up1_rd (by omega)]
      unfold v_X5_tellChange
      rw [show J (44 + 1) 4 = (f2 : Int) by rw [← ef2]; exact b4, Int.toNat_natCast, vv 0 (by decide)]
      refine ⟨⟨by omega, by omega⟩, ?_⟩
      rintro J3 rfl
      rw [show up2 J (44 + 1 + 11) f2 (v 0) (44 + 1) 4 = (f2 : Int) by rw [u2n (by decide), ← ef2]; exact b4, Int.toNat_natCast, show up2 J (44 + 1 + 11) f2 (v 0) (44 + 20) 1 = v 1 by rw [u2n (by decide)]; exact vv 1 (by decide)]
      refine ⟨⟨by omega, by omega⟩, ?_⟩
      rintro J6 rfl
      rw [show up2 (up2 J (44 + 1 + 11) f2 (v 0)) (44 + 1 + 12) f2 (v 1) (44 + 1) 4 = (f2 : Int) by rw [u2n (by decide), u2n (by decide), ← ef2]; exact b4, Int.toNat_natCast, show up2 (up2 J (44 + 1 + 11) f2 (v 0)) (44 + 1 + 12) f2 (v 1) (44 + 20) 2 = v 2 by rw [u2n (by decide), u2n (by decide)]; exact vv 2 (by decide)]
      refine ⟨⟨by omega, by omega⟩, ?_⟩
      rintro J9 rfl
      rw [show up2 (up2 (up2 J (44 + 1 + 11) f2 (v 0)) (44 + 1 + 12) f2 (v 1)) (44 + 1 + 13) f2 (v 2) (44 + 1) 4 = (f2 : Int) by rw [u2n (by decide), u2n (by decide), u2n (by decide), ← ef2]; exact b4]
      refine ⟨⟨by omega, by omega⟩, ?_⟩
      rintro J11 rfl J13 rfl
      rw [show up2 (up2 (up2 (up2 J (44 + 1 + 11) f2 (v 0)) (44 + 1 + 12) f2 (v 1)) (44 + 1 + 13) f2 (v 2)) (44 + 1) 4 ((f2 : Int) + 1) 44 13 = hp' by rw [u2n (by decide), u2n (by decide), u2n (by decide), u2n (by decide)]; exact h13, show up2 (up2 (up2 (up2 J (44 + 1 + 11) f2 (v 0)) (44 + 1 + 12) f2 (v 1)) (44 + 1 + 13) f2 (v 2)) (44 + 1) 4 ((f2 : Int) + 1) (44 + 20) 0 = v 0 by rw [u2n (by decide), u2n (by decide), u2n (by decide), u2n (by decide)]; exact vv 0 (by decide)]
      generalize hJ1 : up2 (up2 (up2 (up2 (up2 J (44 + 1 + 11) f2 (v 0)) (44 + 1 + 12) f2 (v 1)) (44 + 1 + 13) f2 (v 2)) (44 + 1) 4 ((f2 : Int) + 1)) 44 13 (maxZ hp' (v 0)) = J1
      have kk : ∀ x, x ≠ 44 → x ≠ 45 → x ≠ 56 → x ≠ 57 → x ≠ 58 → J1 x = J x := fun x h0 h1 h2 h3 h4 => by rw [← hJ1, u2n h0, u2n h1, u2n h4, u2n h3, u2n h2]
      have k45 : J1 45 = up1 (J 45) 4 ((f2 : Int) + 1) := by rw [← hJ1, u2n (by decide), show (45 : Nat) = 44 + 1 from rfl, up2_s, u2n (by decide), u2n (by decide), u2n (by decide)]
      have k56 : J1 56 = up1 (J 56) f2 (v 0) := by rw [← hJ1, u2n (by decide), u2n (by decide), u2n (by decide), u2n (by decide), show (56 : Nat) = 44 + 1 + 11 from rfl, up2_s]
      have k57 : J1 57 = up1 (J 57) f2 (v 1) := by rw [← hJ1, u2n (by decide), u2n (by decide), u2n (by decide), show (57 : Nat) = 44 + 1 + 12 from rfl, up2_s, u2n (by decide)]
      have k58 : J1 58 = up1 (J 58) f2 (v 2) := by rw [← hJ1, u2n (by decide), u2n (by decide), show (58 : Nat) = 44 + 1 + 13 from rfl, up2_s, u2n (by decide), u2n (by decide)]
      have k44 : ∀ i, i ≠ 13 → J1 44 i = J 44 i := fun i hi => by rw [← hJ1, up2_off _ _ (Or.inr hi), u2n (by decide), u2n (by decide), u2n (by decide), u2n (by decide)]
      refine hq J1 ⟨?_, fun s hs => ?_, fun f hf => ?_, fun p hp => ?_, fun p hp => ?_, fun c hc => ?_⟩ (by rw [k44 12 (by decide)]; exact h12) (by rw [← hJ1, up2_at]) (fun i hi => k44 i (by omega)) (fun x hx => kk x (by omega) (by omega) (by omega) (by omega) (by omega))
      · rw [k45, gg 0 (by omega) (by omega), gg 1 (by omega) (by omega), gg 2 (by omega) (by omega), gg 3 (by omega) (by omega), up1_s, up1_s, up1_rd (by decide), up1_rd (by decide), up1_rd (by decide), up1_rd (by decide)]; exact ⟨b0, b1, b2, b3, rfl⟩
      · rw [kk _ (by decide) (by decide) (by decide) (by decide) (by decide), gg _ (by omega) (by omega)]; exact bc s hs
      · rw [gg 2 (by omega) (by omega)] at hf; rw [kk _ (by decide) (by decide) (by decide) (by decide) (by decide), kk _ (by decide) (by decide) (by decide) (by decide) (by decide), gg _ (by omega) (by omega), gg _ (by omega) (by omega)]; exact bf f hf
      · rw [gg 3 (by omega) (by omega)] at hp; rw [kk _ (by decide) (by decide) (by decide) (by decide) (by decide), kk _ (by decide) (by decide) (by decide) (by decide) (by decide), kk _ (by decide) (by decide) (by decide) (by decide) (by decide), gg _ (by omega) (by omega), gg _ (by omega) (by omega), gg _ (by omega) (by omega)]; exact bp p hp
      · have w8 : g (46 + 14 * p) ≤ 8 := by
          rcases (hV.1 s0).2.2.2.2.1 p hp with w | w
          · have : g (46 + 14 * p) = 0 := w.2.2; omega
          · exact w.2.2.1.2
        rw [kk _ (by decide) (by decide) (by decide) (by decide) (by decide), kk _ (by decide) (by decide) (by decide) (by decide) (by decide), kk _ (by decide) (by decide) (by decide) (by decide) (by decide), kk _ (by decide) (by decide) (by decide) (by decide) (by decide), gg _ (by omega) (by omega), gg _ (by omega) (by omega), gg _ (by omega) (by omega)]
        exact ⟨(bw p hp).1, (bw p hp).2.1, (bw p hp).2.2.1, fun k hk => by rw [gg _ (by omega) (by omega)]; exact (bw p hp).2.2.2 k hk⟩
      · rw [up1_s] at hc
        rw [show (45 + 11 : Nat) = 56 from rfl, show (45 + 12 : Nat) = 57 from rfl, show (45 + 13 : Nat) = 58 from rfl, k56, k57, k58]
        by_cases ee : c = f2
        · rw [ee, up1_s, up1_s, up1_s, show 126 + 3 * f2 = 125 + 3 * f2 + 1 by omega, show 127 + 3 * f2 = 125 + 3 * f2 + 2 by omega, up1_rd (by omega), up1_rd (by omega), up1_rd (by omega), up1_s, up1_rd (by omega), up1_rd (by omega), up1_s, up1_rd (by omega), up1_s]; exact ⟨rfl, rfl, rfl⟩
        · rw [up1_n _ _ ee, up1_n _ _ ee, up1_n _ _ ee, gg _ (by omega) (by omega), gg _ (by omega) (by omega), gg _ (by omega) (by omega)]; exact bh c (by omega)
  · have el : l = 7 := by omega
    subst el
    have s0 : ¬ sort = 0 := fun h => l7 (hs.mp h)
    have hq : ∀ J1, RdR J1 59 (tlF 7 (g, hs', hp') v n).1 → (∀ i, i < 12 → J1 44 i = J 44 i) → (∀ x, (x < 44 ∨ 63 < x) → J1 x = J x) → post' J1 := fun J1 a d e => hq J1 ⟨⟨fun h => absurd h s0, fun _ => a⟩, d, e⟩
    have hR : RdR J 59 g := hD.2 s0
    have rV : RdV g := hV.2 s0
    have g0 := rV.1
    unfold tlF at hq
    rw [if_neg (by decide), if_neg (by decide), if_neg (by decide), if_neg (by decide), if_neg (by decide), if_neg (by decide), if_neg (by decide)] at hq
    change ∀ J1, RdR J1 59 (up1 (up1 (up3 g (1 + 4 * (g 0).toNat) (v 0) (v 1) (v 2)) (4 + 4 * (g 0).toNat) (v 3)) 0 (g 0 + 1)) → _ at hq
    unfold up3 at hq
    obtain ⟨f2, ef2⟩ : ∃ f2 : Nat, g 0 = (f2 : Int) := ⟨(g 0).toNat, by omega⟩
    rw [ef2, Int.toNat_natCast] at hq
    unfold v_X5_tell
    refine ⟨fun e => by omega, fun e => by omega, fun e => by omega, fun e => by omega, fun e => by omega, fun e => by omega, fun e => by omega, fun _ _ _ _ _ _ _ => ?_⟩
    unfold v_X5_tellSound
    rw [show J (44 + 15) 0 = (f2 : Int) by rw [← ef2]; exact hR.1, Int.toNat_natCast, vv 0 (by decide)]
    refine ⟨⟨by omega, by omega⟩, ?_⟩
    rintro J3 rfl
    rw [show up2 J (44 + 15 + 1) f2 (v 0) (44 + 15) 0 = (f2 : Int) by rw [u2n (by decide), ← ef2]; exact hR.1, Int.toNat_natCast, show up2 J (44 + 15 + 1) f2 (v 0) (44 + 20) 1 = v 1 by rw [u2n (by decide)]; exact vv 1 (by decide)]
    refine ⟨⟨by omega, by omega⟩, ?_⟩
    rintro J6 rfl
    rw [show up2 (up2 J (44 + 15 + 1) f2 (v 0)) (44 + 15 + 2) f2 (v 1) (44 + 15) 0 = (f2 : Int) by rw [u2n (by decide), u2n (by decide), ← ef2]; exact hR.1, Int.toNat_natCast, show up2 (up2 J (44 + 15 + 1) f2 (v 0)) (44 + 15 + 2) f2 (v 1) (44 + 20) 2 = v 2 by rw [u2n (by decide), u2n (by decide)]; exact vv 2 (by decide)]
    refine ⟨⟨by omega, by omega⟩, ?_⟩
    rintro J9 rfl
    rw [show up2 (up2 (up2 J (44 + 15 + 1) f2 (v 0)) (44 + 15 + 2) f2 (v 1)) (44 + 15 + 3) f2 (v 2) (44 + 15) 0 = (f2 : Int) by rw [u2n (by decide), u2n (by decide), u2n (by decide), ← ef2]; exact hR.1, Int.toNat_natCast, show up2 (up2 (up2 J (44 + 15 + 1) f2 (v 0)) (44 + 15 + 2) f2 (v 1)) (44 + 15 + 3) f2 (v 2) (44 + 20) 3 = v 3 by rw [u2n (by decide), u2n (by decide), u2n (by decide)]; exact vv 3 (by decide)]
    refine ⟨⟨by omega, by omega⟩, ?_⟩
    rintro J12 rfl
    rw [show up2 (up2 (up2 (up2 J (44 + 15 + 1) f2 (v 0)) (44 + 15 + 2) f2 (v 1)) (44 + 15 + 3) f2 (v 2)) (44 + 15 + 4) f2 (v 3) (44 + 15) 0 = (f2 : Int) by rw [u2n (by decide), u2n (by decide), u2n (by decide), u2n (by decide), ← ef2]; exact hR.1]
    refine ⟨⟨by omega, by omega⟩, ?_⟩
    rintro J14 rfl
    generalize hJ1 : up2 (up2 (up2 (up2 (up2 J (44 + 15 + 1) f2 (v 0)) (44 + 15 + 2) f2 (v 1)) (44 + 15 + 3) f2 (v 2)) (44 + 15 + 4) f2 (v 3)) (44 + 15) 0 ((f2 : Int) + 1) = J1
    have kk : ∀ x, (x < 59 ∨ 63 < x) → J1 x = J x := fun x h0 => by rw [← hJ1, u2n (by omega), u2n (by omega), u2n (by omega), u2n (by omega), u2n (by omega)]
    have k60 : J1 60 = up1 (J 60) f2 (v 0) := by rw [← hJ1, u2n (by decide), u2n (by decide), u2n (by decide), u2n (by decide), show (60 : Nat) = 44 + 15 + 1 from rfl, up2_s]
    have k61 : J1 61 = up1 (J 61) f2 (v 1) := by rw [← hJ1, u2n (by decide), u2n (by decide), u2n (by decide), show (61 : Nat) = 44 + 15 + 2 from rfl, up2_s, u2n (by decide)]
    have k62 : J1 62 = up1 (J 62) f2 (v 2) := by rw [← hJ1, u2n (by decide), u2n (by decide), show (62 : Nat) = 44 + 15 + 3 from rfl, up2_s, u2n (by decide), u2n (by decide)]
    have k63 : J1 63 = up1 (J 63) f2 (v 3) := by rw [← hJ1, u2n (by decide), show (63 : Nat) = 44 + 15 + 4 from rfl, up2_s, u2n (by decide), u2n (by decide), u2n (by decide)]
    refine hq J1 ⟨?_, fun k hk => ?_⟩ (fun i hi => by rw [kk 44 (by omega)]) (fun x hx => kk x (by omega))
    · rw [up1_s, ← hJ1]; exact up2_at _ _ _ _
    · rw [up1_s] at hk
      rw [show (59 + 1 : Nat) = 60 from rfl, show (59 + 2 : Nat) = 61 from rfl, show (59 + 3 : Nat) = 62 from rfl, show (59 + 4 : Nat) = 63 from rfl, k60, k61, k62, k63]
      by_cases ee : k = f2
      · rw [ee, up1_s, up1_s, up1_s, up1_s, show 2 + 4 * f2 = 1 + 4 * f2 + 1 by omega, show 3 + 4 * f2 = 1 + 4 * f2 + 2 by omega, up1_rd (by omega), up1_rd (by omega), up1_rd (by omega), up1_rd (by omega), up1_s, up1_rd (by omega), up1_rd (by omega), up1_rd (by omega), up1_s, up1_rd (by omega), up1_rd (by omega), up1_s, up1_rd (by omega), up1_s]; exact ⟨rfl, rfl, rfl, rfl⟩
      · rw [up1_n _ _ ee, up1_n _ _ ee, up1_n _ _ ee, up1_n _ _ ee]
        have gg : ∀ j, j ≠ 0 → j < 1 + 4 * f2 → up1 (up1 (up1 (up1 (up1 g (1 + 4 * f2) (v 0)) (1 + 4 * f2 + 1) (v 1)) (1 + 4 * f2 + 2) (v 2)) (4 + 4 * f2) (v 3)) 0 ((f2 : Int) + 1) j = g j := fun j h1 h2 => by rw [up1_rd h1, up1_rd (by omega), up1_rd (by omega), up1_rd (by omega), up1_rd (by omega)]
        rw [gg _ (by omega) (by omega), gg _ (by omega) (by omega), gg _ (by omega) (by omega), gg _ (by omega) (by omega)]; exact hR.2 k (by omega)
