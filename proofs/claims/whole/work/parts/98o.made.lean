/-! the class makes an image: a new Told at n -/
theorem ok3 : okC 0 fX3 := by simp [okC, fX3]
theorem ok6 : okC 0 fX6 := by simp [okC, fX6]
theorem w_i3 {o : Nat} {K : mK} {R : mR} {I : mI} {L : mL} {post : mK → mR → mI → mL → Prop} (hK : (K o).1 = 3) (hq : ∀ K1 R1 I1 L1, isX3 K1 R1 o → K1 o = K o → Bel o K K1 R R1 I I1 L L1 → post K1 R1 I1 L1) : w_X3_init (o + 1) K R I L o post := by
  have h : chn o 3 post fX3 K R I L := chn_of fX3 ok3 hK (fun K1 R1 I1 L1 h1 h2 h3 => hq K1 R1 I1 L1 (isO_in (by rw [(h2 o (by omega)).1]; exact hK) (fun q hq => (h1 q hq).1)) (h2 o (by omega)).1 (fun c hc => ?_))
  · exact h
  · have := h2 c (by omega)
    exact ⟨this.1, this.2.1, this.2.2.1, this.2.2.2 (by omega)⟩
theorem w_i6 {o : Nat} {K : mK} {R : mR} {I : mI} {L : mL} {post : mK → mR → mI → mL → Prop} (hK : (K o).1 = 6) (hq : ∀ K1 R1 I1 L1, isX6 K1 R1 o → K1 o = K o → Bel o K K1 R R1 I I1 L L1 → post K1 R1 I1 L1) : w_X6_init (o + 1) K R I L o post := by
  have h : chn o 6 post fX6 K R I L := chn_of fX6 ok6 hK (fun K1 R1 I1 L1 h1 h2 h3 => hq K1 R1 I1 L1 (isO_in (by rw [(h2 o (by omega)).1]; exact hK) (fun q hq => (h1 q hq).1)) (h2 o (by omega)).1 (fun c hc => ?_))
  · exact h
  · have := h2 c (by omega)
    exact ⟨this.1, this.2.1, this.2.2.1, this.2.2.2 (by omega)⟩
set_option maxHeartbeats 4000000 in
theorem w_i8 {n : Nat} {K : mK} {R : mR} {I : mI} {L : mL} {post : mK → mR → mI → mL → Prop} (hK : (K n).1 = 8) (hq : ∀ K1 R1 I1 L1, isX8 K1 R1 n → Bel n K K1 R R1 I I1 L L1 → post K1 R1 I1 L1) : w_X8_init (n + 1) K R I L n post := by
  unfold w_X8_init
  rintro _ _ _ _ ⟨rfl, rfl, rfl, rfl⟩
  refine ⟨by rw [up1_n _ _ (by omega)]; exact hK, up1_s _ _ _, ?_⟩
  rintro _ rfl _ rfl _ _ _ _ ⟨rfl, rfl, rfl, rfl⟩
  refine ⟨by rw [up1_n _ _ (by omega), up1_n _ _ (by omega)]; exact hK, up1_s _ _ _, ?_⟩
  rintro _ rfl _ _ _ _ ⟨rfl, rfl, rfl, rfl⟩
  refine ⟨by rw [up1_n _ _ (by omega), up1_n _ _ (by omega), up1_n _ _ (by omega)]; exact hK, up1_s _ _ _, ?_⟩
  rintro _ rfl
  refine ⟨by rw [up2_off _ _ (Or.inr (by decide)), up1_n _ _ (by omega), up2_at], ?_⟩
  rintro K17 R18 I19 L20 ⟨eK, eR, eI, eL⟩
  have k0 : (K17 n).1 = 8 := by rw [eK, up1_n _ _ (by omega), up1_n _ _ (by omega), up1_n _ _ (by omega), up1_n _ _ (by omega)]; exact hK
  have k1 : K17 (n + 1) = (13, 600) := by rw [eK, up1_n _ _ (by omega), up1_n _ _ (by omega), up1_n _ _ (by omega), up1_s]
  have k2 : K17 (n + 2) = (18, 2) := by rw [eK, up1_n _ _ (by omega), up1_n _ _ (by omega)]; exact up1_s _ _ _
  have k3 : K17 (n + 3) = (19, 2) := by rw [eK, up1_n _ _ (by omega)]; exact up1_s _ _ _
  have k4 : (K17 (n + 4)).1 = 3 := by rw [eK]; exact congrArg Prod.fst (up1_s _ _ _)
  have r0' : R18 n 0 = some (n + 1) := by rw [eR, up1_n _ _ (by omega), up2_off _ _ (Or.inr (by decide)), up1_n _ _ (by omega), up2_off _ _ (Or.inr (by decide)), up1_n _ _ (by omega), up2_at]
  have r6 : R18 n 6 = some (n + 2) := by rw [eR, up1_n _ _ (by omega), up2_off _ _ (Or.inr (by decide)), up1_n _ _ (by omega), up2_at]
  have r7 : R18 n 7 = some (n + 3) := by rw [eR, up1_n _ _ (by omega), up2_at]
  have b0 : Bel n K K17 R R18 I I19 L L20 := fun c hc => by
    refine ⟨?_, ?_, ?_, ?_⟩
    · rw [eK, up1_n _ _ (by omega), up1_n _ _ (by omega), up1_n _ _ (by omega), up1_n _ _ (by omega)]
    · rw [eI, up1_n _ _ (by omega), up1_n _ _ (by omega), up1_n _ _ (by omega), up2_n _ _ _ (by omega), up1_n _ _ (by omega)]
    · rw [eL, up1_n _ _ (by omega), up1_n _ _ (by omega), up1_n _ _ (by omega), up1_n _ _ (by omega)]
    · rw [eR, up1_n _ _ (by omega), up2_n _ _ _ (by omega), up1_n _ _ (by omega), up2_n _ _ _ (by omega), up1_n _ _ (by omega), up2_n _ _ _ (by omega), up1_n _ _ (by omega)]
  clear eK eR eI eL
  refine ⟨k4, w_i3 k4 (fun K21 R22 I23 L24 x1 y1 B1 => ⟨by rw [(B1 _ (by omega)).1]; exact k2, by rw [y1]; exact k4, ?_⟩)⟩
  rintro R25 e25
  rw [show (0 : Int32).toNatClampNeg = 0 from rfl] at *
  refine ⟨by rw [(B1 _ (by omega)).1]; exact k0, by rw [e25, up2_n _ _ _ (by omega), (B1 _ (by omega)).2.2.2]; exact r7, ?_⟩
  rintro K26 R27 I28 L29 ⟨eK, eR, eI, eL⟩
  have k5 : (K26 (n + 18)).1 = 6 := by rw [eK]; exact congrArg Prod.fst (up1_s _ _ _)
  refine ⟨k5, w_i6 k5 (fun K30 R31 I32 L33 x2 y2 B2 => ⟨?_, by rw [y2]; exact k5, ?_⟩)⟩
  · rw [(B2 _ (by omega)).1, eK, up1_n _ _ (by omega), (B1 _ (by omega)).1]; exact k3
  rintro R34 e34
  refine ⟨?_, ?_, ?_⟩
  · rw [(B2 _ (by omega)).1, eK, up1_n _ _ (by omega), (B1 _ (by omega)).1]; exact k0
  · rw [e34, up2_n _ _ _ (by omega), (B2 _ (by omega)).2.2.2, eR, up1_n _ _ (by omega), e25, up2_n _ _ _ (by omega), (B1 _ (by omega)).2.2.2]; exact r6
  rintro K35 R36 I37 L38 ⟨fK, fR, fI, fL⟩
  have k6 : (K35 (n + 23)).1 = 3 := by rw [fK]; exact congrArg Prod.fst (up1_s _ _ _)
  refine ⟨k6, w_i3 k6 (fun K39 R40 I41 L42 x3 y3 B3 => ⟨?_, by rw [y3]; exact k6, ?_⟩)⟩
  · rw [(B3 _ (by omega)).1, fK, up1_n _ _ (by omega), (B2 _ (by omega)).1, eK, up1_n _ _ (by omega), (B1 _ (by omega)).1]; exact k2
  rintro R43 e43
  refine ⟨?_, ?_, ?_⟩
  · rw [(B3 _ (by omega)).1, fK, up1_n _ _ (by omega), (B2 _ (by omega)).1, eK, up1_n _ _ (by omega), (B1 _ (by omega)).1]; exact k0
  · rw [e43, up2_n _ _ _ (by omega), (B3 _ (by omega)).2.2.2, fR, up1_n _ _ (by omega), e34, up2_n _ _ _ (by omega), (B2 _ (by omega)).2.2.2, eR, up1_n _ _ (by omega), e25, up2_n _ _ _ (by omega), (B1 _ (by omega)).2.2.2]; exact r7
  rintro K44 R45 I46 L47 ⟨hK4, hR4, hI4, hL4⟩
  have k7 : (K44 (n + 37)).1 = 6 := by rw [hK4]; exact congrArg Prod.fst (up1_s _ _ _)
  refine ⟨k7, w_i6 k7 (fun K48 R49 I50 L51 x4 y4 B4 => ⟨?_, by rw [y4]; exact k7, ?_⟩)⟩
  · rw [(B4 _ (by omega)).1, hK4, up1_n _ _ (by omega), (B3 _ (by omega)).1, fK, up1_n _ _ (by omega), (B2 _ (by omega)).1, eK, up1_n _ _ (by omega), (B1 _ (by omega)).1]; exact k3
  rintro R52 e52
  rw [show (1 : Int32).toNatClampNeg = 1 from rfl] at *
  have K4 : ∀ c, c < n + 37 → K48 c = K39 c := fun c hc => by rw [(B4 c hc).1, hK4, up1_n _ _ (by omega)]
  have K3 : ∀ c, c < n + 23 → K48 c = K30 c := fun c hc => by rw [K4 c (by omega), (B3 c hc).1, fK, up1_n _ _ (by omega)]
  have K2 : ∀ c, c < n + 18 → K48 c = K21 c := fun c hc => by rw [K3 c (by omega), (B2 c hc).1, eK, up1_n _ _ (by omega)]
  have K1 : ∀ c, c < n + 4 → K48 c = K17 c := fun c hc => by rw [K2 c (by omega), (B1 c hc).1]
  have R4 : ∀ c, c < n + 37 → c ≠ n + 3 → R52 c = R43 c := fun c hc h3 => by rw [e52, up2_n _ _ _ h3, (B4 c hc).2.2.2, hR4, up1_n _ _ (by omega)]
  have R3 : ∀ c, c < n + 23 → c ≠ n + 2 → R43 c = R34 c := fun c hc h2 => by rw [e43, up2_n _ _ _ h2, (B3 c hc).2.2.2, fR, up1_n _ _ (by omega)]
  have R2 : ∀ c, c < n + 18 → c ≠ n + 3 → R34 c = R25 c := fun c hc h2 => by rw [e34, up2_n _ _ _ h2, (B2 c hc).2.2.2, eR, up1_n _ _ (by omega)]
  have R1 : ∀ c, c < n + 4 → c ≠ n + 2 → R25 c = R18 c := fun c hc h2 => by rw [e25, up2_n _ _ _ h2, (B1 c hc).2.2.2]
  have R0 : ∀ c, c < n + 2 → R52 c = R18 c := fun c hc => by rw [R4 c (by omega) (by omega), R3 c (by omega) (by omega), R2 c (by omega) (by omega), R1 c (by omega) (by omega)]
  refine hq K48 R52 I50 L51 ⟨isO_in (by rw [K1 n (by omega)]; exact k0) (fun q hq => ?_), fun j hj => ?_⟩ (fun c hc => ?_)
  · simp only [fX8, List.mem_cons, List.not_mem_nil, or_false] at hq
    rcases hq with rfl | rfl | rfl
    · exact ⟨by rw [R0 n (by omega)]; exact r0', by rw [K1 _ (by show n + 1 < n + 4; omega)]; exact k1⟩
    · exact ⟨by rw [R0 n (by omega)]; exact r6, by rw [K1 _ (by show n + 2 < n + 4; omega)]; exact k2⟩
    · exact ⟨by rw [R0 n (by omega)]; exact r7, by rw [K1 _ (by show n + 3 < n + 4; omega)]; exact k3⟩
  · have hj2 : j = 0 ∨ j = 1 := by omega
    rcases hj2 with rfl | rfl
    · refine ⟨⟨?_, ?_⟩, ⟨?_, ?_⟩⟩
      · rw [R4 (n + 2) (by omega) (by omega), e43, up2_off _ _ (Or.inr (by decide)), (B3 _ (by omega)).2.2.2, fR, up1_n _ _ (by omega), R2 (n + 2) (by omega) (by omega), e25]
        exact up2_at _ _ _ _
      · exact isO_fr (K := K21) (R := R22) (m := 14) mx3 (fun c x y => K2 c (by omega)) (by rw [R4 _ (by omega) (by omega), R3 _ (by omega) (by omega), R2 _ (by omega) (by omega), e25, up2_n _ _ _ (by omega)]) (by decide) x1
      · rw [e52, up2_off _ _ (Or.inr (by decide)), (B4 _ (by omega)).2.2.2, hR4, up1_n _ _ (by omega), R3 (n + 3) (by omega) (by omega), e34]
        exact up2_at _ _ _ _
      · exact isO_fr (K := K30) (R := R31) (m := 5) mx6 (fun c x y => K3 c (by omega)) (by rw [R4 _ (by omega) (by omega), R3 _ (by omega) (by omega), e34, up2_n _ _ _ (by omega)]) (by decide) x2
    · refine ⟨⟨?_, ?_⟩, ⟨?_, ?_⟩⟩
      · rw [R4 (n + 2) (by omega) (by omega), e43]
        exact up2_at _ _ _ _
      · exact isO_fr (K := K39) (R := R40) (m := 14) mx3 (fun c x y => K4 c (by omega)) (by rw [R4 _ (by omega) (by omega), e43, up2_n _ _ _ (by omega)]) (by decide) x3
      · rw [e52]
        exact up2_at _ _ _ _
      · exact isO_fr (K := K48) (R := R49) (m := 5) mx6 (fun c x y => rfl) (by rw [e52, up2_n _ _ _ (by omega)]) (by decide) x4
  · have z0 := b0 c hc
    have z1 := B1 c (by omega)
    have z2 := B2 c (by omega)
    have z3 := B3 c (by omega)
    have z4 := B4 c (by omega)
    refine ⟨?_, ?_, ?_, ?_⟩
    · rw [K1 c (by omega)]; exact z0.1
    · rw [z4.2.1, hI4, up1_n _ _ (by omega), z3.2.1, fI, up1_n _ _ (by omega), z2.2.1, eI, up1_n _ _ (by omega), z1.2.1]; exact z0.2.1
    · rw [z4.2.2.1, hL4, up1_n _ _ (by omega), z3.2.2.1, fL, up1_n _ _ (by omega), z2.2.2.1, eL, up1_n _ _ (by omega), z1.2.2.1]; exact z0.2.2.1
    · rw [R0 c (by omega)]; exact z0.2.2.2
