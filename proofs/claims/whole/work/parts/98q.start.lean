/-! the start: what the two constructors leave -/
def St0 (K : mK) (R : mR) (I : mI) : Prop := isX11 K R ∧ isX12 K R 128 ∧ RWw R ∧ (K 92 = (15, 24) ∧ K 93 = (15, 24)) ∧ (∀ k, R 43 k = none) ∧ (I 1 1 = 0 ∧ I 1 2 = 0 ∧ I 1 3 = -1 ∧ I 1 4 = 0 ∧ I 1 5 = 0) ∧ (∀ i, I 2 i = 0) ∧ (I 129 4 = -1 ∧ ∀ j, j ≠ 4 → I 129 j = 0) ∧ (∀ k, I 130 k = 0) ∧ (∀ k, I 128 k = 0) ∧ (I 94 1 = 0 ∧ I 111 1 = 0) ∧ I 70 3 = -1
theorem tJ_0 {I : mI} {c k : Nat} (h : I c k = 0) : tJ I c k = 0 := by unfold tJ; rw [h]; rfl
theorem tJ_m {I : mI} {c k : Nat} (h : I c k = -1) : tJ I c k = -1 := by unfold tJ; rw [h]; rfl
theorem Inv_0 {K : mK} {R : mR} {I : mI} (h : St0 K R I) : Inv 151 K R (tJ I) := by
  obtain ⟨s1, s2, s3, s4, s5, ⟨a1, a2, a3, a4, a5⟩, s7, ⟨b4, bj⟩, s9, s10, ⟨c1, c2⟩, s12⟩ := h
  have z0 : tJ I 129 0 = 0 := tJ_0 (bj 0 (by decide))
  have z1 : tJ I 129 1 = 0 := tJ_0 (bj 1 (by decide))
  have z2 : tJ I 129 2 = 0 := tJ_0 (bj 2 (by decide))
  have z3 : tJ I 129 3 = 0 := tJ_0 (bj 3 (by decide))
  have z4 : tJ I 129 4 = -1 := tJ_m b4
  refine ⟨s1, s2, ⟨⟨?_, ?_, ?_, ?_, ?_⟩, ?_, ?_, ?_, fun i hi => ?_, fun k hk => ?_, fun k hk => ?_⟩, fun k hk hf => ?_, fun k p f e mi fl hk h3 => ?_, ?_, s3, s4, ⟨fun k hk => Or.inl ⟨tJ_0 (s9 k), s5 k⟩, fun k k' t t' _ _ _ h => ?_⟩, Nat.le_refl _⟩
  · rw [z0]; exact tJ_0 a4
  · rw [z1]; exact tJ_0 a5
  · rw [z2]; exact tJ_0 a1
  · rw [z3]; exact tJ_0 a2
  · rw [z4]; exact tJ_m a3
  · rw [z0]; decide
  · rw [z1]; decide
  · rw [z2]; decide
  · rw [tJ_0 (bj (10 + i) (by omega))]
    exact ⟨by decide, tJ_0 (s7 i)⟩
  · rw [z0] at hk; omega
  · rw [z1] at hk; omega
  · have : k = 0 ∨ k = 1 := by omega
    rcases this with rfl | rfl
    · exact absurd (tJ_0 c1) hf
    · exact absurd (tJ_0 c2) hf
  · rw [tJ_m s12] at h3; omega
  · unfold UV; rw [tJ_0 (s10 19), tJ_0 (s10 21)]; decide
  · rw [s5 k] at h; cases h
def isOb (K : mK) (R : mR) (o ci : Nat) (fl : List (Nat × Nat × Nat × Nat)) : Bool := decide ((K o).1 = ci) && fl.all (fun q => decide (R o q.1 = some (o + q.2.1)) && decide (K (o + q.2.1) = q.2.2))
theorem isOb_ok {K : mK} {R : mR} {o ci : Nat} {fl : List (Nat × Nat × Nat × Nat)} (h : isOb K R o ci fl = true) : isO K R o ci fl := by
  unfold isOb at h
  rw [Bool.and_eq_true, List.all_eq_true] at h
  refine isO_in (of_decide_eq_true h.1) (fun q hq => ?_)
  have := h.2 q hq
  rw [Bool.and_eq_true] at this
  exact ⟨of_decide_eq_true this.1, of_decide_eq_true this.2⟩
theorem isHb_ok {R : mR} {e : Nat} (h : (fX2.all (fun q => decide (R e q.1 = some (e + q.2.1)))) = true) (i : Nat) (q : Nat × Nat × Nat × Nat) (hq : fX2[i]? = some q) : R e q.1 = some (e + q.2.1) := of_decide_eq_true (List.all_eq_true.mp h q (List.mem_of_getElem? hq))
set_option maxRecDepth 100000 in
set_option maxHeartbeats 40000000 in
theorem start_all {G : mK → mR → mI → mL → Prop} (h : ∀ K R I L, St0 K R I → G K R I L) : ∀ K1 R1 I1 L1, al mK0 mR0 mI0 mL0 0 (11, 10) K1 R1 I1 L1 → (K1 0).1 = 11 ∧ w_X11_init 1 K1 R1 I1 L1 0 (fun K R I L => (K 65).1 = 17 ∧ (∀ k, R 65 k = none) ∧ ∀ R9, R9 = ghR R → ∀ I9, I9 = ghI I → ∀ L9, L9 = ghL L → ∀ K2 R2 I2 L2, al K R9 I9 L9 128 (12, 49) K2 R2 I2 L2 → (K2 128).1 = 12 ∧ w_X12_init 129 K2 R2 I2 L2 128 G) := by
  repeat (first
    | rintro _ rfl
    | rintro _ _ _ _ ⟨rfl, rfl, rfl, rfl⟩
    | refine ⟨by decide +kernel, ?_⟩
    | refine ⟨fun _ => rfl, ?_⟩)
  refine h _ _ _ _ ⟨⟨by decide +kernel, ⟨by decide +kernel, isOb_ok (by decide +kernel), fun j hj => ?_⟩, ⟨by decide +kernel, by decide +kernel⟩, ⟨by decide +kernel, isOb_ok (by decide +kernel), ⟨by decide +kernel, isOb_ok (by decide +kernel)⟩, ⟨by decide +kernel, isOb_ok (by decide +kernel)⟩, by decide +kernel, by decide +kernel⟩, ⟨by decide +kernel, by decide +kernel, fun j hj => ?_⟩, ⟨by decide +kernel, isOb_ok (by decide +kernel)⟩, ⟨by decide +kernel, isOb_ok (by decide +kernel)⟩, ⟨by decide +kernel, isOb_ok (by decide +kernel)⟩, ⟨by decide +kernel, isOb_ok (by decide +kernel)⟩, ⟨by decide +kernel, isOb_ok (by decide +kernel)⟩, ⟨by decide +kernel, isOb_ok (by decide +kernel)⟩⟩, isOb_ok (by decide +kernel), Or.inl ⟨by decide +kernel, by decide +kernel⟩, ⟨by decide +kernel, by decide +kernel⟩, fun k => rfl, ⟨by decide +kernel, by decide +kernel, by decide +kernel, by decide +kernel, by decide +kernel⟩, fun i => rfl, ⟨by decide +kernel, fun j hj => ?_⟩, fun k => rfl, fun k => rfl, ⟨by decide +kernel, by decide +kernel⟩, by decide +kernel⟩
  · have : j = 0 ∨ j = 1 := by omega
    rcases this with rfl | rfl
    · exact ⟨⟨by decide +kernel, isOb_ok (by decide +kernel)⟩, ⟨by decide +kernel, isOb_ok (by decide +kernel)⟩⟩
    · exact ⟨⟨by decide +kernel, isOb_ok (by decide +kernel)⟩, ⟨by decide +kernel, isOb_ok (by decide +kernel)⟩⟩
  · have : j = 0 ∨ j = 1 := by omega
    rcases this with rfl | rfl
    · exact ⟨by decide +kernel, Or.inr ⟨by decide +kernel, by decide +kernel, isHb_ok (by decide +kernel)⟩⟩
    · exact ⟨by decide +kernel, Or.inr ⟨by decide +kernel, by decide +kernel, isHb_ok (by decide +kernel)⟩⟩
  · show up1 i0 4 (-1) j = 0
    rw [up1_n _ _ hj]; rfl
