/-! the law's loop -/
theorem loop_all (xs : Nat → Int32) {Ls : Nat} (hL : Ls ≤ 4096) {K : mK} {R : mR} {I : mI} {L : mL} (hI0 : Inv 151 K R (tJ I)) : w_L_loop xs Ls 151 K R I L 0 := by
  intro ZZ hZ
  have key : ∀ d j : Nat, j + d = 513 → ∀ (n : Nat) (K : mK) (R : mR) (J : mJ) (L : mL), irm J → Inv n K R J → ∀ w : Int32, w = zi (8 * (j : Int)) → ZZ n K R (zz J) L w j := by
    intro d
    induction d with
    | zero =>
      intro j hj n K R J L hJ hI w hw
      apply hZ
      refine ⟨fun _ => trivial, fun c => absurd ?_ c⟩
      exact (zlt (zs (y := 8) (b := 8) z_len rfl) hw ⟨by omega, by omega⟩ ⟨by omega, by omega⟩).mpr (by omega)
    | succ d ih =>
      intro j hj n K R J L hJ hI w hw
      have ih := ih (j + 1) (by omega)
      have e0 : (Int32.ofNat Ls - 8) < w ↔ (Ls : Int) - 8 < 8 * (j : Int) := zlt (zs (y := 8) (b := 8) z_len rfl) hw ⟨by omega, by omega⟩ ⟨by omega, by omega⟩
      apply hZ
      refine ⟨fun _ => trivial, fun c => ?_⟩
      have c' : ¬ ((Ls : Int) - 8 < 8 * (j : Int)) := fun h => c (e0.mpr h)
      have vv : ∀ (i : Int) (x : Int32), x = zi i → 0 ≤ i → i < 8 → vp_in (w + x) Ls := fun i x ex h0 h1 => zvp (za hw ex) ⟨by omega, by omega⟩ (by omega) (by omega)
      have hv : VV w Ls := ⟨vv 1 1 rfl (by decide) (by decide), vv 2 2 rfl (by decide) (by decide), vv 3 3 rfl (by decide) (by decide), vv 4 4 rfl (by decide) (by decide), vv 5 5 rfl (by decide) (by decide), vv 6 6 rfl (by decide) (by decide), vv 7 7 rfl (by decide) (by decide)⟩
      refine ⟨by omega, zvp hw ⟨by omega, by omega⟩ (by omega) (by omega), ?_⟩
      intro x _
      have nx : ∀ (n : Nat) (K : mK) (R : mR) (J : mJ) (L : mL), irm J → Inv n K R J → ∀ y : Int32, y = w + 8 → ZZ n K R (zz J) L y (j + 1) := fun n K R J L hJ hI y hy => ih n K R J L hJ hI y (by rw [hy, za (y := 8) (b := 8) hw rfl]; exact congrArg zi (by omega))
      exact ⟨fun _ => cL0 (kk := fun n K R I L => ∀ y, y = w + 8 → ZZ n K R I L y (j + 1)) hJ hI hv nx, fun _ => cL1 (kk := fun n K R I L => ∀ y, y = w + 8 → ZZ n K R I L y (j + 1)) hJ hI hv nx, fun _ => cL2 (kk := fun n K R I L => ∀ y, y = w + 8 → ZZ n K R I L y (j + 1)) hJ hI hv nx, fun _ => cL3 (kk := fun n K R I L => ∀ y, y = w + 8 → ZZ n K R I L y (j + 1)) hJ hI hv nx, fun _ => cL4 (kk := fun n K R I L => ∀ y, y = w + 8 → ZZ n K R I L y (j + 1)) hJ hI hv nx, fun _ => cL5 (kk := fun n K R I L => ∀ y, y = w + 8 → ZZ n K R I L y (j + 1)) hJ hI hv nx, fun _ => cL6 (kk := fun n K R I L => ∀ y, y = w + 8 → ZZ n K R I L y (j + 1)) hJ hI hv nx, fun _ => cL7 (kk := fun n K R I L => ∀ y, y = w + 8 → ZZ n K R I L y (j + 1)) hJ hI hv nx, fun _ => cL8 (kk := fun n K R I L => ∀ y, y = w + 8 → ZZ n K R I L y (j + 1)) hJ hI hv nx, fun _ => cL9 (kk := fun n K R I L => ∀ y, y = w + 8 → ZZ n K R I L y (j + 1)) hJ hI hv nx, fun _ => cL10 (kk := fun n K R I L => ∀ y, y = w + 8 → ZZ n K R I L y (j + 1)) hJ hI hv nx, fun _ => cL11 (kk := fun n K R I L => ∀ y, y = w + 8 → ZZ n K R I L y (j + 1)) hJ hI hv nx, fun _ => cL12 (kk := fun n K R I L => ∀ y, y = w + 8 → ZZ n K R I L y (j + 1)) hJ hI hv nx, fun _ => cL13 (kk := fun n K R I L => ∀ y, y = w + 8 → ZZ n K R I L y (j + 1)) hJ hI hv nx, fun _ => cL14 (kk := fun n K R I L => ∀ y, y = w + 8 → ZZ n K R I L y (j + 1)) hJ hI hv nx, fun _ => cL15 (kk := fun n K R I L => ∀ y, y = w + 8 → ZZ n K R I L y (j + 1)) hJ hI hv nx, fun _ => cL16 (kk := fun n K R I L => ∀ y, y = w + 8 → ZZ n K R I L y (j + 1)) hJ hI hv nx, fun _ => cL17 (kk := fun n K R I L => ∀ y, y = w + 8 → ZZ n K R I L y (j + 1)) hJ hI hv nx, fun _ => cL18 (kk := fun n K R I L => ∀ y, y = w + 8 → ZZ n K R I L y (j + 1)) hJ hI hv nx, fun _ => cL19 (kk := fun n K R I L => ∀ y, y = w + 8 → ZZ n K R I L y (j + 1)) hJ hI hv nx, fun _ => cL20 (kk := fun n K R I L => ∀ y, y = w + 8 → ZZ n K R I L y (j + 1)) hJ hI hv nx, fun _ => cL21 (kk := fun n K R I L => ∀ y, y = w + 8 → ZZ n K R I L y (j + 1)) hJ hI hv nx, fun _ => cL22 (kk := fun n K R I L => ∀ y, y = w + 8 → ZZ n K R I L y (j + 1)) hJ hI hv nx, fun _ => cL23 (kk := fun n K R I L => ∀ y, y = w + 8 → ZZ n K R I L y (j + 1)) hJ hI hv nx, fun _ => cL24 (kk := fun n K R I L => ∀ y, y = w + 8 → ZZ n K R I L y (j + 1)) hJ hI hv nx, fun _ _ _ _ _ _ _ _ _ _ _ _ _ _ _ _ _ _ _ _ _ _ _ _ _ => nx n K R J L hJ hI⟩
  have h := key 513 0 rfl 151 K R (tJ I) L (irm_tJ I) hI0 0 rfl
  rw [zz_tJ] at h
  exact h
