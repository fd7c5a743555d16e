def v_X8_copyFrom_58 (o : Nat) (a1 : Nat) (post' : mJ → Prop) (J : mJ) (v2 : Int) : Prop := ∀ ZZ : (mJ → Int → Prop), (∀ (J : mJ) (v2 : Int), ((2 ≤ v2 → post' J) ∧ (¬ 2 ≤ v2 → (0 ≤ v2 ∧ v2 < 2) ∧ (0 ≤ v2 ∧ v2 < 2) ∧ v_X3_copyFrom J (o + 4 + 19 * v2.toNat) (a1 + 4 + 19 * v2.toNat) (fun J10 => (0 ≤ v2 ∧ v2 < 2) ∧ (0 ≤ v2 ∧ v2 < 2) ∧ v_X6_copyFrom J10 (o + 18 + 19 * v2.toNat) (a1 + 18 + 19 * v2.toNat) (fun J13 => ir (v2 + 1) ∧ ∀ y15, y15 = v2 + 1 → ZZ J13 y15)))) → ZZ J v2) → ZZ J v2
theorem vw_X8_copyFrom_58 {o : Nat} {a1 : Nat}   {post : mI → Prop} {post' : mJ → Prop} (hp : ∀ (J1 : mJ), irm J1 → post' J1 → post (zz J1)) {J : mJ} {xv2 : Int32} {v2 : Int} (hJ : irm J) (ev2 : xv2 = zi v2) (iv2 : ir v2) (hv : v_X8_copyFrom_58 o a1 post' J v2) : w_X8_copyFrom_58 o a1 post (zz J) xv2 := by
  subst ev2
  unfold v_X8_copyFrom_58 at hv
  unfold w_X8_copyFrom_58
  intro ZZ hZ
  refine hv (fun J v2 => ∀ (xv2 : Int32), irm J → xv2 = zi v2 → ir v2 → ZZ (zz J) xv2) ?_ _ hJ rfl iv2
  clear hv hJ iv2
  intro J v2 hv xv2 hJ ev2 iv2
  subst ev2
  refine hZ _ _ ?_
  refine ⟨fun cq => ?_, fun cq => ?_⟩
  · have hv := hv.1 ((zle (by decide : (2 : Int32) = zi 2) (rfl : zi v2 = zi v2) (by decide : ir 2) iv2).mp cq)
    exact hp _ hJ hv
  · have hv := hv.2 (fun q => cq ((zle (by decide : (2 : Int32) = zi 2) (rfl : zi v2 = zi v2) (by decide : ir 2) iv2).mpr q))
    obtain ⟨g8, hv⟩ := hv
    refine ⟨zvp (rfl : zi v2 = zi v2) iv2 g8.1 g8.2, ?_⟩
    try simp only [zcl (rfl : zi v2 = zi v2) iv2 g8.1]
    obtain ⟨g9, hv⟩ := hv
    refine ⟨zvp (rfl : zi v2 = zi v2) iv2 g9.1 g9.2, ?_⟩
    try simp only [zcl (rfl : zi v2 = zi v2) iv2 g9.1]
    refine vw_X3_copyFrom hJ  (fun J10 hJ hv => ?_) hv
    obtain ⟨g11, hv⟩ := hv
    refine ⟨zvp (rfl : zi v2 = zi v2) iv2 g11.1 g11.2, ?_⟩
    try simp only [zcl (rfl : zi v2 = zi v2) iv2 g11.1]
    obtain ⟨g12, hv⟩ := hv
    refine ⟨zvp (rfl : zi v2 = zi v2) iv2 g12.1 g12.2, ?_⟩
    try simp only [zcl (rfl : zi v2 = zi v2) iv2 g12.1]
    refine vw_X6_copyFrom hJ  (fun J13 hJ hv => ?_) hv
    obtain ⟨g14, hv⟩ := hv
    intro xy15 exy15
    obtain ⟨y15, eyy15⟩ : ∃ q9 : Int, q9 = v2 + 1 := ⟨_, rfl⟩
    have hv := hv y15 eyy15
    have Ey15 : xy15 = zi y15 := exy15.trans (((za (rfl : zi v2 = zi v2) (by decide : (1 : Int32) = zi 1))).trans (congrArg zi eyy15.symm))
    have Iy15 : ir y15 := by rw [eyy15]; exact g14
    clear exy15
    exact hv _ hJ Ey15 Iy15
def v_X8_copyFrom (J : mJ) (o : Nat) (a1 : Nat) (post' : mJ → Prop) : Prop := ((a1 + 1) ≠ (o + 1) ∧ (0 : Int) ≤ 0 ∧ (0 : Int) ≤ 0 ∧ (0 : Int) ≤ 600 ∧ 0 + 600 ≤ 600 ∧ 0 + 600 ≤ 600) ∧ (∀ i, i < 600 → fits .byte (.int (zi (J (a1 + 1) (0 + i)))) = true) ∧ ∀ J2, J2 = cpyZ J (a1 + 1) (o + 1) 0 0 600 → ∀ J3, J3 = up2 J2 o 1 (J2 a1 1) → ∀ J4, J4 = up2 J3 o 2 (J3 a1 2) → ∀ J5, J5 = up2 J4 o 3 (J4 a1 3) → ∀ J6, J6 = up2 J5 o 4 (J5 a1 4) → ∀ J7, J7 = up2 J6 o 5 (J6 a1 5) → (v_X8_copyFrom_58 o a1 post') J7 0
theorem vw_X8_copyFrom {J : mJ} {o : Nat} {a1 : Nat} (hJ : irm J)    {post : mI → Prop} {post' : mJ → Prop} (hp : ∀ (J1 : mJ), irm J1 → post' J1 → post (zz J1)) (hv : v_X8_copyFrom J o a1 post') : w_X8_copyFrom (zz J) o a1 post := by
  unfold v_X8_copyFrom at hv
  unfold w_X8_copyFrom
  obtain ⟨⟨hz0, hz1, hz2, hz3, hz4, hz5⟩, hv⟩ := hv
  obtain ⟨hz6, hv⟩ := hv
  refine ⟨hz0, z_nn (by decide : (0 : Int32) = zi 0) (by decide : ir 0) hz1, z_nn (by decide : (0 : Int32) = zi 0) (by decide : ir 0) hz2, z_nn (by decide : (600 : Int32) = zi 600) (by decide : ir 600) hz3, z_sum (by decide : (0 : Int32) = zi 0) (by decide : ir 0) hz1 (by decide : (600 : Int32) = zi 600) (by decide : ir 600) hz3 hz4, z_sum (by decide : (0 : Int32) = zi 0) (by decide : ir 0) hz2 (by decide : (600 : Int32) = zi 600) (by decide : ir 600) hz3 hz5, z_fit (by decide : (0 : Int32) = zi 0) (by decide : ir 0) hz1 (by decide : (600 : Int32) = zi 600) (by decide : ir 600) hz3 hz6, ?_⟩
  intro I1 eI1
  obtain ⟨J2, eJ2⟩ : ∃ q9 : mJ, q9 = cpyZ J (a1 + 1) (o + 1) 0 0 600 := ⟨_, rfl⟩
  have eI1 : I1 = zz J2 := by rw [eI1, eJ2]; exact z_cp (by decide : (0 : Int32) = zi 0) (by decide : ir 0) hz1 (by decide : (0 : Int32) = zi 0) (by decide : ir 0) hz2 (by decide : (600 : Int32) = zi 600) (by decide : ir 600) hz3
  subst eI1
  have hv := hv J2 eJ2
  have hJ : irm J2 := by rw [eJ2]; exact irm_cpy hJ
  intro I1 eI1
  obtain ⟨J3, eJ3⟩ : ∃ q9 : mJ, q9 = up2 J2 o 1 (J2 a1 1) := ⟨_, rfl⟩
  have eI1 : I1 = zz J3 := by rw [eI1, eJ3]; exact zup zrf
  subst eI1
  have hv := hv J3 eJ3
  have hJ : irm J3 := by rw [eJ3]; exact irm_up hJ (hJ _ _)
  intro I1 eI1
  obtain ⟨J4, eJ4⟩ : ∃ q9 : mJ, q9 = up2 J3 o 2 (J3 a1 2) := ⟨_, rfl⟩
  have eI1 : I1 = zz J4 := by rw [eI1, eJ4]; exact zup zrf
  subst eI1
  have hv := hv J4 eJ4
  have hJ : irm J4 := by rw [eJ4]; exact irm_up hJ (hJ _ _)
  intro I1 eI1
  obtain ⟨J5, eJ5⟩ : ∃ q9 : mJ, q9 = up2 J4 o 3 (J4 a1 3) := ⟨_, rfl⟩
  have eI1 : I1 = zz J5 := by rw [eI1, eJ5]; exact zup zrf
  subst eI1
  have hv := hv J5 eJ5
  have hJ : irm J5 := by rw [eJ5]; exact irm_up hJ (hJ _ _)
  intro I1 eI1
  obtain ⟨J6, eJ6⟩ : ∃ q9 : mJ, q9 = up2 J5 o 4 (J5 a1 4) := ⟨_, rfl⟩
  have eI1 : I1 = zz J6 := by rw [eI1, eJ6]; exact zup zrf
  subst eI1
  have hv := hv J6 eJ6
  have hJ : irm J6 := by rw [eJ6]; exact irm_up hJ (hJ _ _)
  intro I1 eI1
  obtain ⟨J7, eJ7⟩ : ∃ q9 : mJ, q9 = up2 J6 o 5 (J6 a1 5) := ⟨_, rfl⟩
  have eI1 : I1 = zz J7 := by rw [eI1, eJ7]; exact zup zrf
  subst eI1
  have hv := hv J7 eJ7
  have hJ : irm J7 := by rw [eJ7]; exact irm_up hJ (hJ _ _)
  exact vw_X8_copyFrom_58  hp hJ (by decide : (0 : Int32) = zi 0) (by decide : ir 0) hv
def v_X9_findMixed_28 (o : Nat) (a1 : Nat) (a1h : Nat) (post' : mJ → Prop) (k18' : mJ → Int → Prop) (J : mJ) (v2 : Int) (v3 : Int) : Prop := ∀ ZZ : (mJ → Int → Int → Prop), (∀ (J : mJ) (v2 : Int) (v3 : Int), (((J a1h 2) ≤ v3 → ir (v2 + 1) ∧ ∀ y4, y4 = v2 + 1 → k18' J y4) ∧ (¬ (J a1h 2) ≤ v3 → (0 ≤ v2 ∧ v2 < 600) ∧ v_X11_has (J (a1 + 7) v2.toNat) v3 (fun b6 => (b6 = false → ir (v3 + 1) ∧ ∀ y8, y8 = v3 + 1 → ZZ J v2 y8) ∧ (b6 = true → (0 ≤ v3 ∧ v3 < 6) ∧ (0 ≤ v2 ∧ v2 < 600) ∧ (0 ≤ v3 ∧ v3 < 6) ∧ ∀ J12, J12 = up2 J (o + 3) v3.toNat (orZ (J (o + 3) v3.toNat) (shlZ 1 (J (a1 + 1) v2.toNat))) → ir (v3 + 1) ∧ ∀ y14, y14 = v3 + 1 → ZZ J12 v2 y14)))) → ZZ J v2 v3) → ZZ J v2 v3
theorem vw_X9_findMixed_28 {o : Nat} {a1 : Nat} {a1h : Nat}   {post : mI → Prop} {post' : mJ → Prop} {k18' : mJ → Int → Prop} {k18 : mI → Int32 → Prop} (hp : ∀ (J1 : mJ), irm J1 → post' J1 → post (zz J1)) (hk18 : ∀ (J : mJ) (xv2 : Int32) (v2 : Int), irm J → xv2 = zi v2 → ir v2 → k18' J v2 → k18 (zz J) xv2) {J : mJ} {xv2 : Int32} {v2 : Int} {xv3 : Int32} {v3 : Int} (hJ : irm J) (ev2 : xv2 = zi v2) (iv2 : ir v2) (ev3 : xv3 = zi v3) (iv3 : ir v3) (hv : v_X9_findMixed_28 o a1 a1h post' k18' J v2 v3) : w_X9_findMixed_28 o a1 a1h post k18 (zz J) xv2 xv3 := by
  subst ev2
  subst ev3
  unfold v_X9_findMixed_28 at hv
  unfold w_X9_findMixed_28
  intro ZZ hZ
  refine hv (fun J v2 v3 => ∀ (xv2 : Int32) (xv3 : Int32), irm J → xv2 = zi v2 → ir v2 → xv3 = zi v3 → ir v3 → ZZ (zz J) xv2 xv3) ?_ _ _ hJ rfl iv2 rfl iv3
  clear hv hJ iv2 iv3
  intro J v2 v3 hv xv2 xv3 hJ ev2 iv2 ev3 iv3
  subst ev2
  subst ev3
  refine hZ _ _ _ ?_
  refine ⟨fun cq => ?_, fun cq => ?_⟩
  · have hv := hv.1 ((zle zrf (rfl : zi v3 = zi v3) (hJ _ _) iv3).mp cq)
    obtain ⟨g3, hv⟩ := hv
    intro xy4 exy4
    obtain ⟨y4, eyy4⟩ : ∃ q9 : Int, q9 = v2 + 1 := ⟨_, rfl⟩
    have hv := hv y4 eyy4
    have Ey4 : xy4 = zi y4 := exy4.trans (((za (rfl : zi v2 = zi v2) (by decide : (1 : Int32) = zi 1))).trans (congrArg zi eyy4.symm))
    have Iy4 : ir y4 := by rw [eyy4]; exact g3
    clear exy4
    exact hk18 _ _ _ hJ Ey4 Iy4 hv
  · have hv := hv.2 (fun q => cq ((zle zrf (rfl : zi v3 = zi v3) (hJ _ _) iv3).mpr q))
    obtain ⟨g5, hv⟩ := hv
    refine ⟨zvp (rfl : zi v2 = zi v2) iv2 g5.1 g5.2, ?_⟩
    refine vw_X11_has (zrd (rfl : zi v2 = zi v2) iv2 g5.1) (hJ _ _) (rfl : zi v3 = zi v3) iv3 (fun b6  hv => ?_) hv
    refine ⟨fun cq => ?_, fun cq => ?_⟩
    · have hv := hv.1 cq
      obtain ⟨g7, hv⟩ := hv
      intro xy8 exy8
      obtain ⟨y8, eyy8⟩ : ∃ q9 : Int, q9 = v3 + 1 := ⟨_, rfl⟩
      have hv := hv y8 eyy8
      have Ey8 : xy8 = zi y8 := exy8.trans (((za (rfl : zi v3 = zi v3) (by decide : (1 : Int32) = zi 1))).trans (congrArg zi eyy8.symm))
      have Iy8 : ir y8 := by rw [eyy8]; exact g7
      clear exy8
      exact hv _ _ hJ (rfl : zi v2 = zi v2) iv2 Ey8 Iy8
    · have hv := hv.2 cq
      obtain ⟨g9, hv⟩ := hv
      refine ⟨zvp (rfl : zi v3 = zi v3) iv3 g9.1 g9.2, ?_⟩
      obtain ⟨g10, hv⟩ := hv
      refine ⟨zvp (rfl : zi v2 = zi v2) iv2 g10.1 g10.2, ?_⟩
      obtain ⟨g11, hv⟩ := hv
      refine ⟨zvp (rfl : zi v3 = zi v3) iv3 g11.1 g11.2, ?_⟩
      intro I1 eI1
      obtain ⟨J12, eJ12⟩ : ∃ q9 : mJ, q9 = up2 J (o + 3) v3.toNat (orZ (J (o + 3) v3.toNat) (shlZ 1 (J (a1 + 1) v2.toNat))) := ⟨_, rfl⟩
      have eI1 : I1 = zz J12 := by rw [eI1, eJ12]; exact zupa (rfl : zi v3 = zi v3) iv3 g11.1 (z_or (zrd (rfl : zi v3 = zi v3) iv3 g9.1) (z_shl (by decide : (1 : Int32) = zi 1) (zrd (rfl : zi v2 = zi v2) iv2 g10.1)))
      subst eI1
      have hv := hv J12 eJ12
      have hJ : irm J12 := by rw [eJ12]; exact irm_up hJ (ir_toInt _)
      obtain ⟨g13, hv⟩ := hv
      intro xy14 exy14
      obtain ⟨y14, eyy14⟩ : ∃ q9 : Int, q9 = v3 + 1 := ⟨_, rfl⟩
      have hv := hv y14 eyy14
      have Ey14 : xy14 = zi y14 := exy14.trans (((za (rfl : zi v3 = zi v3) (by decide : (1 : Int32) = zi 1))).trans (congrArg zi eyy14.symm))
      have Iy14 : ir y14 := by rw [eyy14]; exact g13
      clear exy14
      exact hv _ _ hJ (rfl : zi v2 = zi v2) iv2 Ey14 Iy14
def v_X9_findMixed_18 (o : Nat) (a1 : Nat) (a1h : Nat) (post' : mJ → Prop) (k83' : mJ → Int → Prop) (J : mJ) (v2 : Int) : Prop := ∀ ZZ : (mJ → Int → Prop), (∀ (J : mJ) (v2 : Int), (((J a1 2) ≤ v2 → k83' J 0) ∧ (¬ (J a1 2) ≤ v2 → (v_X9_findMixed_28 o a1 a1h post' ZZ) J v2 0)) → ZZ J v2) → ZZ J v2
theorem vw_X9_findMixed_18 {o : Nat} {a1 : Nat} {a1h : Nat}   {post : mI → Prop} {post' : mJ → Prop} {k83' : mJ → Int → Prop} {k83 : mI → Int32 → Prop} (hp : ∀ (J1 : mJ), irm J1 → post' J1 → post (zz J1)) (hk83 : ∀ (J : mJ) (xv2 : Int32) (v2 : Int), irm J → xv2 = zi v2 → ir v2 → k83' J v2 → k83 (zz J) xv2) {J : mJ} {xv2 : Int32} {v2 : Int} (hJ : irm J) (ev2 : xv2 = zi v2) (iv2 : ir v2) (hv : v_X9_findMixed_18 o a1 a1h post' k83' J v2) : w_X9_findMixed_18 o a1 a1h post k83 (zz J) xv2 := by
  subst ev2
  unfold v_X9_findMixed_18 at hv
  unfold w_X9_findMixed_18
  intro ZZ hZ
  refine hv (fun J v2 => ∀ (xv2 : Int32), irm J → xv2 = zi v2 → ir v2 → ZZ (zz J) xv2) ?_ _ hJ rfl iv2
  clear hv hJ iv2
  intro J v2 hv xv2 hJ ev2 iv2
  subst ev2
  refine hZ _ _ ?_
  refine ⟨fun cq => ?_, fun cq => ?_⟩
  · have hv := hv.1 ((zle zrf (rfl : zi v2 = zi v2) (hJ _ _) iv2).mp cq)
    exact hk83 _ _ _ hJ (by decide : (0 : Int32) = zi 0) (by decide : ir 0) hv
  · have hv := hv.2 (fun q => cq ((zle zrf (rfl : zi v2 = zi v2) (hJ _ _) iv2).mpr q))
    refine vw_X9_findMixed_28  hp ?_ hJ (rfl : zi v2 = zi v2) iv2 (by decide : (0 : Int32) = zi 0) (by decide : ir 0) hv
    · intro qq xx vv hJ ev2 iv2 hv
      exact hv _ hJ ev2 iv2
def v_X9_findMixed_96 (o : Nat) (a1 : Nat) (a1h : Nat) (post' : mJ → Prop) (k83' : mJ → Int → Prop) (J : mJ) (v2 : Int) (v3 : Int) : Prop := ∀ ZZ : (mJ → Int → Int → Prop), (∀ (J : mJ) (v2 : Int) (v3 : Int), (((J a1h 2) ≤ v3 → ir (v2 + 1) ∧ ∀ y16, y16 = v2 + 1 → k83' J y16) ∧ (¬ (J a1h 2) ≤ v3 → (0 ≤ v3 ∧ v3 < 6) ∧ v_X11_has (J (o + 3) v3.toNat) v2 (fun b18 => (b18 = false → ir (v3 + 1) ∧ ∀ y20, y20 = v3 + 1 → ZZ J v2 y20) ∧ (b18 = true → (0 ≤ v2 ∧ v2 < 6) ∧ (0 ≤ v3 ∧ v3 < 6) ∧ (0 ≤ v2 ∧ v2 < 6) ∧ ∀ J24, J24 = up2 J (o + 2) v2.toNat (orZ (J (o + 2) v2.toNat) (J (o + 3) v3.toNat)) → ir (v3 + 1) ∧ ∀ y26, y26 = v3 + 1 → ZZ J24 v2 y26)))) → ZZ J v2 v3) → ZZ J v2 v3
theorem vw_X9_findMixed_96 {o : Nat} {a1 : Nat} {a1h : Nat}   {post : mI → Prop} {post' : mJ → Prop} {k83' : mJ → Int → Prop} {k83 : mI → Int32 → Prop} (hp : ∀ (J1 : mJ), irm J1 → post' J1 → post (zz J1)) (hk83 : ∀ (J : mJ) (xv2 : Int32) (v2 : Int), irm J → xv2 = zi v2 → ir v2 → k83' J v2 → k83 (zz J) xv2) {J : mJ} {xv2 : Int32} {v2 : Int} {xv3 : Int32} {v3 : Int} (hJ : irm J) (ev2 : xv2 = zi v2) (iv2 : ir v2) (ev3 : xv3 = zi v3) (iv3 : ir v3) (hv : v_X9_findMixed_96 o a1 a1h post' k83' J v2 v3) : w_X9_findMixed_96 o a1 a1h post k83 (zz J) xv2 xv3 := by
  subst ev2
  subst ev3
  unfold v_X9_findMixed_96 at hv
  unfold w_X9_findMixed_96
  intro ZZ hZ
  refine hv (fun J v2 v3 => ∀ (xv2 : Int32) (xv3 : Int32), irm J → xv2 = zi v2 → ir v2 → xv3 = zi v3 → ir v3 → ZZ (zz J) xv2 xv3) ?_ _ _ hJ rfl iv2 rfl iv3
  clear hv hJ iv2 iv3
  intro J v2 v3 hv xv2 xv3 hJ ev2 iv2 ev3 iv3
  subst ev2
  subst ev3
  refine hZ _ _ _ ?_
  refine ⟨fun cq => ?_, fun cq => ?_⟩
  · have hv := hv.1 ((zle zrf (rfl : zi v3 = zi v3) (hJ _ _) iv3).mp cq)
    obtain ⟨g15, hv⟩ := hv
    intro xy16 exy16
    obtain ⟨y16, eyy16⟩ : ∃ q9 : Int, q9 = v2 + 1 := ⟨_, rfl⟩
    have hv := hv y16 eyy16
    have Ey16 : xy16 = zi y16 := exy16.trans (((za (rfl : zi v2 = zi v2) (by decide : (1 : Int32) = zi 1))).trans (congrArg zi eyy16.symm))
    have Iy16 : ir y16 := by rw [eyy16]; exact g15
    clear exy16
    exact hk83 _ _ _ hJ Ey16 Iy16 hv
  · have hv := hv.2 (fun q => cq ((zle zrf (rfl : zi v3 = zi v3) (hJ _ _) iv3).mpr q))
    obtain ⟨g17, hv⟩ := hv
    refine ⟨zvp (rfl : zi v3 = zi v3) iv3 g17.1 g17.2, ?_⟩
    refine vw_X11_has (zrd (rfl : zi v3 = zi v3) iv3 g17.1) (hJ _ _) (rfl : zi v2 = zi v2) iv2 (fun b18  hv => ?_) hv
    refine ⟨fun cq => ?_, fun cq => ?_⟩
    · have hv := hv.1 cq
      obtain ⟨g19, hv⟩ := hv
      intro xy20 exy20
      obtain ⟨y20, eyy20⟩ : ∃ q9 : Int, q9 = v3 + 1 := ⟨_, rfl⟩
      have hv := hv y20 eyy20
      have Ey20 : xy20 = zi y20 := exy20.trans (((za (rfl : zi v3 = zi v3) (by decide : (1 : Int32) = zi 1))).trans (congrArg zi eyy20.symm))
      have Iy20 : ir y20 := by rw [eyy20]; exact g19
      clear exy20
      exact hv _ _ hJ (rfl : zi v2 = zi v2) iv2 Ey20 Iy20
    · have hv := hv.2 cq
      obtain ⟨g21, hv⟩ := hv
      refine ⟨zvp (rfl : zi v2 = zi v2) iv2 g21.1 g21.2, ?_⟩
      obtain ⟨g22, hv⟩ := hv
      refine ⟨zvp (rfl : zi v3 = zi v3) iv3 g22.1 g22.2, ?_⟩
      obtain ⟨g23, hv⟩ := hv
      refine ⟨zvp (rfl : zi v2 = zi v2) iv2 g23.1 g23.2, ?_⟩
      intro I1 eI1
      obtain ⟨J24, eJ24⟩ : ∃ q9 : mJ, q9 = up2 J (o + 2) v2.toNat (orZ (J (o + 2) v2.toNat) (J (o + 3) v3.toNat)) := ⟨_, rfl⟩
      have eI1 : I1 = zz J24 := by rw [eI1, eJ24]; exact zupa (rfl : zi v2 = zi v2) iv2 g23.1 (z_or (zrd (rfl : zi v2 = zi v2) iv2 g21.1) (zrd (rfl : zi v3 = zi v3) iv3 g22.1))
      subst eI1
      have hv := hv J24 eJ24
      have hJ : irm J24 := by rw [eJ24]; exact irm_up hJ (ir_toInt _)
      obtain ⟨g25, hv⟩ := hv
      intro xy26 exy26
      obtain ⟨y26, eyy26⟩ : ∃ q9 : Int, q9 = v3 + 1 := ⟨_, rfl⟩
      have hv := hv y26 eyy26
      have Ey26 : xy26 = zi y26 := exy26.trans (((za (rfl : zi v3 = zi v3) (by decide : (1 : Int32) = zi 1))).trans (congrArg zi eyy26.symm))
      have Iy26 : ir y26 := by rw [eyy26]; exact g25
      clear exy26
      exact hv _ _ hJ (rfl : zi v2 = zi v2) iv2 Ey26 Iy26
def v_X9_findMixed_83 (o : Nat) (a1 : Nat) (a1h : Nat) (post' : mJ → Prop) (J : mJ) (v2 : Int) : Prop := ∀ ZZ : (mJ → Int → Prop), (∀ (J : mJ) (v2 : Int), (((J a1h 3) ≤ v2 → post' J) ∧ (¬ (J a1h 3) ≤ v2 → (v_X9_findMixed_96 o a1 a1h post' ZZ) J v2 0)) → ZZ J v2) → ZZ J v2
theorem vw_X9_findMixed_83 {o : Nat} {a1 : Nat} {a1h : Nat}   {post : mI → Prop} {post' : mJ → Prop} (hp : ∀ (J1 : mJ), irm J1 → post' J1 → post (zz J1)) {J : mJ} {xv2 : Int32} {v2 : Int} (hJ : irm J) (ev2 : xv2 = zi v2) (iv2 : ir v2) (hv : v_X9_findMixed_83 o a1 a1h post' J v2) : w_X9_findMixed_83 o a1 a1h post (zz J) xv2 := by
  subst ev2
  unfold v_X9_findMixed_83 at hv
  unfold w_X9_findMixed_83
  intro ZZ hZ
  refine hv (fun J v2 => ∀ (xv2 : Int32), irm J → xv2 = zi v2 → ir v2 → ZZ (zz J) xv2) ?_ _ hJ rfl iv2
  clear hv hJ iv2
  intro J v2 hv xv2 hJ ev2 iv2
  subst ev2
  refine hZ _ _ ?_
  refine ⟨fun cq => ?_, fun cq => ?_⟩
  · have hv := hv.1 ((zle zrf (rfl : zi v2 = zi v2) (hJ _ _) iv2).mp cq)
    exact hp _ hJ hv
  · have hv := hv.2 (fun q => cq ((zle zrf (rfl : zi v2 = zi v2) (hJ _ _) iv2).mpr q))
    refine vw_X9_findMixed_96  hp ?_ hJ (rfl : zi v2 = zi v2) iv2 (by decide : (0 : Int32) = zi 0) (by decide : ir 0) hv
    · intro qq xx vv hJ ev2 iv2 hv
      exact hv _ hJ ev2 iv2
def v_X9_findMixed (J : mJ) (o : Nat) (a1 : Nat) (a1h : Nat) (post' : mJ → Prop) : Prop := v_J7_fill_53178 J (o + 3) 6 0 (fun J1 => v_J7_fill_53178 J1 (o + 2) 6 0 (fun J2 => (v_X9_findMixed_18 o a1 a1h post' (v_X9_findMixed_83 o a1 a1h post')) J2 0))
theorem vw_X9_findMixed {J : mJ} {o : Nat} {a1 : Nat} {a1h : Nat} (hJ : irm J)     {post : mI → Prop} {post' : mJ → Prop} (hp : ∀ (J1 : mJ), irm J1 → post' J1 → post (zz J1)) (hv : v_X9_findMixed J o a1 a1h post') : w_X9_findMixed (zz J) o a1 a1h post := by
  unfold v_X9_findMixed at hv
  unfold w_X9_findMixed
  refine vw_J7_fill_53178 hJ (by decide : (0 : Int32) = zi 0) (by decide : ir 0) (fun J1 hJ hv => ?_) hv
  refine vw_J7_fill_53178 hJ (by decide : (0 : Int32) = zi 0) (by decide : ir 0) (fun J2 hJ hv => ?_) hv
  refine vw_X9_findMixed_18  hp ?_ hJ (by decide : (0 : Int32) = zi 0) (by decide : ir 0) hv
  · intro qq xx vv hJ ev2 iv2 hv
    exact vw_X9_findMixed_83  hp hJ ev2 iv2 hv
def v_X9_isFree_2 (J : mJ) (a1 : Nat) (a1n : Nat) (a2 : Nat) (a2n : Nat) (a3 : Int) (post' : Bool → Prop) (v3 : Int) : Prop := ∀ ZZ : (Int → Prop), (∀ (v3 : Int), ((a3 ≤ v3 → post' true) ∧ (¬ a3 ≤ v3 → (0 ≤ a3 ∧ a3 < a1n) ∧ v_X11_has (J a1 a3.toNat) v3 (fun b2 => (b2 = false → ir (v3 + 1) ∧ ∀ y4, y4 = v3 + 1 → ZZ y4) ∧ (b2 = true → (0 ≤ v3 ∧ v3 < a2n) ∧ (0 ≤ a3 ∧ a3 < a2n) ∧ (¬ (J a2 v3.toNat) = (J a2 a3.toNat) → ir (v3 + 1) ∧ ∀ y8, y8 = v3 + 1 → ZZ y8) ∧ ((J a2 v3.toNat) = (J a2 a3.toNat) → post' false))))) → ZZ v3) → ZZ v3
theorem vw_X9_isFree_2 {J : mJ} {a1 : Nat} {a1n : Nat} {a2 : Nat} {a2n : Nat} {a3 : Int} (hJ : irm J) (ia3 : ir a3) {post : Bool → Prop} {post' : Bool → Prop} (hp : ∀ (r : Bool), post' r → post r) {xv3 : Int32} {v3 : Int} (ev3 : xv3 = zi v3) (iv3 : ir v3) (hv : v_X9_isFree_2 J a1 a1n a2 a2n a3 post' v3) : w_X9_isFree_2 (zz J) a1 a1n a2 a2n (zi a3) post xv3 := by
  subst ev3
  unfold v_X9_isFree_2 at hv
  unfold w_X9_isFree_2
  intro ZZ hZ
  refine hv (fun v3 => ∀ (xv3 : Int32), xv3 = zi v3 → ir v3 → ZZ xv3) ?_ _ rfl iv3
  clear hv iv3
  intro v3 hv xv3 ev3 iv3
  subst ev3
  refine hZ _ ?_
  refine ⟨fun cq => ?_, fun cq => ?_⟩
  · have hv := hv.1 ((zle (rfl : zi a3 = zi a3) (rfl : zi v3 = zi v3) ia3 iv3).mp cq)
    exact hp _ hv
  · have hv := hv.2 (fun q => cq ((zle (rfl : zi a3 = zi a3) (rfl : zi v3 = zi v3) ia3 iv3).mpr q))
    obtain ⟨g1, hv⟩ := hv
    refine ⟨zvp (rfl : zi a3 = zi a3) ia3 g1.1 g1.2, ?_⟩
    refine vw_X11_has (zrd (rfl : zi a3 = zi a3) ia3 g1.1) (hJ _ _) (rfl : zi v3 = zi v3) iv3 (fun b2  hv => ?_) hv
    refine ⟨fun cq => ?_, fun cq => ?_⟩
    · have hv := hv.1 cq
      obtain ⟨g3, hv⟩ := hv
      intro xy4 exy4
      obtain ⟨y4, eyy4⟩ : ∃ q9 : Int, q9 = v3 + 1 := ⟨_, rfl⟩
      have hv := hv y4 eyy4
      have Ey4 : xy4 = zi y4 := exy4.trans (((za (rfl : zi v3 = zi v3) (by decide : (1 : Int32) = zi 1))).trans (congrArg zi eyy4.symm))
      have Iy4 : ir y4 := by rw [eyy4]; exact g3
      clear exy4
      exact hv _ Ey4 Iy4
    · have hv := hv.2 cq
      obtain ⟨g5, hv⟩ := hv
      refine ⟨zvp (rfl : zi v3 = zi v3) iv3 g5.1 g5.2, ?_⟩
      obtain ⟨g6, hv⟩ := hv
      refine ⟨zvp (rfl : zi a3 = zi a3) ia3 g6.1 g6.2, ?_⟩
      refine ⟨fun cq => ?_, fun cq => ?_⟩
      · have hv := hv.1 (fun q => cq ((zeq (zrd (rfl : zi v3 = zi v3) iv3 g5.1) (zrd (rfl : zi a3 = zi a3) ia3 g6.1) (hJ _ _) (hJ _ _)).mpr q))
        obtain ⟨g7, hv⟩ := hv
        intro xy8 exy8
        obtain ⟨y8, eyy8⟩ : ∃ q9 : Int, q9 = v3 + 1 := ⟨_, rfl⟩
        have hv := hv y8 eyy8
        have Ey8 : xy8 = zi y8 := exy8.trans (((za (rfl : zi v3 = zi v3) (by decide : (1 : Int32) = zi 1))).trans (congrArg zi eyy8.symm))
        have Iy8 : ir y8 := by rw [eyy8]; exact g7
        clear exy8
        exact hv _ Ey8 Iy8
      · have hv := hv.2 ((zeq (zrd (rfl : zi v3 = zi v3) iv3 g5.1) (zrd (rfl : zi a3 = zi a3) ia3 g6.1) (hJ _ _) (hJ _ _)).mp cq)
        exact hp _ hv
def v_X9_isFree (J : mJ) (a1 : Nat) (a1n : Nat) (a2 : Nat) (a2n : Nat) (a3 : Int) (post' : Bool → Prop) : Prop := (v_X9_isFree_2 J a1 a1n a2 a2n a3 post') 0
theorem vw_X9_isFree {J : mJ} {a1 : Nat} {a1n : Nat} {a2 : Nat} {a2n : Nat} {xa3 : Int32} {a3 : Int} (hJ : irm J)      (ea3 : xa3 = zi a3) (ia3 : ir a3) {post : Bool → Prop} {post' : Bool → Prop} (hp : ∀ (r : Bool), post' r → post r) (hv : v_X9_isFree J a1 a1n a2 a2n a3 post') : w_X9_isFree (zz J) a1 a1n a2 a2n xa3 post := by
  subst ea3
  unfold v_X9_isFree at hv
  unfold w_X9_isFree
  exact vw_X9_isFree_2 hJ ia3 hp (by decide : (0 : Int32) = zi 0) (by decide : ir 0) hv
def v_X9_dress_26 (o : Nat) (a1 : Nat) (a1h : Nat) (post' : mJ → Prop) (J : mJ) (v2 : Int) : Prop := ∀ ZZ : (mJ → Int → Prop), (∀ (J : mJ) (v2 : Int), (v_X9_giveOut 7 J (o + 2) 6 (o + 1) 6 (J o 0) v2 0 (fun b4 J5 => (b4 = true → post' J5) ∧ (b4 = false → (v2 ≤ (J5 o 0) → post' J5) ∧ (¬ v2 ≤ (J5 o 0) → ir ((J5 o 0) + 1) ∧ ∀ J7, J7 = up2 J5 o 0 ((J5 o 0) + 1) → ZZ J7 v2)))) → ZZ J v2) → ZZ J v2
theorem vw_X9_dress_26 {o : Nat} {a1 : Nat} {a1h : Nat}   {post : mI → Prop} {post' : mJ → Prop} (hp : ∀ (J1 : mJ), irm J1 → post' J1 → post (zz J1)) {J : mJ} {xv2 : Int32} {v2 : Int} (hJ : irm J) (ev2 : xv2 = zi v2) (iv2 : ir v2) (hv : v_X9_dress_26 o a1 a1h post' J v2) : w_X9_dress_26 o a1 a1h post (zz J) xv2 := by
  subst ev2
  unfold v_X9_dress_26 at hv
  unfold w_X9_dress_26
  intro ZZ hZ
  refine hv (fun J v2 => ∀ (xv2 : Int32), irm J → xv2 = zi v2 → ir v2 → ZZ (zz J) xv2) ?_ _ hJ rfl iv2
  clear hv hJ iv2
  intro J v2 hv xv2 hJ ev2 iv2
  subst ev2
  refine hZ _ _ ?_
  refine vw_X9_giveOut 7 hJ zrf (hJ _ _) (rfl : zi v2 = zi v2) iv2 (by decide : (0 : Int32) = zi 0) (by decide : ir 0) (fun b4 J5 hJ hv => ?_) hv
  refine ⟨fun cq => ?_, fun cq => ?_⟩
  · have hv := hv.1 cq
    exact hp _ hJ hv
  · have hv := hv.2 cq
    refine ⟨fun cq => ?_, fun cq => ?_⟩
    · have hv := hv.1 ((zle (rfl : zi v2 = zi v2) zrf iv2 (hJ _ _)).mp cq)
      exact hp _ hJ hv
    · have hv := hv.2 (fun q => cq ((zle (rfl : zi v2 = zi v2) zrf iv2 (hJ _ _)).mpr q))
      obtain ⟨g6, hv⟩ := hv
      intro I1 eI1
      obtain ⟨J7, eJ7⟩ : ∃ q9 : mJ, q9 = up2 J5 o 0 ((J5 o 0) + 1) := ⟨_, rfl⟩
      have eI1 : I1 = zz J7 := by rw [eI1, eJ7]; exact zup (za zrf (by decide : (1 : Int32) = zi 1))
      subst eI1
      have hv := hv J7 eJ7
      have hJ : irm J7 := by rw [eJ7]; exact irm_up hJ g6
      exact hv _ hJ (rfl : zi v2 = zi v2) iv2
def v_X9_dress_23 (o : Nat) (a1 : Nat) (a1h : Nat) (post' : mJ → Prop) (J : mJ) (v2 : Int) (s1 : Int) : Prop := ∀ J3, J3 = up2 J o 0 s1 → (v_X9_dress_26 o a1 a1h post') J3 v2
theorem vw_X9_dress_23 {o : Nat} {a1 : Nat} {a1h : Nat}   {post : mI → Prop} {post' : mJ → Prop} (hp : ∀ (J1 : mJ), irm J1 → post' J1 → post (zz J1)) {J : mJ} {xv2 : Int32} {v2 : Int} {xs1 : Int32} {s1 : Int} (hJ : irm J) (ev2 : xv2 = zi v2) (iv2 : ir v2) (es1 : xs1 = zi s1) (is1 : ir s1) (hv : v_X9_dress_23 o a1 a1h post' J v2 s1) : w_X9_dress_23 o a1 a1h post (zz J) xv2 xs1 := by
  subst ev2
  subst es1
  unfold v_X9_dress_23 at hv
  unfold w_X9_dress_23
  intro I1 eI1
  obtain ⟨J3, eJ3⟩ : ∃ q9 : mJ, q9 = up2 J o 0 s1 := ⟨_, rfl⟩
  have eI1 : I1 = zz J3 := by rw [eI1, eJ3]; exact zup (rfl : zi s1 = zi s1)
  subst eI1
  have hv := hv J3 eJ3
  have hJ : irm J3 := by rw [eJ3]; exact irm_up hJ is1
  exact vw_X9_dress_26  hp hJ (rfl : zi v2 = zi v2) iv2 hv
def v_X9_dress (J : mJ) (o : Nat) (a1 : Nat) (a1h : Nat) (post' : mJ → Prop) : Prop := v_X9_findMixed J o a1 a1h (fun J1 => ∀ y2, y2 = (J1 a1h 3) → (¬ y2 = 0 → (v_X9_dress_23 o a1 a1h post') J1 y2 1) ∧ (y2 = 0 → (v_X9_dress_23 o a1 a1h post') J1 y2 0))
theorem vw_X9_dress {J : mJ} {o : Nat} {a1 : Nat} {a1h : Nat} (hJ : irm J)     {post : mI → Prop} {post' : mJ → Prop} (hp : ∀ (J1 : mJ), irm J1 → post' J1 → post (zz J1)) (hv : v_X9_dress J o a1 a1h post') : w_X9_dress (zz J) o a1 a1h post := by
  unfold v_X9_dress at hv
  unfold w_X9_dress
  refine vw_X9_findMixed hJ  (fun J1 hJ hv => ?_) hv
  intro xy2 exy2
  obtain ⟨y2, eyy2⟩ : ∃ q9 : Int, q9 = (J1 a1h 3) := ⟨_, rfl⟩
  have hv := hv y2 eyy2
  have Ey2 : xy2 = zi y2 := exy2.trans ((zrf).trans (congrArg zi eyy2.symm))
  have Iy2 : ir y2 := by rw [eyy2]; exact (hJ _ _)
  clear exy2
  refine ⟨fun cq => ?_, fun cq => ?_⟩
  · have hv := hv.1 (fun q => cq ((zeq Ey2 (by decide : (0 : Int32) = zi 0) Iy2 (by decide : ir 0)).mpr q))
    exact vw_X9_dress_23  hp hJ Ey2 Iy2 (by decide : (1 : Int32) = zi 1) (by decide : ir 1) hv
  · have hv := hv.2 ((zeq Ey2 (by decide : (0 : Int32) = zi 0) Iy2 (by decide : ir 0)).mp cq)
    exact vw_X9_dress_23  hp hJ Ey2 Iy2 (by decide : (0 : Int32) = zi 0) (by decide : ir 0) hv
def v_X10_echoFits_10 (J : mJ) (a1 : Nat) (a2 : Int) (a3 : Int) (a4 : Int) (post' : Bool → Prop) (v4 : Int) : Prop := ∀ ZZ : (Int → Prop), (∀ (v4 : Int), (((J a1 3) ≤ v4 → post' false) ∧ (¬ (J a1 3) ≤ v4 → (0 ≤ v4 ∧ v4 < 6) ∧ (¬ (J (a1 + 4) v4.toNat) = a4 → ir (v4 + 1) ∧ ∀ y3, y3 = v4 + 1 → ZZ y3) ∧ ((J (a1 + 4) v4.toNat) = a4 → v_X3_loudOf J a1 v4 a3 a4 (fun r4 => v_X3_hears J a1 a2 a3 (divZ r4 2) (fun b5 => (b5 = false → ir (v4 + 1) ∧ ∀ y7, y7 = v4 + 1 → ZZ y7) ∧ (b5 = true → post' true)))))) → ZZ v4) → ZZ v4
theorem vw_X10_echoFits_10 {J : mJ} {a1 : Nat} {a2 : Int} {a3 : Int} {a4 : Int} (hJ : irm J) (ia2 : ir a2) (ia3 : ir a3) (ia4 : ir a4) {post : Bool → Prop} {post' : Bool → Prop} (hp : ∀ (r : Bool), post' r → post r) {xv4 : Int32} {v4 : Int} (ev4 : xv4 = zi v4) (iv4 : ir v4) (hv : v_X10_echoFits_10 J a1 a2 a3 a4 post' v4) : w_X10_echoFits_10 (zz J) a1 (zi a2) (zi a3) (zi a4) post xv4 := by
  subst ev4
  unfold v_X10_echoFits_10 at hv
  unfold w_X10_echoFits_10
  intro ZZ hZ
  refine hv (fun v4 => ∀ (xv4 : Int32), xv4 = zi v4 → ir v4 → ZZ xv4) ?_ _ rfl iv4
  clear hv iv4
  intro v4 hv xv4 ev4 iv4
  subst ev4
  refine hZ _ ?_
  refine ⟨fun cq => ?_, fun cq => ?_⟩
  · have hv := hv.1 ((zle zrf (rfl : zi v4 = zi v4) (hJ _ _) iv4).mp cq)
    exact hp _ hv
  · have hv := hv.2 (fun q => cq ((zle zrf (rfl : zi v4 = zi v4) (hJ _ _) iv4).mpr q))
    obtain ⟨g1, hv⟩ := hv
    refine ⟨zvp (rfl : zi v4 = zi v4) iv4 g1.1 g1.2, ?_⟩
    refine ⟨fun cq => ?_, fun cq => ?_⟩
    · have hv := hv.1 (fun q => cq ((zeq (zrd (rfl : zi v4 = zi v4) iv4 g1.1) (rfl : zi a4 = zi a4) (hJ _ _) ia4).mpr q))
      obtain ⟨g2, hv⟩ := hv
      intro xy3 exy3
      obtain ⟨y3, eyy3⟩ : ∃ q9 : Int, q9 = v4 + 1 := ⟨_, rfl⟩
      have hv := hv y3 eyy3
      have Ey3 : xy3 = zi y3 := exy3.trans (((za (rfl : zi v4 = zi v4) (by decide : (1 : Int32) = zi 1))).trans (congrArg zi eyy3.symm))
      have Iy3 : ir y3 := by rw [eyy3]; exact g2
      clear exy3
      exact hv _ Ey3 Iy3
    · have hv := hv.2 ((zeq (zrd (rfl : zi v4 = zi v4) iv4 g1.1) (rfl : zi a4 = zi a4) (hJ _ _) ia4).mp cq)
      refine vw_X3_loudOf hJ (rfl : zi v4 = zi v4) iv4 (rfl : zi a3 = zi a3) ia3 (rfl : zi a4 = zi a4) ia4 (fun xr4 r4 Er4 Ir4 hv => ?_) hv
      refine vw_X3_hears hJ (rfl : zi a2 = zi a2) ia2 (rfl : zi a3 = zi a3) ia3 (z_div Er4 (by decide : (2 : Int32) = zi 2)) (ir_toInt _) (fun b5  hv => ?_) hv
      refine ⟨fun cq => ?_, fun cq => ?_⟩
      · have hv := hv.1 cq
        obtain ⟨g6, hv⟩ := hv
        intro xy7 exy7
        obtain ⟨y7, eyy7⟩ : ∃ q9 : Int, q9 = v4 + 1 := ⟨_, rfl⟩
        have hv := hv y7 eyy7
        have Ey7 : xy7 = zi y7 := exy7.trans (((za (rfl : zi v4 = zi v4) (by decide : (1 : Int32) = zi 1))).trans (congrArg zi eyy7.symm))
        have Iy7 : ir y7 := by rw [eyy7]; exact g6
        clear exy7
        exact hv _ Ey7 Iy7
      · have hv := hv.2 cq
        exact hp _ hv
def v_X10_echoFits (J : mJ) (a1 : Nat) (a2 : Int) (a3 : Int) (a4 : Int) (post' : Bool → Prop) : Prop := (¬ a4 = (-1) → (v_X10_echoFits_10 J a1 a2 a3 a4 post') 0) ∧ (a4 = (-1) → post' true)
theorem vw_X10_echoFits {J : mJ} {a1 : Nat} {xa2 : Int32} {a2 : Int} {xa3 : Int32} {a3 : Int} {xa4 : Int32} {a4 : Int} (hJ : irm J)   (ea2 : xa2 = zi a2) (ia2 : ir a2) (ea3 : xa3 = zi a3) (ia3 : ir a3) (ea4 : xa4 = zi a4) (ia4 : ir a4) {post : Bool → Prop} {post' : Bool → Prop} (hp : ∀ (r : Bool), post' r → post r) (hv : v_X10_echoFits J a1 a2 a3 a4 post') : w_X10_echoFits (zz J) a1 xa2 xa3 xa4 post := by
  subst ea2
  subst ea3
  subst ea4
  unfold v_X10_echoFits at hv
  unfold w_X10_echoFits
  refine ⟨fun cq => ?_, fun cq => ?_⟩
  · have hv := hv.1 (fun q => cq ((zeq (rfl : zi a4 = zi a4) (by decide : ((-1) : Int32) = zi (-1)) ia4 (by decide : ir (-1))).mpr q))
    exact vw_X10_echoFits_10 hJ ia2 ia3 ia4 hp (by decide : (0 : Int32) = zi 0) (by decide : ir 0) hv
  · have hv := hv.2 ((zeq (rfl : zi a4 = zi a4) (by decide : ((-1) : Int32) = zi (-1)) ia4 (by decide : ir (-1))).mp cq)
    exact hp _ hv
def v_X10_stepsOf_45 (J : mJ) (a1 : Nat) (a2 : Nat) (a3 : Int) (a4 : Int) (post' : Int → Prop) (v4 : Int) (v5 : Int) (v6 : Int) : Prop := ∀ ZZ : (Int → Int → Int → Prop), (∀ (v4 : Int) (v5 : Int) (v6 : Int), (((J a1 0) ≤ v6 → post' v5) ∧ (¬ (J a1 0) ≤ v6 → (0 ≤ a3 ∧ a3 < 10) ∧ v_X3_loudOf J a1 a4 v6 (J (a2 + 3) a3.toNat) (fun r8 => v_X3_hears J a1 v4 v6 r8 (fun b9 => (b9 = false → ir (v6 + 1) ∧ ∀ y11, y11 = v6 + 1 → ZZ v4 v5 y11) ∧ (b9 = true → (0 ≤ a3 ∧ a3 < 10) ∧ v_X10_echoFits J a1 v4 v6 (J (a2 + 4) a3.toNat) (fun b13 => (b13 = false → ir (v6 + 1) ∧ ∀ y15, y15 = v6 + 1 → ZZ v4 v5 y15) ∧ (b13 = true → ∀ y16, y16 = (orZ v5 (shlZ 1 v6)) → ir (v6 + 1) ∧ ∀ y18, y18 = v6 + 1 → ZZ v4 y16 y18))))))) → ZZ v4 v5 v6) → ZZ v4 v5 v6
theorem vw_X10_stepsOf_45 {J : mJ} {a1 : Nat} {a2 : Nat} {a3 : Int} {a4 : Int} (hJ : irm J) (ia3 : ir a3) (ia4 : ir a4) {post : Int32 → Prop} {post' : Int → Prop} (hp : ∀ (x : Int32) (r : Int), x = zi r → ir r → post' r → post x) {xv4 : Int32} {v4 : Int} {xv5 : Int32} {v5 : Int} {xv6 : Int32} {v6 : Int} (ev4 : xv4 = zi v4) (iv4 : ir v4) (ev5 : xv5 = zi v5) (iv5 : ir v5) (ev6 : xv6 = zi v6) (iv6 : ir v6) (hv : v_X10_stepsOf_45 J a1 a2 a3 a4 post' v4 v5 v6) : w_X10_stepsOf_45 (zz J) a1 a2 (zi a3) (zi a4) post xv4 xv5 xv6 := by
  subst ev4
  subst ev5
  subst ev6
  unfold v_X10_stepsOf_45 at hv
  unfold w_X10_stepsOf_45
  intro ZZ hZ
  refine hv (fun v4 v5 v6 => ∀ (xv4 : Int32) (xv5 : Int32) (xv6 : Int32), xv4 = zi v4 → ir v4 → xv5 = zi v5 → ir v5 → xv6 = zi v6 → ir v6 → ZZ xv4 xv5 xv6) ?_ _ _ _ rfl iv4 rfl iv5 rfl iv6
  clear hv iv4 iv5 iv6
  intro v4 v5 v6 hv xv4 xv5 xv6 ev4 iv4 ev5 iv5 ev6 iv6
  subst ev4
  subst ev5
  subst ev6
  refine hZ _ _ _ ?_
  refine ⟨fun cq => ?_, fun cq => ?_⟩
  · have hv := hv.1 ((zle zrf (rfl : zi v6 = zi v6) (hJ _ _) iv6).mp cq)
    exact hp _ _ (rfl : zi v5 = zi v5) iv5 hv
  · have hv := hv.2 (fun q => cq ((zle zrf (rfl : zi v6 = zi v6) (hJ _ _) iv6).mpr q))
    obtain ⟨g7, hv⟩ := hv
    refine ⟨zvp (rfl : zi a3 = zi a3) ia3 g7.1 g7.2, ?_⟩
    refine vw_X3_loudOf hJ (rfl : zi a4 = zi a4) ia4 (rfl : zi v6 = zi v6) iv6 (zrd (rfl : zi a3 = zi a3) ia3 g7.1) (hJ _ _) (fun xr8 r8 Er8 Ir8 hv => ?_) hv
    refine vw_X3_hears hJ (rfl : zi v4 = zi v4) iv4 (rfl : zi v6 = zi v6) iv6 Er8 Ir8 (fun b9  hv => ?_) hv
    refine ⟨fun cq => ?_, fun cq => ?_⟩
    · have hv := hv.1 cq
      obtain ⟨g10, hv⟩ := hv
      intro xy11 exy11
      obtain ⟨y11, eyy11⟩ : ∃ q9 : Int, q9 = v6 + 1 := ⟨_, rfl⟩
      have hv := hv y11 eyy11
      have Ey11 : xy11 = zi y11 := exy11.trans (((za (rfl : zi v6 = zi v6) (by decide : (1 : Int32) = zi 1))).trans (congrArg zi eyy11.symm))
      have Iy11 : ir y11 := by rw [eyy11]; exact g10
      clear exy11
      exact hv _ _ _ (rfl : zi v4 = zi v4) iv4 (rfl : zi v5 = zi v5) iv5 Ey11 Iy11
    · have hv := hv.2 cq
      obtain ⟨g12, hv⟩ := hv
      refine ⟨zvp (rfl : zi a3 = zi a3) ia3 g12.1 g12.2, ?_⟩
      refine vw_X10_echoFits hJ (rfl : zi v4 = zi v4) iv4 (rfl : zi v6 = zi v6) iv6 (zrd (rfl : zi a3 = zi a3) ia3 g12.1) (hJ _ _) (fun b13  hv => ?_) hv
      refine ⟨fun cq => ?_, fun cq => ?_⟩
      · have hv := hv.1 cq
        obtain ⟨g14, hv⟩ := hv
        intro xy15 exy15
        obtain ⟨y15, eyy15⟩ : ∃ q9 : Int, q9 = v6 + 1 := ⟨_, rfl⟩
        have hv := hv y15 eyy15
        have Ey15 : xy15 = zi y15 := exy15.trans (((za (rfl : zi v6 = zi v6) (by decide : (1 : Int32) = zi 1))).trans (congrArg zi eyy15.symm))
        have Iy15 : ir y15 := by rw [eyy15]; exact g14
        clear exy15
        exact hv _ _ _ (rfl : zi v4 = zi v4) iv4 (rfl : zi v5 = zi v5) iv5 Ey15 Iy15
      · have hv := hv.2 cq
        intro xy16 exy16
        obtain ⟨y16, eyy16⟩ : ∃ q9 : Int, q9 = (orZ v5 (shlZ 1 v6)) := ⟨_, rfl⟩
        have hv := hv y16 eyy16
        have Ey16 : xy16 = zi y16 := exy16.trans (((z_or (rfl : zi v5 = zi v5) (z_shl (by decide : (1 : Int32) = zi 1) (rfl : zi v6 = zi v6)))).trans (congrArg zi eyy16.symm))
        have Iy16 : ir y16 := by rw [eyy16]; exact (ir_toInt _)
        clear exy16
        obtain ⟨g17, hv⟩ := hv
        intro xy18 exy18
        obtain ⟨y18, eyy18⟩ : ∃ q9 : Int, q9 = v6 + 1 := ⟨_, rfl⟩
        have hv := hv y18 eyy18
        have Ey18 : xy18 = zi y18 := exy18.trans (((za (rfl : zi v6 = zi v6) (by decide : (1 : Int32) = zi 1))).trans (congrArg zi eyy18.symm))
        have Iy18 : ir y18 := by rw [eyy18]; exact g17
        clear exy18
        exact hv _ _ _ (rfl : zi v4 = zi v4) iv4 Ey16 Iy16 Ey18 Iy18
def v_X10_stepsOf (J : mJ) (a1 : Nat) (a2 : Nat) (a3 : Int) (a4 : Int) (post' : Int → Prop) : Prop := (0 ≤ a3 ∧ a3 < 10) ∧ ∀ y2, y2 = (J (a2 + 1) a3.toNat) → v_X3_hasFlat J a1 y2 (fun b3 => (b3 = false → post' 0) ∧ (b3 = true → (0 ≤ a3 ∧ a3 < 10) ∧ v_X3_shoeAt J a1 a4 (J (a2 + 2) a3.toNat) (fun r5 => (0 ≤ a3 ∧ a3 < 10) ∧ (r5 = (J (a2 + 3) a3.toNat) → (v_X10_stepsOf_45 J a1 a2 a3 a4 post') y2 0 0) ∧ (¬ r5 = (J (a2 + 3) a3.toNat) → post' 0))))
theorem vw_X10_stepsOf {J : mJ} {a1 : Nat} {a2 : Nat} {xa3 : Int32} {a3 : Int} {xa4 : Int32} {a4 : Int} (hJ : irm J)    (ea3 : xa3 = zi a3) (ia3 : ir a3) (ea4 : xa4 = zi a4) (ia4 : ir a4) {post : Int32 → Prop} {post' : Int → Prop} (hp : ∀ (x : Int32) (r : Int), x = zi r → ir r → post' r → post x) (hv : v_X10_stepsOf J a1 a2 a3 a4 post') : w_X10_stepsOf (zz J) a1 a2 xa3 xa4 post := by
  subst ea3
  subst ea4
  unfold v_X10_stepsOf at hv
  unfold w_X10_stepsOf
  obtain ⟨g1, hv⟩ := hv
  refine ⟨zvp (rfl : zi a3 = zi a3) ia3 g1.1 g1.2, ?_⟩
  intro xy2 exy2
  obtain ⟨y2, eyy2⟩ : ∃ q9 : Int, q9 = (J (a2 + 1) a3.toNat) := ⟨_, rfl⟩
  have hv := hv y2 eyy2
  have Ey2 : xy2 = zi y2 := exy2.trans (((zrd (rfl : zi a3 = zi a3) ia3 g1.1)).trans (congrArg zi eyy2.symm))
  have Iy2 : ir y2 := by rw [eyy2]; exact (hJ _ _)
  clear exy2
  refine vw_X3_hasFlat hJ Ey2 Iy2 (fun b3  hv => ?_) hv
  refine ⟨fun cq => ?_, fun cq => ?_⟩
  · have hv := hv.1 cq
    exact hp _ _ (by decide : (0 : Int32) = zi 0) (by decide : ir 0) hv
  · have hv := hv.2 cq
    obtain ⟨g4, hv⟩ := hv
    refine ⟨zvp (rfl : zi a3 = zi a3) ia3 g4.1 g4.2, ?_⟩
    refine vw_X3_shoeAt hJ (rfl : zi a4 = zi a4) ia4 (zrd (rfl : zi a3 = zi a3) ia3 g4.1) (hJ _ _) (fun xr5 r5 Er5 Ir5 hv => ?_) hv
    obtain ⟨g6, hv⟩ := hv
    refine ⟨zvp (rfl : zi a3 = zi a3) ia3 g6.1 g6.2, ?_⟩
    refine ⟨fun cq => ?_, fun cq => ?_⟩
    · have hv := hv.1 ((zeq Er5 (zrd (rfl : zi a3 = zi a3) ia3 g6.1) Ir5 (hJ _ _)).mp cq)
      exact vw_X10_stepsOf_45 hJ ia3 ia4 hp Ey2 Iy2 (by decide : (0 : Int32) = zi 0) (by decide : ir 0) (by decide : (0 : Int32) = zi 0) (by decide : ir 0) hv
    · have hv := hv.2 (fun q => cq ((zeq Er5 (zrd (rfl : zi a3 = zi a3) ia3 g6.1) Ir5 (hJ _ _)).mpr q))
      exact hp _ _ (by decide : (0 : Int32) = zi 0) (by decide : ir 0) hv
def v_X10_makersOf_5 (J : mJ) (a1 : Nat) (a2 : Nat) (a3 : Int) (post' : Int → Prop) (v3 : Int) (v4 : Int) : Prop := ∀ ZZ : (Int → Int → Prop), (∀ (v3 : Int) (v4 : Int), (((J a1 3) ≤ v4 → post' v3) ∧ (¬ (J a1 3) ≤ v4 → v_X10_stepsOf J a1 a2 a3 v4 (fun r1 => (r1 = 0 → ir (v4 + 1) ∧ ∀ y3, y3 = v4 + 1 → ZZ v3 y3) ∧ (¬ r1 = 0 → ∀ y4, y4 = (orZ v3 (shlZ 1 v4)) → ir (v4 + 1) ∧ ∀ y6, y6 = v4 + 1 → ZZ y4 y6)))) → ZZ v3 v4) → ZZ v3 v4
theorem vw_X10_makersOf_5 {J : mJ} {a1 : Nat} {a2 : Nat} {a3 : Int} (hJ : irm J) (ia3 : ir a3) {post : Int32 → Prop} {post' : Int → Prop} (hp : ∀ (x : Int32) (r : Int), x = zi r → ir r → post' r → post x) {xv3 : Int32} {v3 : Int} {xv4 : Int32} {v4 : Int} (ev3 : xv3 = zi v3) (iv3 : ir v3) (ev4 : xv4 = zi v4) (iv4 : ir v4) (hv : v_X10_makersOf_5 J a1 a2 a3 post' v3 v4) : w_X10_makersOf_5 (zz J) a1 a2 (zi a3) post xv3 xv4 := by
  subst ev3
  subst ev4
  unfold v_X10_makersOf_5 at hv
  unfold w_X10_makersOf_5
  intro ZZ hZ
  refine hv (fun v3 v4 => ∀ (xv3 : Int32) (xv4 : Int32), xv3 = zi v3 → ir v3 → xv4 = zi v4 → ir v4 → ZZ xv3 xv4) ?_ _ _ rfl iv3 rfl iv4
  clear hv iv3 iv4
  intro v3 v4 hv xv3 xv4 ev3 iv3 ev4 iv4
  subst ev3
  subst ev4
  refine hZ _ _ ?_
  refine ⟨fun cq => ?_, fun cq => ?_⟩
  · have hv := hv.1 ((zle zrf (rfl : zi v4 = zi v4) (hJ _ _) iv4).mp cq)
    exact hp _ _ (rfl : zi v3 = zi v3) iv3 hv
  · have hv := hv.2 (fun q => cq ((zle zrf (rfl : zi v4 = zi v4) (hJ _ _) iv4).mpr q))
    refine vw_X10_stepsOf hJ (rfl : zi a3 = zi a3) ia3 (rfl : zi v4 = zi v4) iv4 (fun xr1 r1 Er1 Ir1 hv => ?_) hv
    refine ⟨fun cq => ?_, fun cq => ?_⟩
    · have hv := hv.1 ((zeq Er1 (by decide : (0 : Int32) = zi 0) Ir1 (by decide : ir 0)).mp cq)
      obtain ⟨g2, hv⟩ := hv
      intro xy3 exy3
      obtain ⟨y3, eyy3⟩ : ∃ q9 : Int, q9 = v4 + 1 := ⟨_, rfl⟩
      have hv := hv y3 eyy3
      have Ey3 : xy3 = zi y3 := exy3.trans (((za (rfl : zi v4 = zi v4) (by decide : (1 : Int32) = zi 1))).trans (congrArg zi eyy3.symm))
      have Iy3 : ir y3 := by rw [eyy3]; exact g2
      clear exy3
      exact hv _ _ (rfl : zi v3 = zi v3) iv3 Ey3 Iy3
    · have hv := hv.2 (fun q => cq ((zeq Er1 (by decide : (0 : Int32) = zi 0) Ir1 (by decide : ir 0)).mpr q))
      intro xy4 exy4
      obtain ⟨y4, eyy4⟩ : ∃ q9 : Int, q9 = (orZ v3 (shlZ 1 v4)) := ⟨_, rfl⟩
      have hv := hv y4 eyy4
      have Ey4 : xy4 = zi y4 := exy4.trans (((z_or (rfl : zi v3 = zi v3) (z_shl (by decide : (1 : Int32) = zi 1) (rfl : zi v4 = zi v4)))).trans (congrArg zi eyy4.symm))
      have Iy4 : ir y4 := by rw [eyy4]; exact (ir_toInt _)
      clear exy4
      obtain ⟨g5, hv⟩ := hv
      intro xy6 exy6
      obtain ⟨y6, eyy6⟩ : ∃ q9 : Int, q9 = v4 + 1 := ⟨_, rfl⟩
      have hv := hv y6 eyy6
      have Ey6 : xy6 = zi y6 := exy6.trans (((za (rfl : zi v4 = zi v4) (by decide : (1 : Int32) = zi 1))).trans (congrArg zi eyy6.symm))
      have Iy6 : ir y6 := by rw [eyy6]; exact g5
      clear exy6
      exact hv _ _ Ey4 Iy4 Ey6 Iy6
def v_X10_makersOf (J : mJ) (a1 : Nat) (a2 : Nat) (a3 : Int) (post' : Int → Prop) : Prop := (v_X10_makersOf_5 J a1 a2 a3 post') 0 0
theorem vw_X10_makersOf {J : mJ} {a1 : Nat} {a2 : Nat} {xa3 : Int32} {a3 : Int} (hJ : irm J)    (ea3 : xa3 = zi a3) (ia3 : ir a3) {post : Int32 → Prop} {post' : Int → Prop} (hp : ∀ (x : Int32) (r : Int), x = zi r → ir r → post' r → post x) (hv : v_X10_makersOf J a1 a2 a3 post') : w_X10_makersOf (zz J) a1 a2 xa3 post := by
  subst ea3
  unfold v_X10_makersOf at hv
  unfold w_X10_makersOf
  exact vw_X10_makersOf_5 hJ ia3 hp (by decide : (0 : Int32) = zi 0) (by decide : ir 0) (by decide : (0 : Int32) = zi 0) (by decide : ir 0) hv
def v_X10_liesOf_4 (J : mJ) (a1 : Nat) (a2 : Nat) (post' : Int → Prop) (v2 : Int) (v3 : Int) : Prop := ∀ ZZ : (Int → Int → Prop), (∀ (v2 : Int) (v3 : Int), (((J a2 0) ≤ v3 → post' v2) ∧ (¬ (J a2 0) ≤ v3 → v_X10_makersOf J a1 a2 v3 (fun r1 => (¬ r1 = 0 → ir (v3 + 1) ∧ ∀ y3, y3 = v3 + 1 → ZZ v2 y3) ∧ (r1 = 0 → ∀ y4, y4 = (orZ v2 (shlZ 1 v3)) → ir (v3 + 1) ∧ ∀ y6, y6 = v3 + 1 → ZZ y4 y6)))) → ZZ v2 v3) → ZZ v2 v3
theorem vw_X10_liesOf_4 {J : mJ} {a1 : Nat} {a2 : Nat} (hJ : irm J)  {post : Int32 → Prop} {post' : Int → Prop} (hp : ∀ (x : Int32) (r : Int), x = zi r → ir r → post' r → post x) {xv2 : Int32} {v2 : Int} {xv3 : Int32} {v3 : Int} (ev2 : xv2 = zi v2) (iv2 : ir v2) (ev3 : xv3 = zi v3) (iv3 : ir v3) (hv : v_X10_liesOf_4 J a1 a2 post' v2 v3) : w_X10_liesOf_4 (zz J) a1 a2 post xv2 xv3 := by
  subst ev2
  subst ev3
  unfold v_X10_liesOf_4 at hv
  unfold w_X10_liesOf_4
  intro ZZ hZ
  refine hv (fun v2 v3 => ∀ (xv2 : Int32) (xv3 : Int32), xv2 = zi v2 → ir v2 → xv3 = zi v3 → ir v3 → ZZ xv2 xv3) ?_ _ _ rfl iv2 rfl iv3
  clear hv iv2 iv3
  intro v2 v3 hv xv2 xv3 ev2 iv2 ev3 iv3
  subst ev2
  subst ev3
  refine hZ _ _ ?_
  refine ⟨fun cq => ?_, fun cq => ?_⟩
  · have hv := hv.1 ((zle zrf (rfl : zi v3 = zi v3) (hJ _ _) iv3).mp cq)
    exact hp _ _ (rfl : zi v2 = zi v2) iv2 hv
  · have hv := hv.2 (fun q => cq ((zle zrf (rfl : zi v3 = zi v3) (hJ _ _) iv3).mpr q))
    refine vw_X10_makersOf hJ (rfl : zi v3 = zi v3) iv3 (fun xr1 r1 Er1 Ir1 hv => ?_) hv
    refine ⟨fun cq => ?_, fun cq => ?_⟩
    · have hv := hv.1 (fun q => cq ((zeq Er1 (by decide : (0 : Int32) = zi 0) Ir1 (by decide : ir 0)).mpr q))
      obtain ⟨g2, hv⟩ := hv
      intro xy3 exy3
      obtain ⟨y3, eyy3⟩ : ∃ q9 : Int, q9 = v3 + 1 := ⟨_, rfl⟩
      have hv := hv y3 eyy3
      have Ey3 : xy3 = zi y3 := exy3.trans (((za (rfl : zi v3 = zi v3) (by decide : (1 : Int32) = zi 1))).trans (congrArg zi eyy3.symm))
      have Iy3 : ir y3 := by rw [eyy3]; exact g2
      clear exy3
      exact hv _ _ (rfl : zi v2 = zi v2) iv2 Ey3 Iy3
    · have hv := hv.2 ((zeq Er1 (by decide : (0 : Int32) = zi 0) Ir1 (by decide : ir 0)).mp cq)
      intro xy4 exy4
      obtain ⟨y4, eyy4⟩ : ∃ q9 : Int, q9 = (orZ v2 (shlZ 1 v3)) := ⟨_, rfl⟩
      have hv := hv y4 eyy4
      have Ey4 : xy4 = zi y4 := exy4.trans (((z_or (rfl : zi v2 = zi v2) (z_shl (by decide : (1 : Int32) = zi 1) (rfl : zi v3 = zi v3)))).trans (congrArg zi eyy4.symm))
      have Iy4 : ir y4 := by rw [eyy4]; exact (ir_toInt _)
      clear exy4
      obtain ⟨g5, hv⟩ := hv
      intro xy6 exy6
      obtain ⟨y6, eyy6⟩ : ∃ q9 : Int, q9 = v3 + 1 := ⟨_, rfl⟩
      have hv := hv y6 eyy6
      have Ey6 : xy6 = zi y6 := exy6.trans (((za (rfl : zi v3 = zi v3) (by decide : (1 : Int32) = zi 1))).trans (congrArg zi eyy6.symm))
      have Iy6 : ir y6 := by rw [eyy6]; exact g5
      clear exy6
      exact hv _ _ Ey4 Iy4 Ey6 Iy6
def v_X10_liesOf (J : mJ) (a1 : Nat) (a2 : Nat) (post' : Int → Prop) : Prop := (v_X10_liesOf_4 J a1 a2 post') 0 0
theorem vw_X10_liesOf {J : mJ} {a1 : Nat} {a2 : Nat} (hJ : irm J)    {post : Int32 → Prop} {post' : Int → Prop} (hp : ∀ (x : Int32) (r : Int), x = zi r → ir r → post' r → post x) (hv : v_X10_liesOf J a1 a2 post') : w_X10_liesOf (zz J) a1 a2 post := by
  unfold v_X10_liesOf at hv
  unfold w_X10_liesOf
  exact vw_X10_liesOf_4 hJ  hp (by decide : (0 : Int32) = zi 0) (by decide : ir 0) (by decide : (0 : Int32) = zi 0) (by decide : ir 0) hv
def v_X10_insert_5 (o : Nat) (a1 : Nat) (a2 : Int) (post' : mJ → Prop) (k51' : mJ → Int → Prop) (J : mJ) (v3 : Int) : Prop := ∀ ZZ : (mJ → Int → Prop), (∀ (J : mJ) (v3 : Int), ((v3 ≤ 0 → k51' J v3) ∧ (¬ v3 ≤ 0 → ir (v3 - 1) ∧ (0 ≤ (v3 - 1) ∧ (v3 - 1) < 10) ∧ (0 ≤ (J (o + 1) (v3 - 1).toNat) ∧ (J (o + 1) (v3 - 1).toNat) < 10) ∧ (0 ≤ a2 ∧ a2 < 10) ∧ ((J (a1 + 2) (J (o + 1) (v3 - 1).toNat).toNat) ≤ (J (a1 + 2) a2.toNat) → k51' J v3) ∧ (¬ (J (a1 + 2) (J (o + 1) (v3 - 1).toNat).toNat) ≤ (J (a1 + 2) a2.toNat) → ir (v3 - 1) ∧ (0 ≤ (v3 - 1) ∧ (v3 - 1) < 10) ∧ (0 ≤ v3 ∧ v3 < 10) ∧ ∀ J9, J9 = up2 J (o + 1) v3.toNat (J (o + 1) (v3 - 1).toNat) → ir (v3 + (-1)) ∧ ∀ y11, y11 = v3 + (-1) → ZZ J9 y11))) → ZZ J v3) → ZZ J v3
theorem vw_X10_insert_5 {o : Nat} {a1 : Nat} {a2 : Int}  (ia2 : ir a2) {post : mI → Prop} {post' : mJ → Prop} {k51' : mJ → Int → Prop} {k51 : mI → Int32 → Prop} (hp : ∀ (J1 : mJ), irm J1 → post' J1 → post (zz J1)) (hk51 : ∀ (J : mJ) (xv3 : Int32) (v3 : Int), irm J → xv3 = zi v3 → ir v3 → k51' J v3 → k51 (zz J) xv3) {J : mJ} {xv3 : Int32} {v3 : Int} (hJ : irm J) (ev3 : xv3 = zi v3) (iv3 : ir v3) (hv : v_X10_insert_5 o a1 a2 post' k51' J v3) : w_X10_insert_5 o a1 (zi a2) post k51 (zz J) xv3 := by
  subst ev3
  unfold v_X10_insert_5 at hv
  unfold w_X10_insert_5
  intro ZZ hZ
  refine hv (fun J v3 => ∀ (xv3 : Int32), irm J → xv3 = zi v3 → ir v3 → ZZ (zz J) xv3) ?_ _ hJ rfl iv3
  clear hv hJ iv3
  intro J v3 hv xv3 hJ ev3 iv3
  subst ev3
  refine hZ _ _ ?_
  refine ⟨fun cq => ?_, fun cq => ?_⟩
  · have hv := hv.1 ((zle (rfl : zi v3 = zi v3) (by decide : (0 : Int32) = zi 0) iv3 (by decide : ir 0)).mp cq)
    exact hk51 _ _ _ hJ (rfl : zi v3 = zi v3) iv3 hv
  · have hv := hv.2 (fun q => cq ((zle (rfl : zi v3 = zi v3) (by decide : (0 : Int32) = zi 0) iv3 (by decide : ir 0)).mpr q))
    obtain ⟨g2, hv⟩ := hv
    obtain ⟨g3, hv⟩ := hv
    refine ⟨zvp (zs (rfl : zi v3 = zi v3) (by decide : (1 : Int32) = zi 1)) g2 g3.1 g3.2, ?_⟩
    obtain ⟨g4, hv⟩ := hv
    refine ⟨zvp (zrd (zs (rfl : zi v3 = zi v3) (by decide : (1 : Int32) = zi 1)) g2 g3.1) (hJ _ _) g4.1 g4.2, ?_⟩
    obtain ⟨g5, hv⟩ := hv
    refine ⟨zvp (rfl : zi a2 = zi a2) ia2 g5.1 g5.2, ?_⟩
    refine ⟨fun cq => ?_, fun cq => ?_⟩
    · have hv := hv.1 ((zle (zrd (zrd (zs (rfl : zi v3 = zi v3) (by decide : (1 : Int32) = zi 1)) g2 g3.1) (hJ _ _) g4.1) (zrd (rfl : zi a2 = zi a2) ia2 g5.1) (hJ _ _) (hJ _ _)).mp cq)
      exact hk51 _ _ _ hJ (rfl : zi v3 = zi v3) iv3 hv
    · have hv := hv.2 (fun q => cq ((zle (zrd (zrd (zs (rfl : zi v3 = zi v3) (by decide : (1 : Int32) = zi 1)) g2 g3.1) (hJ _ _) g4.1) (zrd (rfl : zi a2 = zi a2) ia2 g5.1) (hJ _ _) (hJ _ _)).mpr q))
      obtain ⟨g6, hv⟩ := hv
      obtain ⟨g7, hv⟩ := hv
      refine ⟨zvp (zs (rfl : zi v3 = zi v3) (by decide : (1 : Int32) = zi 1)) g6 g7.1 g7.2, ?_⟩
      obtain ⟨g8, hv⟩ := hv
      refine ⟨zvp (rfl : zi v3 = zi v3) iv3 g8.1 g8.2, ?_⟩
      intro I1 eI1
      obtain ⟨J9, eJ9⟩ : ∃ q9 : mJ, q9 = up2 J (o + 1) v3.toNat (J (o + 1) (v3 - 1).toNat) := ⟨_, rfl⟩
      have eI1 : I1 = zz J9 := by rw [eI1, eJ9]; exact zupa (rfl : zi v3 = zi v3) iv3 g8.1 (zrd (zs (rfl : zi v3 = zi v3) (by decide : (1 : Int32) = zi 1)) g6 g7.1)
      subst eI1
      have hv := hv J9 eJ9
      have hJ : irm J9 := by rw [eJ9]; exact irm_up hJ (hJ _ _)
      obtain ⟨g10, hv⟩ := hv
      intro xy11 exy11
      obtain ⟨y11, eyy11⟩ : ∃ q9 : Int, q9 = v3 + (-1) := ⟨_, rfl⟩
      have hv := hv y11 eyy11
      have Ey11 : xy11 = zi y11 := exy11.trans (((za (rfl : zi v3 = zi v3) (by decide : ((-1) : Int32) = zi (-1)))).trans (congrArg zi eyy11.symm))
      have Iy11 : ir y11 := by rw [eyy11]; exact g10
      clear exy11
      exact hv _ hJ Ey11 Iy11
def v_X10_insert_51 (o : Nat) (a1 : Nat) (a2 : Int) (post' : mJ → Prop) (J : mJ) (v3 : Int) : Prop := (0 ≤ v3 ∧ v3 < 10) ∧ ∀ J13, J13 = up2 J (o + 1) v3.toNat a2 → ir ((J13 o 1) + 1) ∧ ∀ J15, J15 = up2 J13 o 1 ((J13 o 1) + 1) → post' J15
theorem vw_X10_insert_51 {o : Nat} {a1 : Nat} {a2 : Int}  (ia2 : ir a2) {post : mI → Prop} {post' : mJ → Prop} (hp : ∀ (J1 : mJ), irm J1 → post' J1 → post (zz J1)) {J : mJ} {xv3 : Int32} {v3 : Int} (hJ : irm J) (ev3 : xv3 = zi v3) (iv3 : ir v3) (hv : v_X10_insert_51 o a1 a2 post' J v3) : w_X10_insert_51 o a1 (zi a2) post (zz J) xv3 := by
  subst ev3
  unfold v_X10_insert_51 at hv
  unfold w_X10_insert_51
  obtain ⟨g12, hv⟩ := hv
  refine ⟨zvp (rfl : zi v3 = zi v3) iv3 g12.1 g12.2, ?_⟩
  intro I1 eI1
  obtain ⟨J13, eJ13⟩ : ∃ q9 : mJ, q9 = up2 J (o + 1) v3.toNat a2 := ⟨_, rfl⟩
  have eI1 : I1 = zz J13 := by rw [eI1, eJ13]; exact zupa (rfl : zi v3 = zi v3) iv3 g12.1 (rfl : zi a2 = zi a2)
  subst eI1
  have hv := hv J13 eJ13
  have hJ : irm J13 := by rw [eJ13]; exact irm_up hJ ia2
  obtain ⟨g14, hv⟩ := hv
  intro I1 eI1
  obtain ⟨J15, eJ15⟩ : ∃ q9 : mJ, q9 = up2 J13 o 1 ((J13 o 1) + 1) := ⟨_, rfl⟩
  have eI1 : I1 = zz J15 := by rw [eI1, eJ15]; exact zup (za zrf (by decide : (1 : Int32) = zi 1))
  subst eI1
  have hv := hv J15 eJ15
  have hJ : irm J15 := by rw [eJ15]; exact irm_up hJ g14
  exact hp _ hJ hv
def v_X10_insert (J : mJ) (o : Nat) (a1 : Nat) (a2 : Int) (post' : mJ → Prop) : Prop := ∀ y1, y1 = (J o 1) → (v_X10_insert_5 o a1 a2 post' (v_X10_insert_51 o a1 a2 post')) J y1
theorem vw_X10_insert {J : mJ} {o : Nat} {a1 : Nat} {xa2 : Int32} {a2 : Int} (hJ : irm J)    (ea2 : xa2 = zi a2) (ia2 : ir a2) {post : mI → Prop} {post' : mJ → Prop} (hp : ∀ (J1 : mJ), irm J1 → post' J1 → post (zz J1)) (hv : v_X10_insert J o a1 a2 post') : w_X10_insert (zz J) o a1 xa2 post := by
  subst ea2
  unfold v_X10_insert at hv
  unfold w_X10_insert
  intro xy1 exy1
  obtain ⟨y1, eyy1⟩ : ∃ q9 : Int, q9 = (J o 1) := ⟨_, rfl⟩
  have hv := hv y1 eyy1
  have Ey1 : xy1 = zi y1 := exy1.trans ((zrf).trans (congrArg zi eyy1.symm))
  have Iy1 : ir y1 := by rw [eyy1]; exact (hJ _ _)
  clear exy1
  refine vw_X10_insert_5 ia2 hp ?_ hJ Ey1 Iy1 hv
  · intro qq xx vv hJ ev3 iv3 hv
    exact vw_X10_insert_51 ia2 hp hJ ev3 iv3 hv
def v_X10_follow_18 (o : Nat) (a1 : Nat) (a2 : Nat) (a3 : Int) (post' : mJ → Prop) (k65' : mJ → Int → Prop) (J : mJ) (v4 : Int) : Prop := ∀ ZZ : (mJ → Int → Prop), (∀ (J : mJ) (v4 : Int), (((J a2 0) ≤ v4 → k65' J 0) ∧ (¬ (J a2 0) ≤ v4 → (0 ≤ v4 ∧ v4 < 10) ∧ v_X3_shoeAt J a1 a3 (J (a2 + 2) v4.toNat) (fun r5 => (0 ≤ v4 ∧ v4 < 10) ∧ (¬ r5 = (J (a2 + 3) v4.toNat) → ir (v4 + 1) ∧ ∀ y8, y8 = v4 + 1 → ZZ J y8) ∧ (r5 = (J (a2 + 3) v4.toNat) → v_X10_insert J o a2 v4 (fun J9 => ir (v4 + 1) ∧ ∀ y11, y11 = v4 + 1 → ZZ J9 y11))))) → ZZ J v4) → ZZ J v4
theorem vw_X10_follow_18 {o : Nat} {a1 : Nat} {a2 : Nat} {a3 : Int}  (ia3 : ir a3) {post : mI → Prop} {post' : mJ → Prop} {k65' : mJ → Int → Prop} {k65 : mI → Int32 → Prop} (hp : ∀ (J1 : mJ), irm J1 → post' J1 → post (zz J1)) (hk65 : ∀ (J : mJ) (xv4 : Int32) (v4 : Int), irm J → xv4 = zi v4 → ir v4 → k65' J v4 → k65 (zz J) xv4) {J : mJ} {xv4 : Int32} {v4 : Int} (hJ : irm J) (ev4 : xv4 = zi v4) (iv4 : ir v4) (hv : v_X10_follow_18 o a1 a2 a3 post' k65' J v4) : w_X10_follow_18 o a1 a2 (zi a3) post k65 (zz J) xv4 := by
  subst ev4
  unfold v_X10_follow_18 at hv
  unfold w_X10_follow_18
  intro ZZ hZ
  refine hv (fun J v4 => ∀ (xv4 : Int32), irm J → xv4 = zi v4 → ir v4 → ZZ (zz J) xv4) ?_ _ hJ rfl iv4
  clear hv hJ iv4
  intro J v4 hv xv4 hJ ev4 iv4
  subst ev4
  refine hZ _ _ ?_
  refine ⟨fun cq => ?_, fun cq => ?_⟩
  · have hv := hv.1 ((zle zrf (rfl : zi v4 = zi v4) (hJ _ _) iv4).mp cq)
    exact hk65 _ _ _ hJ (by decide : (0 : Int32) = zi 0) (by decide : ir 0) hv
  · have hv := hv.2 (fun q => cq ((zle zrf (rfl : zi v4 = zi v4) (hJ _ _) iv4).mpr q))
    obtain ⟨g4, hv⟩ := hv
    refine ⟨zvp (rfl : zi v4 = zi v4) iv4 g4.1 g4.2, ?_⟩
    refine vw_X3_shoeAt hJ (rfl : zi a3 = zi a3) ia3 (zrd (rfl : zi v4 = zi v4) iv4 g4.1) (hJ _ _) (fun xr5 r5 Er5 Ir5 hv => ?_) hv
    obtain ⟨g6, hv⟩ := hv
    refine ⟨zvp (rfl : zi v4 = zi v4) iv4 g6.1 g6.2, ?_⟩
    refine ⟨fun cq => ?_, fun cq => ?_⟩
    · have hv := hv.1 (fun q => cq ((zeq Er5 (zrd (rfl : zi v4 = zi v4) iv4 g6.1) Ir5 (hJ _ _)).mpr q))
      obtain ⟨g7, hv⟩ := hv
      intro xy8 exy8
      obtain ⟨y8, eyy8⟩ : ∃ q9 : Int, q9 = v4 + 1 := ⟨_, rfl⟩
      have hv := hv y8 eyy8
      have Ey8 : xy8 = zi y8 := exy8.trans (((za (rfl : zi v4 = zi v4) (by decide : (1 : Int32) = zi 1))).trans (congrArg zi eyy8.symm))
      have Iy8 : ir y8 := by rw [eyy8]; exact g7
      clear exy8
      exact hv _ hJ Ey8 Iy8
    · have hv := hv.2 ((zeq Er5 (zrd (rfl : zi v4 = zi v4) iv4 g6.1) Ir5 (hJ _ _)).mp cq)
      refine vw_X10_insert hJ (rfl : zi v4 = zi v4) iv4 (fun J9 hJ hv => ?_) hv
      obtain ⟨g10, hv⟩ := hv
      intro xy11 exy11
      obtain ⟨y11, eyy11⟩ : ∃ q9 : Int, q9 = v4 + 1 := ⟨_, rfl⟩
      have hv := hv y11 eyy11
      have Ey11 : xy11 = zi y11 := exy11.trans (((za (rfl : zi v4 = zi v4) (by decide : (1 : Int32) = zi 1))).trans (congrArg zi eyy11.symm))
      have Iy11 : ir y11 := by rw [eyy11]; exact g10
      clear exy11
      exact hv _ hJ Ey11 Iy11
def v_X10_follow_65 (o : Nat) (a1 : Nat) (a2 : Nat) (a3 : Int) (post' : mJ → Prop) (J : mJ) (v4 : Int) : Prop := ∀ ZZ : (mJ → Int → Prop), (∀ (J : mJ) (v4 : Int), (((J o 1) ≤ v4 → post' J) ∧ (¬ (J o 1) ≤ v4 → (0 ≤ v4 ∧ v4 < 10) ∧ v_X10_stepsOf J a1 a2 (J (o + 1) v4.toNat) a3 (fun r13 => (0 ≤ v4 ∧ v4 < 10) ∧ ∀ J15, J15 = up2 J (o + 2) v4.toNat r13 → ir (v4 + 1) ∧ ∀ y17, y17 = v4 + 1 → ZZ J15 y17))) → ZZ J v4) → ZZ J v4
theorem vw_X10_follow_65 {o : Nat} {a1 : Nat} {a2 : Nat} {a3 : Int}  (ia3 : ir a3) {post : mI → Prop} {post' : mJ → Prop} (hp : ∀ (J1 : mJ), irm J1 → post' J1 → post (zz J1)) {J : mJ} {xv4 : Int32} {v4 : Int} (hJ : irm J) (ev4 : xv4 = zi v4) (iv4 : ir v4) (hv : v_X10_follow_65 o a1 a2 a3 post' J v4) : w_X10_follow_65 o a1 a2 (zi a3) post (zz J) xv4 := by
  subst ev4
  unfold v_X10_follow_65 at hv
  unfold w_X10_follow_65
  intro ZZ hZ
  refine hv (fun J v4 => ∀ (xv4 : Int32), irm J → xv4 = zi v4 → ir v4 → ZZ (zz J) xv4) ?_ _ hJ rfl iv4
  clear hv hJ iv4
  intro J v4 hv xv4 hJ ev4 iv4
  subst ev4
  refine hZ _ _ ?_
  refine ⟨fun cq => ?_, fun cq => ?_⟩
  · have hv := hv.1 ((zle zrf (rfl : zi v4 = zi v4) (hJ _ _) iv4).mp cq)
    exact hp _ hJ hv
  · have hv := hv.2 (fun q => cq ((zle zrf (rfl : zi v4 = zi v4) (hJ _ _) iv4).mpr q))
    obtain ⟨g12, hv⟩ := hv
    refine ⟨zvp (rfl : zi v4 = zi v4) iv4 g12.1 g12.2, ?_⟩
    refine vw_X10_stepsOf hJ (zrd (rfl : zi v4 = zi v4) iv4 g12.1) (hJ _ _) (rfl : zi a3 = zi a3) ia3 (fun xr13 r13 Er13 Ir13 hv => ?_) hv
    obtain ⟨g14, hv⟩ := hv
    refine ⟨zvp (rfl : zi v4 = zi v4) iv4 g14.1 g14.2, ?_⟩
    intro I1 eI1
    obtain ⟨J15, eJ15⟩ : ∃ q9 : mJ, q9 = up2 J (o + 2) v4.toNat r13 := ⟨_, rfl⟩
    have eI1 : I1 = zz J15 := by rw [eI1, eJ15]; exact zupa (rfl : zi v4 = zi v4) iv4 g14.1 Er13
    subst eI1
    have hv := hv J15 eJ15
    have hJ : irm J15 := by rw [eJ15]; exact irm_up hJ Ir13
    obtain ⟨g16, hv⟩ := hv
    intro xy17 exy17
    obtain ⟨y17, eyy17⟩ : ∃ q9 : Int, q9 = v4 + 1 := ⟨_, rfl⟩
    have hv := hv y17 eyy17
    have Ey17 : xy17 = zi y17 := exy17.trans (((za (rfl : zi v4 = zi v4) (by decide : (1 : Int32) = zi 1))).trans (congrArg zi eyy17.symm))
    have Iy17 : ir y17 := by rw [eyy17]; exact g16
    clear exy17
    exact hv _ hJ Ey17 Iy17
def v_X10_follow (J : mJ) (o : Nat) (a1 : Nat) (a2 : Nat) (a3 : Int) (post' : mJ → Prop) : Prop := (0 ≤ a3 ∧ a3 < 6) ∧ ∀ J2, J2 = up2 J o 0 (J (a1 + 6) a3.toNat) → ∀ J3, J3 = up2 J2 o 1 0 → (v_X10_follow_18 o a1 a2 a3 post' (v_X10_follow_65 o a1 a2 a3 post')) J3 0
theorem vw_X10_follow {J : mJ} {o : Nat} {a1 : Nat} {a2 : Nat} {xa3 : Int32} {a3 : Int} (hJ : irm J)     (ea3 : xa3 = zi a3) (ia3 : ir a3) {post : mI → Prop} {post' : mJ → Prop} (hp : ∀ (J1 : mJ), irm J1 → post' J1 → post (zz J1)) (hv : v_X10_follow J o a1 a2 a3 post') : w_X10_follow (zz J) o a1 a2 xa3 post := by
  subst ea3
  unfold v_X10_follow at hv
  unfold w_X10_follow
  obtain ⟨g1, hv⟩ := hv
  refine ⟨zvp (rfl : zi a3 = zi a3) ia3 g1.1 g1.2, ?_⟩
  intro I1 eI1
  obtain ⟨J2, eJ2⟩ : ∃ q9 : mJ, q9 = up2 J o 0 (J (a1 + 6) a3.toNat) := ⟨_, rfl⟩
  have eI1 : I1 = zz J2 := by rw [eI1, eJ2]; exact zup (zrd (rfl : zi a3 = zi a3) ia3 g1.1)
  subst eI1
  have hv := hv J2 eJ2
  have hJ : irm J2 := by rw [eJ2]; exact irm_up hJ (hJ _ _)
  intro I1 eI1
  obtain ⟨J3, eJ3⟩ : ∃ q9 : mJ, q9 = up2 J2 o 1 0 := ⟨_, rfl⟩
  have eI1 : I1 = zz J3 := by rw [eI1, eJ3]; exact zup (by decide : (0 : Int32) = zi 0)
  subst eI1
  have hv := hv J3 eJ3
  have hJ : irm J3 := by rw [eJ3]; exact irm_up hJ (by decide : ir 0)
  refine vw_X10_follow_18 ia3 hp ?_ hJ (by decide : (0 : Int32) = zi 0) (by decide : ir 0) hv
  · intro qq xx vv hJ ev4 iv4 hv
    exact vw_X10_follow_65 ia3 hp hJ ev4 iv4 hv
def v_X10_reachTo (J : mJ) (o : Nat) (a1 : Nat) (a2 : Int) (post' : Int → Prop) : Prop := (0 ≤ a2 ∧ a2 < 10) ∧ (0 ≤ (J (o + 1) a2.toNat) ∧ (J (o + 1) a2.toNat) < 10) ∧ ir (a2 - 1) ∧ (0 ≤ (a2 - 1) ∧ (a2 - 1) < 10) ∧ (0 ≤ (J (o + 1) (a2 - 1).toNat) ∧ (J (o + 1) (a2 - 1).toNat) < 10) ∧ ir ((J (a1 + 2) (J (o + 1) a2.toNat).toNat) - (J (a1 + 2) (J (o + 1) (a2 - 1).toNat).toNat)) ∧ ir ((J o 0) * ((J (a1 + 2) (J (o + 1) a2.toNat).toNat) - (J (a1 + 2) (J (o + 1) (a2 - 1).toNat).toNat))) ∧ post' ((J o 0) * ((J (a1 + 2) (J (o + 1) a2.toNat).toNat) - (J (a1 + 2) (J (o + 1) (a2 - 1).toNat).toNat)))
theorem vw_X10_reachTo {J : mJ} {o : Nat} {a1 : Nat} {xa2 : Int32} {a2 : Int} (hJ : irm J)    (ea2 : xa2 = zi a2) (ia2 : ir a2) {post : Int32 → Prop} {post' : Int → Prop} (hp : ∀ (x : Int32) (r : Int), x = zi r → ir r → post' r → post x) (hv : v_X10_reachTo J o a1 a2 post') : w_X10_reachTo (zz J) o a1 xa2 post := by
  subst ea2
  unfold v_X10_reachTo at hv
  unfold w_X10_reachTo
  obtain ⟨g1, hv⟩ := hv
  refine ⟨zvp (rfl : zi a2 = zi a2) ia2 g1.1 g1.2, ?_⟩
  obtain ⟨g2, hv⟩ := hv
  refine ⟨zvp (zrd (rfl : zi a2 = zi a2) ia2 g1.1) (hJ _ _) g2.1 g2.2, ?_⟩
  obtain ⟨g3, hv⟩ := hv
  obtain ⟨g4, hv⟩ := hv
  refine ⟨zvp (zs (rfl : zi a2 = zi a2) (by decide : (1 : Int32) = zi 1)) g3 g4.1 g4.2, ?_⟩
  obtain ⟨g5, hv⟩ := hv
  refine ⟨zvp (zrd (zs (rfl : zi a2 = zi a2) (by decide : (1 : Int32) = zi 1)) g3 g4.1) (hJ _ _) g5.1 g5.2, ?_⟩
  obtain ⟨g6, hv⟩ := hv
  obtain ⟨g7, hv⟩ := hv
  exact hp _ _ (zm zrf (zs (zrd (zrd (rfl : zi a2 = zi a2) ia2 g1.1) (hJ _ _) g2.1) (zrd (zrd (zs (rfl : zi a2 = zi a2) (by decide : (1 : Int32) = zi 1)) g3 g4.1) (hJ _ _) g5.1))) g7 hv
def v_X10_waysWithin_26 (K : mK) (R : mR) (J : mJ) (L : mL) (o : Nat) (a1 : Nat) (a2 : Int) (a3 : Int) (post' : Int64 → Prop) (v4 : Int64) (v6 : Int) (v7 : Int) : Prop := ∀ ZZ : (Int64 → Int → Int → Prop), (∀ (v4 : Int64) (v6 : Int) (v7 : Int), ((v6 < v7 → post' v4) ∧ (¬ v6 < v7 → ∃ w7, R o 4 = some w7 ∧ K w7 = (15, 24) ∧ (0 ≤ v7 ∧ v7 < 24) ∧ ∀ y9, y9 = (v4 + (L w7 v7.toNat)) → ir (v7 + 1) ∧ ∀ y11, y11 = v7 + 1 → ZZ y9 v6 y11)) → ZZ v4 v6 v7) → ZZ v4 v6 v7
theorem vw_X10_waysWithin_26 {K : mK} {R : mR} {J : mJ} {L : mL} {o : Nat} {a1 : Nat} {a2 : Int} {a3 : Int} (hJ : irm J) (ia2 : ir a2) (ia3 : ir a3) {post : Int64 → Prop} {post' : Int64 → Prop} (hp : ∀ (x r : Int64), x = r → post' r → post x) {xv4 v4 : Int64} {xv6 : Int32} {v6 : Int} {xv7 : Int32} {v7 : Int} (ev4 : xv4 = v4) (ev6 : xv6 = zi v6) (iv6 : ir v6) (ev7 : xv7 = zi v7) (iv7 : ir v7) (hv : v_X10_waysWithin_26 K R J L o a1 a2 a3 post' v4 v6 v7) : w_X10_waysWithin_26 K R (zz J) L o a1 (zi a2) (zi a3) post xv4 xv6 xv7 := by
  have ev4 := ev4.symm; subst ev4
  subst ev6
  subst ev7
  unfold v_X10_waysWithin_26 at hv
  unfold w_X10_waysWithin_26
  intro ZZ hZ
  refine hv (fun v4 v6 v7 => ∀ (xv4 : Int64) (xv6 : Int32) (xv7 : Int32), xv4 = v4 → xv6 = zi v6 → ir v6 → xv7 = zi v7 → ir v7 → ZZ xv4 xv6 xv7) ?_ _ _ _ rfl rfl iv6 rfl iv7
  clear hv iv6 iv7
  intro v4 v6 v7 hv xv4 xv6 xv7 ev4 ev6 iv6 ev7 iv7
  have ev4 := ev4.symm; subst ev4
  subst ev6
  subst ev7
  refine hZ _ _ _ ?_
  refine ⟨fun cq => ?_, fun cq => ?_⟩
  · have hv := hv.1 ((zlt (rfl : zi v6 = zi v6) (rfl : zi v7 = zi v7) iv6 iv7).mp cq)
    exact hp _ _ rfl hv
  · have hv := hv.2 (fun q => cq ((zlt (rfl : zi v6 = zi v6) (rfl : zi v7 = zi v7) iv6 iv7).mpr q))
    obtain ⟨w7, hRw7, hKw7, hv⟩ := hv
    refine ⟨w7, hRw7, hKw7, ?_⟩
    obtain ⟨g8, hv⟩ := hv
    refine ⟨zvp (rfl : zi v7 = zi v7) iv7 g8.1 g8.2, ?_⟩
    intro xy9 exy9
    obtain ⟨y9, eyy9⟩ : ∃ q9 : Int64, q9 = (v4 + (L w7 v7.toNat)) := ⟨_, rfl⟩
    have hv := hv y9 eyy9
    have Ey9 : xy9 = y9 := exy9.trans (((congr (congrArg (fun p q : Int64 => p + q) rfl) (lrd (rfl : zi v7 = zi v7) iv7 g8.1))).trans eyy9.symm)
    obtain ⟨g10, hv⟩ := hv
    intro xy11 exy11
    obtain ⟨y11, eyy11⟩ : ∃ q9 : Int, q9 = v7 + 1 := ⟨_, rfl⟩
    have hv := hv y11 eyy11
    have Ey11 : xy11 = zi y11 := exy11.trans (((za (rfl : zi v7 = zi v7) (by decide : (1 : Int32) = zi 1))).trans (congrArg zi eyy11.symm))
    have Iy11 : ir y11 := by rw [eyy11]; exact g10
    clear exy11
    exact hv _ _ _ Ey9 (rfl : zi v6 = zi v6) iv6 Ey11 Iy11
def v_X10_waysWithin (K : mK) (R : mR) (J : mJ) (L : mL) (o : Nat) (a1 : Nat) (a2 : Int) (a3 : Int) (post' : Int64 → Prop) : Prop := ∀ y1, y1 = (0 : Int64) → ir ((J a1 0) - 1) ∧ ir (a2 + a3) ∧ ∀ y4, y4 = (minZ ((J a1 0) - 1) (a2 + a3)) → ir (a2 - a3) ∧ ∀ y6, y6 = (maxZ 0 (a2 - a3)) → (v_X10_waysWithin_26 K R J L o a1 a2 a3 post') y1 y4 y6
theorem vw_X10_waysWithin {K : mK} {R : mR} {J : mJ} {L : mL} {o : Nat} {a1 : Nat} {xa2 : Int32} {a2 : Int} {xa3 : Int32} {a3 : Int} (hJ : irm J)       (ea2 : xa2 = zi a2) (ia2 : ir a2) (ea3 : xa3 = zi a3) (ia3 : ir a3) {post : Int64 → Prop} {post' : Int64 → Prop} (hp : ∀ (x r : Int64), x = r → post' r → post x) (hv : v_X10_waysWithin K R J L o a1 a2 a3 post') : w_X10_waysWithin K R (zz J) L o a1 xa2 xa3 post := by
  subst ea2
  subst ea3
  unfold v_X10_waysWithin at hv
  unfold w_X10_waysWithin
  intro xy1 exy1
  obtain ⟨y1, eyy1⟩ : ∃ q9 : Int64, q9 = (0 : Int64) := ⟨_, rfl⟩
  have hv := hv y1 eyy1
  have Ey1 : xy1 = y1 := exy1.trans ((rfl).trans eyy1.symm)
  obtain ⟨g2, hv⟩ := hv
  obtain ⟨g3, hv⟩ := hv
  intro xy4 exy4
  obtain ⟨y4, eyy4⟩ : ∃ q9 : Int, q9 = (minZ ((J a1 0) - 1) (a2 + a3)) := ⟨_, rfl⟩
  have hv := hv y4 eyy4
  have Ey4 : xy4 = zi y4 := exy4.trans (((z_min (zs zrf (by decide : (1 : Int32) = zi 1)) (za (rfl : zi a2 = zi a2) (rfl : zi a3 = zi a3)) g2 g3)).trans (congrArg zi eyy4.symm))
  have Iy4 : ir y4 := by rw [eyy4]; exact (ir_min g2 g3)
  clear exy4
  obtain ⟨g5, hv⟩ := hv
  intro xy6 exy6
  obtain ⟨y6, eyy6⟩ : ∃ q9 : Int, q9 = (maxZ 0 (a2 - a3)) := ⟨_, rfl⟩
  have hv := hv y6 eyy6
  have Ey6 : xy6 = zi y6 := exy6.trans (((z_max (by decide : (0 : Int32) = zi 0) (zs (rfl : zi a2 = zi a2) (rfl : zi a3 = zi a3)) (by decide : ir 0) g5)).trans (congrArg zi eyy6.symm))
  have Iy6 : ir y6 := by rw [eyy6]; exact (ir_max (by decide : ir 0) g5)
  clear exy6
  exact vw_X10_waysWithin_26 hJ ia2 ia3 hp Ey1 Ey4 Iy4 Ey6 Iy6 hv
def v_X10_waysOf_42 (K : mK) (J : mJ) (o : Nat) (a1 : Nat) (a2 : Nat) (post' : Int64 → mR → mL → Prop) (k11' : mR → mL → Int → Prop) (R : mR) (L : mL) (w1 : Nat) (v3 : Int) (s1 : Int) (s2 : Int64) : Prop := (0 ≤ s1 ∧ s1 < 24) ∧ ∀ L5, L5 = up2 L w1 s1.toNat s2 → ir (v3 + 1) ∧ ∀ y7, y7 = v3 + 1 → k11' R L5 y7
theorem vw_X10_waysOf_42 {K : mK} {J : mJ} {o : Nat} {a1 : Nat} {a2 : Nat} (hJ : irm J)  {post : Int64 → mR → mL → Prop} {post' : Int64 → mR → mL → Prop} {k11' : mR → mL → Int → Prop} {k11 : mR → mL → Int32 → Prop} (hp : ∀ (x r : Int64) (R1 : mR) (L1 : mL), x = r → post' r R1 L1 → post x R1 L1) (hk11 : ∀ (R : mR) (L : mL) (xv3 : Int32) (v3 : Int), xv3 = zi v3 → ir v3 → k11' R L v3 → k11 R L xv3) {R : mR} {L : mL} {w1 : Nat} {xv3 : Int32} {v3 : Int} {xs1 : Int32} {s1 : Int} {xs2 s2 : Int64} (ev3 : xv3 = zi v3) (iv3 : ir v3) (es1 : xs1 = zi s1) (is1 : ir s1) (es2 : xs2 = s2) (hv : v_X10_waysOf_42 K J o a1 a2 post' k11' R L w1 v3 s1 s2) : w_X10_waysOf_42 K (zz J) o a1 a2 post k11 R L w1 xv3 xs1 xs2 := by
  subst ev3
  subst es1
  have es2 := es2.symm; subst es2
  unfold v_X10_waysOf_42 at hv
  unfold w_X10_waysOf_42
  obtain ⟨g4, hv⟩ := hv
  refine ⟨zvp (rfl : zi s1 = zi s1) is1 g4.1 g4.2, ?_⟩
  intro L5 eL5
  have hv := hv L5 (eL5.trans (lup (rfl : zi s1 = zi s1) is1 g4.1 rfl))
  obtain ⟨g6, hv⟩ := hv
  intro xy7 exy7
  obtain ⟨y7, eyy7⟩ : ∃ q9 : Int, q9 = v3 + 1 := ⟨_, rfl⟩
  have hv := hv y7 eyy7
  have Ey7 : xy7 = zi y7 := exy7.trans (((za (rfl : zi v3 = zi v3) (by decide : (1 : Int32) = zi 1))).trans (congrArg zi eyy7.symm))
  have Iy7 : ir y7 := by rw [eyy7]; exact g6
  clear exy7
  exact hk11 _ _ _ _ Ey7 Iy7 hv
def v_X10_waysOf_11 (K : mK) (J : mJ) (o : Nat) (a1 : Nat) (a2 : Nat) (post' : Int64 → mR → mL → Prop) (k51' : mR → mL → Int → Prop) (R : mR) (L : mL) (v3 : Int) : Prop := ∀ ZZ : (mR → mL → Int → Prop), (∀ (R : mR) (L : mL) (v3 : Int), (((J a1 0) ≤ v3 → k51' R L 1) ∧ (¬ (J a1 0) ≤ v3 → ∃ w1, R o 4 = some w1 ∧ K w1 = (15, 24) ∧ v_X11_has (J (o + 2) 0) v3 (fun b3 => (b3 = false → (v_X10_waysOf_42 K J o a1 a2 post' ZZ) R L w1 v3 v3 (0 : Int64)) ∧ (b3 = true → (v_X10_waysOf_42 K J o a1 a2 post' ZZ) R L w1 v3 v3 (1 : Int64))))) → ZZ R L v3) → ZZ R L v3
theorem vw_X10_waysOf_11 {K : mK} {J : mJ} {o : Nat} {a1 : Nat} {a2 : Nat} (hJ : irm J)  {post : Int64 → mR → mL → Prop} {post' : Int64 → mR → mL → Prop} {k51' : mR → mL → Int → Prop} {k51 : mR → mL → Int32 → Prop} (hp : ∀ (x r : Int64) (R1 : mR) (L1 : mL), x = r → post' r R1 L1 → post x R1 L1) (hk51 : ∀ (R : mR) (L : mL) (xv3 : Int32) (v3 : Int), xv3 = zi v3 → ir v3 → k51' R L v3 → k51 R L xv3) {R : mR} {L : mL} {xv3 : Int32} {v3 : Int} (ev3 : xv3 = zi v3) (iv3 : ir v3) (hv : v_X10_waysOf_11 K J o a1 a2 post' k51' R L v3) : w_X10_waysOf_11 K (zz J) o a1 a2 post k51 R L xv3 := by
  subst ev3
  unfold v_X10_waysOf_11 at hv
  unfold w_X10_waysOf_11
  intro ZZ hZ
  refine hv (fun R L v3 => ∀ (xv3 : Int32), xv3 = zi v3 → ir v3 → ZZ R L xv3) ?_ _ rfl iv3
  clear hv iv3
  intro R L v3 hv xv3 ev3 iv3
  subst ev3
  refine hZ _ _ _ ?_
  refine ⟨fun cq => ?_, fun cq => ?_⟩
  · have hv := hv.1 ((zle zrf (rfl : zi v3 = zi v3) (hJ _ _) iv3).mp cq)
    exact hk51 _ _ _ _ (by decide : (1 : Int32) = zi 1) (by decide : ir 1) hv
  · have hv := hv.2 (fun q => cq ((zle zrf (rfl : zi v3 = zi v3) (hJ _ _) iv3).mpr q))
    obtain ⟨w1, hRw1, hKw1, hv⟩ := hv
    refine ⟨w1, hRw1, hKw1, ?_⟩
    refine vw_X11_has (zrd (by decide : (0 : Int32) = zi 0) (by decide : ir 0) (by decide)) (hJ _ _) (rfl : zi v3 = zi v3) iv3 (fun b3  hv => ?_) hv
    refine ⟨fun cq => ?_, fun cq => ?_⟩
    · have hv := hv.1 cq
      refine vw_X10_waysOf_42 hJ  hp ?_ (rfl : zi v3 = zi v3) iv3 (rfl : zi v3 = zi v3) iv3 rfl hv
      · intro qq qq xx vv ev3 iv3 hv
        exact hv _ ev3 iv3
    · have hv := hv.2 cq
      refine vw_X10_waysOf_42 hJ  hp ?_ (rfl : zi v3 = zi v3) iv3 (rfl : zi v3 = zi v3) iv3 rfl hv
      · intro qq qq xx vv ev3 iv3 hv
        exact hv _ ev3 iv3
def v_X10_waysOf_108 (K : mK) (J : mJ) (o : Nat) (a1 : Nat) (a2 : Nat) (post' : Int64 → mR → mL → Prop) (k62' : mR → mL → Int → Int → Prop) (R : mR) (L : mL) (w9 : Nat) (v3 : Int) (v4 : Int) (s1 : Int) (s2 : Int64) : Prop := (0 ≤ s1 ∧ s1 < 24) ∧ ∀ L15, L15 = up2 L w9 s1.toNat s2 → ir (v4 + 1) ∧ ∀ y17, y17 = v4 + 1 → k62' R L15 v3 y17
theorem vw_X10_waysOf_108 {K : mK} {J : mJ} {o : Nat} {a1 : Nat} {a2 : Nat} (hJ : irm J)  {post : Int64 → mR → mL → Prop} {post' : Int64 → mR → mL → Prop} {k62' : mR → mL → Int → Int → Prop} {k62 : mR → mL → Int32 → Int32 → Prop} (hp : ∀ (x r : Int64) (R1 : mR) (L1 : mL), x = r → post' r R1 L1 → post x R1 L1) (hk62 : ∀ (R : mR) (L : mL) (xv3 : Int32) (v3 : Int) (xv4 : Int32) (v4 : Int), xv3 = zi v3 → ir v3 → xv4 = zi v4 → ir v4 → k62' R L v3 v4 → k62 R L xv3 xv4) {R : mR} {L : mL} {w9 : Nat} {xv3 : Int32} {v3 : Int} {xv4 : Int32} {v4 : Int} {xs1 : Int32} {s1 : Int} {xs2 s2 : Int64} (ev3 : xv3 = zi v3) (iv3 : ir v3) (ev4 : xv4 = zi v4) (iv4 : ir v4) (es1 : xs1 = zi s1) (is1 : ir s1) (es2 : xs2 = s2) (hv : v_X10_waysOf_108 K J o a1 a2 post' k62' R L w9 v3 v4 s1 s2) : w_X10_waysOf_108 K (zz J) o a1 a2 post k62 R L w9 xv3 xv4 xs1 xs2 := by
  subst ev3
  subst ev4
  subst es1
  have es2 := es2.symm; subst es2
  unfold v_X10_waysOf_108 at hv
  unfold w_X10_waysOf_108
  obtain ⟨g14, hv⟩ := hv
  refine ⟨zvp (rfl : zi s1 = zi s1) is1 g14.1 g14.2, ?_⟩
  intro L15 eL15
  have hv := hv L15 (eL15.trans (lup (rfl : zi s1 = zi s1) is1 g14.1 rfl))
  obtain ⟨g16, hv⟩ := hv
  intro xy17 exy17
  obtain ⟨y17, eyy17⟩ : ∃ q9 : Int, q9 = v4 + 1 := ⟨_, rfl⟩
  have hv := hv y17 eyy17
  have Ey17 : xy17 = zi y17 := exy17.trans (((za (rfl : zi v4 = zi v4) (by decide : (1 : Int32) = zi 1))).trans (congrArg zi eyy17.symm))
  have Iy17 : ir y17 := by rw [eyy17]; exact g16
  clear exy17
  exact hk62 _ _ _ _ _ _ (rfl : zi v3 = zi v3) iv3 Ey17 Iy17 hv
def v_X10_waysOf_62 (K : mK) (J : mJ) (o : Nat) (a1 : Nat) (a2 : Nat) (post' : Int64 → mR → mL → Prop) (k115' : mR → mL → Int → Prop) (R : mR) (L : mL) (v3 : Int) (v4 : Int) : Prop := ∀ ZZ : (mR → mL → Int → Int → Prop), (∀ (R : mR) (L : mL) (v3 : Int) (v4 : Int), (((J a1 0) ≤ v4 → k115' R L v3) ∧ (¬ (J a1 0) ≤ v4 → ∃ w9, R o 5 = some w9 ∧ K w9 = (15, 24) ∧ (0 ≤ v3 ∧ v3 < 10) ∧ v_X11_has (J (o + 2) v3.toNat) v4 (fun b11 => (b11 = false → (v_X10_waysOf_108 K J o a1 a2 post' ZZ) R L w9 v3 v4 v4 (0 : Int64)) ∧ (b11 = true → v_X10_reachTo J o a2 v3 (fun r12 => v_X10_waysWithin K R J L o a1 v4 r12 (fun r13 => (v_X10_waysOf_108 K J o a1 a2 post' ZZ) R L w9 v3 v4 v4 r13)))))) → ZZ R L v3 v4) → ZZ R L v3 v4
theorem vw_X10_waysOf_62 {K : mK} {J : mJ} {o : Nat} {a1 : Nat} {a2 : Nat} (hJ : irm J)  {post : Int64 → mR → mL → Prop} {post' : Int64 → mR → mL → Prop} {k115' : mR → mL → Int → Prop} {k115 : mR → mL → Int32 → Prop} (hp : ∀ (x r : Int64) (R1 : mR) (L1 : mL), x = r → post' r R1 L1 → post x R1 L1) (hk115 : ∀ (R : mR) (L : mL) (xv3 : Int32) (v3 : Int), xv3 = zi v3 → ir v3 → k115' R L v3 → k115 R L xv3) {R : mR} {L : mL} {xv3 : Int32} {v3 : Int} {xv4 : Int32} {v4 : Int} (ev3 : xv3 = zi v3) (iv3 : ir v3) (ev4 : xv4 = zi v4) (iv4 : ir v4) (hv : v_X10_waysOf_62 K J o a1 a2 post' k115' R L v3 v4) : w_X10_waysOf_62 K (zz J) o a1 a2 post k115 R L xv3 xv4 := by
  subst ev3
  subst ev4
  unfold v_X10_waysOf_62 at hv
  unfold w_X10_waysOf_62
  intro ZZ hZ
  refine hv (fun R L v3 v4 => ∀ (xv3 : Int32) (xv4 : Int32), xv3 = zi v3 → ir v3 → xv4 = zi v4 → ir v4 → ZZ R L xv3 xv4) ?_ _ _ rfl iv3 rfl iv4
  clear hv iv3 iv4
  intro R L v3 v4 hv xv3 xv4 ev3 iv3 ev4 iv4
  subst ev3
  subst ev4
  refine hZ _ _ _ _ ?_
  refine ⟨fun cq => ?_, fun cq => ?_⟩
  · have hv := hv.1 ((zle zrf (rfl : zi v4 = zi v4) (hJ _ _) iv4).mp cq)
    exact hk115 _ _ _ _ (rfl : zi v3 = zi v3) iv3 hv
  · have hv := hv.2 (fun q => cq ((zle zrf (rfl : zi v4 = zi v4) (hJ _ _) iv4).mpr q))
    obtain ⟨w9, hRw9, hKw9, hv⟩ := hv
    refine ⟨w9, hRw9, hKw9, ?_⟩
    obtain ⟨g10, hv⟩ := hv
    refine ⟨zvp (rfl : zi v3 = zi v3) iv3 g10.1 g10.2, ?_⟩
    refine vw_X11_has (zrd (rfl : zi v3 = zi v3) iv3 g10.1) (hJ _ _) (rfl : zi v4 = zi v4) iv4 (fun b11  hv => ?_) hv
    refine ⟨fun cq => ?_, fun cq => ?_⟩
    · have hv := hv.1 cq
      refine vw_X10_waysOf_108 hJ  hp ?_ (rfl : zi v3 = zi v3) iv3 (rfl : zi v4 = zi v4) iv4 (rfl : zi v4 = zi v4) iv4 rfl hv
      · intro qq qq xx vv xx vv ev3 iv3 ev4 iv4 hv
        exact hv _ _ ev3 iv3 ev4 iv4
    · have hv := hv.2 cq
      refine vw_X10_reachTo hJ (rfl : zi v3 = zi v3) iv3 (fun xr12 r12 Er12 Ir12 hv => ?_) hv
      refine vw_X10_waysWithin hJ (rfl : zi v4 = zi v4) iv4 Er12 Ir12 (fun xr13 r13 Er13 hv => ?_) hv
      refine vw_X10_waysOf_108 hJ  hp ?_ (rfl : zi v3 = zi v3) iv3 (rfl : zi v4 = zi v4) iv4 (rfl : zi v4 = zi v4) iv4 Er13 hv
      · intro qq qq xx vv xx vv ev3 iv3 ev4 iv4 hv
        exact hv _ _ ev3 iv3 ev4 iv4
def v_X10_waysOf_115 (K : mK) (J : mJ) (o : Nat) (a1 : Nat) (a2 : Nat) (post' : Int64 → mR → mL → Prop) (k51' : mR → mL → Int → Prop) (R : mR) (L : mL) (v3 : Int) : Prop := ∃ w18, R o 4 = some w18 ∧ K w18 = (15, 24) ∧ ∃ w19, R o 5 = some w19 ∧ K w19 = (15, 24) ∧ ∀ R20, R20 = up2 R o 4 (some w19) → ∀ R21, R21 = up2 R20 o 5 (some w18) → ir (v3 + 1) ∧ ∀ y23, y23 = v3 + 1 → k51' R21 L y23
theorem vw_X10_waysOf_115 {K : mK} {J : mJ} {o : Nat} {a1 : Nat} {a2 : Nat} (hJ : irm J)  {post : Int64 → mR → mL → Prop} {post' : Int64 → mR → mL → Prop} {k51' : mR → mL → Int → Prop} {k51 : mR → mL → Int32 → Prop} (hp : ∀ (x r : Int64) (R1 : mR) (L1 : mL), x = r → post' r R1 L1 → post x R1 L1) (hk51 : ∀ (R : mR) (L : mL) (xv3 : Int32) (v3 : Int), xv3 = zi v3 → ir v3 → k51' R L v3 → k51 R L xv3) {R : mR} {L : mL} {xv3 : Int32} {v3 : Int} (ev3 : xv3 = zi v3) (iv3 : ir v3) (hv : v_X10_waysOf_115 K J o a1 a2 post' k51' R L v3) : w_X10_waysOf_115 K (zz J) o a1 a2 post k51 R L xv3 := by
  subst ev3
  unfold v_X10_waysOf_115 at hv
  unfold w_X10_waysOf_115
  obtain ⟨w18, hRw18, hKw18, hv⟩ := hv
  refine ⟨w18, hRw18, hKw18, ?_⟩
  obtain ⟨w19, hRw19, hKw19, hv⟩ := hv
  refine ⟨w19, hRw19, hKw19, ?_⟩
  intro R20 eR20
  have hv := hv R20 eR20
  intro R21 eR21
  have hv := hv R21 eR21
  obtain ⟨g22, hv⟩ := hv
  intro xy23 exy23
  obtain ⟨y23, eyy23⟩ : ∃ q9 : Int, q9 = v3 + 1 := ⟨_, rfl⟩
  have hv := hv y23 eyy23
  have Ey23 : xy23 = zi y23 := exy23.trans (((za (rfl : zi v3 = zi v3) (by decide : (1 : Int32) = zi 1))).trans (congrArg zi eyy23.symm))
  have Iy23 : ir y23 := by rw [eyy23]; exact g22
  clear exy23
  exact hk51 _ _ _ _ Ey23 Iy23 hv
def v_X10_waysOf_51 (K : mK) (J : mJ) (o : Nat) (a1 : Nat) (a2 : Nat) (post' : Int64 → mR → mL → Prop) (k146' : mR → mL → Int64 → Int → Prop) (R : mR) (L : mL) (v3 : Int) : Prop := ∀ ZZ : (mR → mL → Int → Prop), (∀ (R : mR) (L : mL) (v3 : Int), (((J o 1) ≤ v3 → ∀ y8, y8 = (0 : Int64) → k146' R L y8 0) ∧ (¬ (J o 1) ≤ v3 → (v_X10_waysOf_62 K J o a1 a2 post' (v_X10_waysOf_115 K J o a1 a2 post' ZZ)) R L v3 0)) → ZZ R L v3) → ZZ R L v3
theorem vw_X10_waysOf_51 {K : mK} {J : mJ} {o : Nat} {a1 : Nat} {a2 : Nat} (hJ : irm J)  {post : Int64 → mR → mL → Prop} {post' : Int64 → mR → mL → Prop} {k146' : mR → mL → Int64 → Int → Prop} {k146 : mR → mL → Int64 → Int32 → Prop} (hp : ∀ (x r : Int64) (R1 : mR) (L1 : mL), x = r → post' r R1 L1 → post x R1 L1) (hk146 : ∀ (R : mR) (L : mL) (xv3 v3 : Int64) (xv5 : Int32) (v5 : Int), xv3 = v3 → xv5 = zi v5 → ir v5 → k146' R L v3 v5 → k146 R L xv3 xv5) {R : mR} {L : mL} {xv3 : Int32} {v3 : Int} (ev3 : xv3 = zi v3) (iv3 : ir v3) (hv : v_X10_waysOf_51 K J o a1 a2 post' k146' R L v3) : w_X10_waysOf_51 K (zz J) o a1 a2 post k146 R L xv3 := by
  subst ev3
  unfold v_X10_waysOf_51 at hv
  unfold w_X10_waysOf_51
  intro ZZ hZ
  refine hv (fun R L v3 => ∀ (xv3 : Int32), xv3 = zi v3 → ir v3 → ZZ R L xv3) ?_ _ rfl iv3
  clear hv iv3
  intro R L v3 hv xv3 ev3 iv3
  subst ev3
  refine hZ _ _ _ ?_
  refine ⟨fun cq => ?_, fun cq => ?_⟩
  · have hv := hv.1 ((zle zrf (rfl : zi v3 = zi v3) (hJ _ _) iv3).mp cq)
    intro xy8 exy8
    obtain ⟨y8, eyy8⟩ : ∃ q9 : Int64, q9 = (0 : Int64) := ⟨_, rfl⟩
    have hv := hv y8 eyy8
    have Ey8 : xy8 = y8 := exy8.trans ((rfl).trans eyy8.symm)
    exact hk146 _ _ _ _ _ _ Ey8 (by decide : (0 : Int32) = zi 0) (by decide : ir 0) hv
  · have hv := hv.2 (fun q => cq ((zle zrf (rfl : zi v3 = zi v3) (hJ _ _) iv3).mpr q))
    refine vw_X10_waysOf_62 hJ  hp ?_ (rfl : zi v3 = zi v3) iv3 (by decide : (0 : Int32) = zi 0) (by decide : ir 0) hv
    · intro qq qq xx vv ev3 iv3 hv
      refine vw_X10_waysOf_115 hJ  hp ?_ ev3 iv3 hv
      · intro qq qq xx vv ev3 iv3 hv
        exact hv _ ev3 iv3
def v_X10_waysOf_146 (K : mK) (J : mJ) (o : Nat) (a1 : Nat) (a2 : Nat) (post' : Int64 → mR → mL → Prop) (R : mR) (L : mL) (v3 : Int64) (v5 : Int) : Prop := ∀ ZZ : (mR → mL → Int64 → Int → Prop), (∀ (R : mR) (L : mL) (v3 : Int64) (v5 : Int), (((J a1 0) ≤ v5 → post' v3 R L) ∧ (¬ (J a1 0) ≤ v5 → ∃ w24, R o 4 = some w24 ∧ K w24 = (15, 24) ∧ (0 ≤ v5 ∧ v5 < 24) ∧ ∀ y26, y26 = (v3 + (L w24 v5.toNat)) → ir (v5 + 1) ∧ ∀ y28, y28 = v5 + 1 → ZZ R L y26 y28)) → ZZ R L v3 v5) → ZZ R L v3 v5
theorem vw_X10_waysOf_146 {K : mK} {J : mJ} {o : Nat} {a1 : Nat} {a2 : Nat} (hJ : irm J)  {post : Int64 → mR → mL → Prop} {post' : Int64 → mR → mL → Prop} (hp : ∀ (x r : Int64) (R1 : mR) (L1 : mL), x = r → post' r R1 L1 → post x R1 L1) {R : mR} {L : mL} {xv3 v3 : Int64} {xv5 : Int32} {v5 : Int} (ev3 : xv3 = v3) (ev5 : xv5 = zi v5) (iv5 : ir v5) (hv : v_X10_waysOf_146 K J o a1 a2 post' R L v3 v5) : w_X10_waysOf_146 K (zz J) o a1 a2 post R L xv3 xv5 := by
  have ev3 := ev3.symm; subst ev3
  subst ev5
  unfold v_X10_waysOf_146 at hv
  unfold w_X10_waysOf_146
  intro ZZ hZ
  refine hv (fun R L v3 v5 => ∀ (xv3 : Int64) (xv5 : Int32), xv3 = v3 → xv5 = zi v5 → ir v5 → ZZ R L xv3 xv5) ?_ _ _ rfl rfl iv5
  clear hv iv5
  intro R L v3 v5 hv xv3 xv5 ev3 ev5 iv5
  have ev3 := ev3.symm; subst ev3
  subst ev5
  refine hZ _ _ _ _ ?_
  refine ⟨fun cq => ?_, fun cq => ?_⟩
  · have hv := hv.1 ((zle zrf (rfl : zi v5 = zi v5) (hJ _ _) iv5).mp cq)
    exact hp _ _ _ _ rfl hv
  · have hv := hv.2 (fun q => cq ((zle zrf (rfl : zi v5 = zi v5) (hJ _ _) iv5).mpr q))
    obtain ⟨w24, hRw24, hKw24, hv⟩ := hv
    refine ⟨w24, hRw24, hKw24, ?_⟩
    obtain ⟨g25, hv⟩ := hv
    refine ⟨zvp (rfl : zi v5 = zi v5) iv5 g25.1 g25.2, ?_⟩
    intro xy26 exy26
    obtain ⟨y26, eyy26⟩ : ∃ q9 : Int64, q9 = (v3 + (L w24 v5.toNat)) := ⟨_, rfl⟩
    have hv := hv y26 eyy26
    have Ey26 : xy26 = y26 := exy26.trans (((congr (congrArg (fun p q : Int64 => p + q) rfl) (lrd (rfl : zi v5 = zi v5) iv5 g25.1))).trans eyy26.symm)
    obtain ⟨g27, hv⟩ := hv
    intro xy28 exy28
    obtain ⟨y28, eyy28⟩ : ∃ q9 : Int, q9 = v5 + 1 := ⟨_, rfl⟩
    have hv := hv y28 eyy28
    have Ey28 : xy28 = zi y28 := exy28.trans (((za (rfl : zi v5 = zi v5) (by decide : (1 : Int32) = zi 1))).trans (congrArg zi eyy28.symm))
    have Iy28 : ir y28 := by rw [eyy28]; exact g27
    clear exy28
    exact hv _ _ Ey26 Ey28 Iy28
def v_X10_waysOf (K : mK) (R : mR) (J : mJ) (L : mL) (o : Nat) (a1 : Nat) (a2 : Nat) (post' : Int64 → mR → mL → Prop) : Prop := (¬ (J o 1) = 0 → (v_X10_waysOf_11 K J o a1 a2 post' (v_X10_waysOf_51 K J o a1 a2 post' (v_X10_waysOf_146 K J o a1 a2 post'))) R L 0) ∧ ((J o 1) = 0 → post' (1 : Int64) R L)
theorem vw_X10_waysOf {K : mK} {R : mR} {J : mJ} {L : mL} {o : Nat} {a1 : Nat} {a2 : Nat} (hJ : irm J)        {post : Int64 → mR → mL → Prop} {post' : Int64 → mR → mL → Prop} (hp : ∀ (x r : Int64) (R1 : mR) (L1 : mL), x = r → post' r R1 L1 → post x R1 L1) (hv : v_X10_waysOf K R J L o a1 a2 post') : w_X10_waysOf K R (zz J) L o a1 a2 post := by
  unfold v_X10_waysOf at hv
  unfold w_X10_waysOf
  refine ⟨fun cq => ?_, fun cq => ?_⟩
  · have hv := hv.1 (fun q => cq ((zeq zrf (by decide : (0 : Int32) = zi 0) (hJ _ _) (by decide : ir 0)).mpr q))
    refine vw_X10_waysOf_11 hJ  hp ?_ (by decide : (0 : Int32) = zi 0) (by decide : ir 0) hv
    · intro qq qq xx vv ev3 iv3 hv
      refine vw_X10_waysOf_51 hJ  hp ?_ ev3 iv3 hv
      · intro qq qq xx vv xx vv ev3 ev5 iv5 hv
        exact vw_X10_waysOf_146 hJ  hp ev3 ev5 iv5 hv
  · have hv := hv.2 ((zeq zrf (by decide : (0 : Int32) = zi 0) (hJ _ _) (by decide : ir 0)).mp cq)
    exact hp _ _ _ _ rfl hv
def v_X10_spread_4 (a1 : Int) (a2 : Int) (post' : Int → Prop) (v2 : Int) (v3 : Int) : Prop := ∀ ZZ : (Int → Int → Prop), (∀ (v2 : Int) (v3 : Int), ((a2 < v3 → post' v2) ∧ (¬ a2 < v3 → (24 ≤ v3 → post' v2) ∧ (¬ 24 ≤ v3 → ∀ y1, y1 = (orZ v2 (orZ (shlZ a1 v3) (ushrZ a1 v3))) → ir (v3 + 1) ∧ ∀ y3, y3 = v3 + 1 → ZZ y1 y3))) → ZZ v2 v3) → ZZ v2 v3
theorem vw_X10_spread_4 {a1 : Int} {a2 : Int}  (ia1 : ir a1) (ia2 : ir a2) {post : Int32 → Prop} {post' : Int → Prop} (hp : ∀ (x : Int32) (r : Int), x = zi r → ir r → post' r → post x) {xv2 : Int32} {v2 : Int} {xv3 : Int32} {v3 : Int} (ev2 : xv2 = zi v2) (iv2 : ir v2) (ev3 : xv3 = zi v3) (iv3 : ir v3) (hv : v_X10_spread_4 a1 a2 post' v2 v3) : w_X10_spread_4 (zi a1) (zi a2) post xv2 xv3 := by
  subst ev2
  subst ev3
  unfold v_X10_spread_4 at hv
  unfold w_X10_spread_4
  intro ZZ hZ
  refine hv (fun v2 v3 => ∀ (xv2 : Int32) (xv3 : Int32), xv2 = zi v2 → ir v2 → xv3 = zi v3 → ir v3 → ZZ xv2 xv3) ?_ _ _ rfl iv2 rfl iv3
  clear hv iv2 iv3
  intro v2 v3 hv xv2 xv3 ev2 iv2 ev3 iv3
  subst ev2
  subst ev3
  refine hZ _ _ ?_
  refine ⟨fun cq => ?_, fun cq => ?_⟩
  · have hv := hv.1 ((zlt (rfl : zi a2 = zi a2) (rfl : zi v3 = zi v3) ia2 iv3).mp cq)
    exact hp _ _ (rfl : zi v2 = zi v2) iv2 hv
  · have hv := hv.2 (fun q => cq ((zlt (rfl : zi a2 = zi a2) (rfl : zi v3 = zi v3) ia2 iv3).mpr q))
    refine ⟨fun cq => ?_, fun cq => ?_⟩
    · have hv := hv.1 ((zle (by decide : (24 : Int32) = zi 24) (rfl : zi v3 = zi v3) (by decide : ir 24) iv3).mp cq)
      exact hp _ _ (rfl : zi v2 = zi v2) iv2 hv
    · have hv := hv.2 (fun q => cq ((zle (by decide : (24 : Int32) = zi 24) (rfl : zi v3 = zi v3) (by decide : ir 24) iv3).mpr q))
      intro xy1 exy1
      obtain ⟨y1, eyy1⟩ : ∃ q9 : Int, q9 = (orZ v2 (orZ (shlZ a1 v3) (ushrZ a1 v3))) := ⟨_, rfl⟩
      have hv := hv y1 eyy1
      have Ey1 : xy1 = zi y1 := exy1.trans (((z_or (rfl : zi v2 = zi v2) (z_or (z_shl (rfl : zi a1 = zi a1) (rfl : zi v3 = zi v3)) (z_ushr (rfl : zi a1 = zi a1) (rfl : zi v3 = zi v3))))).trans (congrArg zi eyy1.symm))
      have Iy1 : ir y1 := by rw [eyy1]; exact (ir_toInt _)
      clear exy1
      obtain ⟨g2, hv⟩ := hv
      intro xy3 exy3
      obtain ⟨y3, eyy3⟩ : ∃ q9 : Int, q9 = v3 + 1 := ⟨_, rfl⟩
      have hv := hv y3 eyy3
      have Ey3 : xy3 = zi y3 := exy3.trans (((za (rfl : zi v3 = zi v3) (by decide : (1 : Int32) = zi 1))).trans (congrArg zi eyy3.symm))
      have Iy3 : ir y3 := by rw [eyy3]; exact g2
      clear exy3
      exact hv _ _ Ey1 Iy1 Ey3 Iy3
def v_X10_spread (a1 : Int) (a2 : Int) (post' : Int → Prop) : Prop := (v_X10_spread_4 a1 a2 post') a1 1
theorem vw_X10_spread {xa1 : Int32} {a1 : Int} {xa2 : Int32} {a2 : Int}  (ea1 : xa1 = zi a1) (ia1 : ir a1) (ea2 : xa2 = zi a2) (ia2 : ir a2) {post : Int32 → Prop} {post' : Int → Prop} (hp : ∀ (x : Int32) (r : Int), x = zi r → ir r → post' r → post x) (hv : v_X10_spread a1 a2 post') : w_X10_spread xa1 xa2 post := by
  subst ea1
  subst ea2
  unfold v_X10_spread at hv
  unfold w_X10_spread
  exact vw_X10_spread_4 ia1 ia2 hp (rfl : zi a1 = zi a1) ia1 (by decide : (1 : Int32) = zi 1) (by decide : ir 1) hv
def v_X10_narrow_2 (o : Nat) (a1 : Nat) (post' : mJ → Prop) (k49' : mJ → Int → Prop) (J : mJ) (v2 : Int) : Prop := ∀ ZZ : (mJ → Int → Prop), (∀ (J : mJ) (v2 : Int), (((J o 1) ≤ v2 → ir ((J o 1) - 1) ∧ ∀ y2, y2 = ((J o 1) - 1) → k49' J y2) ∧ (¬ (J o 1) ≤ v2 → (0 ≤ v2 ∧ v2 < 10) ∧ ir (v2 - 1) ∧ (0 ≤ (v2 - 1) ∧ (v2 - 1) < 10) ∧ v_X10_reachTo J o a1 v2 (fun r6 => v_X10_spread (J (o + 2) (v2 - 1).toNat) r6 (fun r7 => (0 ≤ v2 ∧ v2 < 10) ∧ ∀ J9, J9 = up2 J (o + 2) v2.toNat (andZ (J (o + 2) v2.toNat) r7) → ir (v2 + 1) ∧ ∀ y11, y11 = v2 + 1 → ZZ J9 y11)))) → ZZ J v2) → ZZ J v2
theorem vw_X10_narrow_2 {o : Nat} {a1 : Nat}   {post : mI → Prop} {post' : mJ → Prop} {k49' : mJ → Int → Prop} {k49 : mI → Int32 → Prop} (hp : ∀ (J1 : mJ), irm J1 → post' J1 → post (zz J1)) (hk49 : ∀ (J : mJ) (xv2 : Int32) (v2 : Int), irm J → xv2 = zi v2 → ir v2 → k49' J v2 → k49 (zz J) xv2) {J : mJ} {xv2 : Int32} {v2 : Int} (hJ : irm J) (ev2 : xv2 = zi v2) (iv2 : ir v2) (hv : v_X10_narrow_2 o a1 post' k49' J v2) : w_X10_narrow_2 o a1 post k49 (zz J) xv2 := by
  subst ev2
  unfold v_X10_narrow_2 at hv
  unfold w_X10_narrow_2
  intro ZZ hZ
  refine hv (fun J v2 => ∀ (xv2 : Int32), irm J → xv2 = zi v2 → ir v2 → ZZ (zz J) xv2) ?_ _ hJ rfl iv2
  clear hv hJ iv2
  intro J v2 hv xv2 hJ ev2 iv2
  subst ev2
  refine hZ _ _ ?_
  refine ⟨fun cq => ?_, fun cq => ?_⟩
  · have hv := hv.1 ((zle zrf (rfl : zi v2 = zi v2) (hJ _ _) iv2).mp cq)
    obtain ⟨g1, hv⟩ := hv
    intro xy2 exy2
    obtain ⟨y2, eyy2⟩ : ∃ q9 : Int, q9 = ((J o 1) - 1) := ⟨_, rfl⟩
    have hv := hv y2 eyy2
    have Ey2 : xy2 = zi y2 := exy2.trans (((zs zrf (by decide : (1 : Int32) = zi 1))).trans (congrArg zi eyy2.symm))
    have Iy2 : ir y2 := by rw [eyy2]; exact g1
    clear exy2
    exact hk49 _ _ _ hJ Ey2 Iy2 hv
  · have hv := hv.2 (fun q => cq ((zle zrf (rfl : zi v2 = zi v2) (hJ _ _) iv2).mpr q))
    obtain ⟨g3, hv⟩ := hv
    refine ⟨zvp (rfl : zi v2 = zi v2) iv2 g3.1 g3.2, ?_⟩
    obtain ⟨g4, hv⟩ := hv
    obtain ⟨g5, hv⟩ := hv
    refine ⟨zvp (zs (rfl : zi v2 = zi v2) (by decide : (1 : Int32) = zi 1)) g4 g5.1 g5.2, ?_⟩
    refine vw_X10_reachTo hJ (rfl : zi v2 = zi v2) iv2 (fun xr6 r6 Er6 Ir6 hv => ?_) hv
    refine vw_X10_spread (zrd (zs (rfl : zi v2 = zi v2) (by decide : (1 : Int32) = zi 1)) g4 g5.1) (hJ _ _) Er6 Ir6 (fun xr7 r7 Er7 Ir7 hv => ?_) hv
    obtain ⟨g8, hv⟩ := hv
    refine ⟨zvp (rfl : zi v2 = zi v2) iv2 g8.1 g8.2, ?_⟩
    intro I1 eI1
    obtain ⟨J9, eJ9⟩ : ∃ q9 : mJ, q9 = up2 J (o + 2) v2.toNat (andZ (J (o + 2) v2.toNat) r7) := ⟨_, rfl⟩
    have eI1 : I1 = zz J9 := by rw [eI1, eJ9]; exact zupa (rfl : zi v2 = zi v2) iv2 g8.1 (z_and (zrd (rfl : zi v2 = zi v2) iv2 g3.1) Er7)
    subst eI1
    have hv := hv J9 eJ9
    have hJ : irm J9 := by rw [eJ9]; exact irm_up hJ (ir_toInt _)
    obtain ⟨g10, hv⟩ := hv
    intro xy11 exy11
    obtain ⟨y11, eyy11⟩ : ∃ q9 : Int, q9 = v2 + 1 := ⟨_, rfl⟩
    have hv := hv y11 eyy11
    have Ey11 : xy11 = zi y11 := exy11.trans (((za (rfl : zi v2 = zi v2) (by decide : (1 : Int32) = zi 1))).trans (congrArg zi eyy11.symm))
    have Iy11 : ir y11 := by rw [eyy11]; exact g10
    clear exy11
    exact hv _ hJ Ey11 Iy11
def v_X10_narrow_49 (o : Nat) (a1 : Nat) (post' : mJ → Prop) (J : mJ) (v2 : Int) : Prop := ∀ ZZ : (mJ → Int → Prop), (∀ (J : mJ) (v2 : Int), ((v2 ≤ 0 → post' J) ∧ (¬ v2 ≤ 0 → ir (v2 - 1) ∧ (0 ≤ (v2 - 1) ∧ (v2 - 1) < 10) ∧ (0 ≤ v2 ∧ v2 < 10) ∧ v_X10_reachTo J o a1 v2 (fun r15 => v_X10_spread (J (o + 2) v2.toNat) r15 (fun r16 => (0 ≤ (v2 - 1) ∧ (v2 - 1) < 10) ∧ ∀ J18, J18 = up2 J (o + 2) ((v2 - 1).toNat) (andZ (J (o + 2) (v2 - 1).toNat) r16) → ir (v2 + (-1)) ∧ ∀ y20, y20 = v2 + (-1) → ZZ J18 y20)))) → ZZ J v2) → ZZ J v2
theorem vw_X10_narrow_49 {o : Nat} {a1 : Nat}   {post : mI → Prop} {post' : mJ → Prop} (hp : ∀ (J1 : mJ), irm J1 → post' J1 → post (zz J1)) {J : mJ} {xv2 : Int32} {v2 : Int} (hJ : irm J) (ev2 : xv2 = zi v2) (iv2 : ir v2) (hv : v_X10_narrow_49 o a1 post' J v2) : w_X10_narrow_49 o a1 post (zz J) xv2 := by
  subst ev2
  unfold v_X10_narrow_49 at hv
  unfold w_X10_narrow_49
  intro ZZ hZ
  refine hv (fun J v2 => ∀ (xv2 : Int32), irm J → xv2 = zi v2 → ir v2 → ZZ (zz J) xv2) ?_ _ hJ rfl iv2
  clear hv hJ iv2
  intro J v2 hv xv2 hJ ev2 iv2
  subst ev2
  refine hZ _ _ ?_
  refine ⟨fun cq => ?_, fun cq => ?_⟩
  · have hv := hv.1 ((zle (rfl : zi v2 = zi v2) (by decide : (0 : Int32) = zi 0) iv2 (by decide : ir 0)).mp cq)
    exact hp _ hJ hv
  · have hv := hv.2 (fun q => cq ((zle (rfl : zi v2 = zi v2) (by decide : (0 : Int32) = zi 0) iv2 (by decide : ir 0)).mpr q))
    obtain ⟨g12, hv⟩ := hv
    obtain ⟨g13, hv⟩ := hv
    refine ⟨zvp (zs (rfl : zi v2 = zi v2) (by decide : (1 : Int32) = zi 1)) g12 g13.1 g13.2, ?_⟩
    obtain ⟨g14, hv⟩ := hv
    refine ⟨zvp (rfl : zi v2 = zi v2) iv2 g14.1 g14.2, ?_⟩
    refine vw_X10_reachTo hJ (rfl : zi v2 = zi v2) iv2 (fun xr15 r15 Er15 Ir15 hv => ?_) hv
    refine vw_X10_spread (zrd (rfl : zi v2 = zi v2) iv2 g14.1) (hJ _ _) Er15 Ir15 (fun xr16 r16 Er16 Ir16 hv => ?_) hv
    obtain ⟨g17, hv⟩ := hv
    refine ⟨zvp (zs (rfl : zi v2 = zi v2) (by decide : (1 : Int32) = zi 1)) g12 g17.1 g17.2, ?_⟩
    intro I1 eI1
    obtain ⟨J18, eJ18⟩ : ∃ q9 : mJ, q9 = up2 J (o + 2) ((v2 - 1).toNat) (andZ (J (o + 2) (v2 - 1).toNat) r16) := ⟨_, rfl⟩
    have eI1 : I1 = zz J18 := by rw [eI1, eJ18]; exact zupa (zs (rfl : zi v2 = zi v2) (by decide : (1 : Int32) = zi 1)) g12 g17.1 (z_and (zrd (zs (rfl : zi v2 = zi v2) (by decide : (1 : Int32) = zi 1)) g12 g13.1) Er16)
    subst eI1
    have hv := hv J18 eJ18
    have hJ : irm J18 := by rw [eJ18]; exact irm_up hJ (ir_toInt _)
    obtain ⟨g19, hv⟩ := hv
    intro xy20 exy20
    obtain ⟨y20, eyy20⟩ : ∃ q9 : Int, q9 = v2 + (-1) := ⟨_, rfl⟩
    have hv := hv y20 eyy20
    have Ey20 : xy20 = zi y20 := exy20.trans (((za (rfl : zi v2 = zi v2) (by decide : ((-1) : Int32) = zi (-1)))).trans (congrArg zi eyy20.symm))
    have Iy20 : ir y20 := by rw [eyy20]; exact g19
    clear exy20
    exact hv _ hJ Ey20 Iy20
def v_X10_narrow (J : mJ) (o : Nat) (a1 : Nat) (post' : mJ → Prop) : Prop := (v_X10_narrow_2 o a1 post' (v_X10_narrow_49 o a1 post')) J 1
theorem vw_X10_narrow {J : mJ} {o : Nat} {a1 : Nat} (hJ : irm J)    {post : mI → Prop} {post' : mJ → Prop} (hp : ∀ (J1 : mJ), irm J1 → post' J1 → post (zz J1)) (hv : v_X10_narrow J o a1 post') : w_X10_narrow (zz J) o a1 post := by
  unfold v_X10_narrow at hv
  unfold w_X10_narrow
  refine vw_X10_narrow_2  hp ?_ hJ (by decide : (1 : Int32) = zi 1) (by decide : ir 1) hv
  · intro qq xx vv hJ ev2 iv2 hv
    exact vw_X10_narrow_49  hp hJ ev2 iv2 hv
def v_X10_spotsOf_2 (J : mJ) (o : Nat) (a1 : Int) (post' : Int → Prop) (v2 : Int) : Prop := ∀ ZZ : (Int → Prop), (∀ (v2 : Int), (((J o 1) ≤ v2 → post' 0) ∧ (¬ (J o 1) ≤ v2 → (0 ≤ v2 ∧ v2 < 10) ∧ (¬ (J (o + 1) v2.toNat) = a1 → ir (v2 + 1) ∧ ∀ y3, y3 = v2 + 1 → ZZ y3) ∧ ((J (o + 1) v2.toNat) = a1 → (0 ≤ v2 ∧ v2 < 10) ∧ post' (J (o + 2) v2.toNat)))) → ZZ v2) → ZZ v2
theorem vw_X10_spotsOf_2 {J : mJ} {o : Nat} {a1 : Int} (hJ : irm J) (ia1 : ir a1) {post : Int32 → Prop} {post' : Int → Prop} (hp : ∀ (x : Int32) (r : Int), x = zi r → ir r → post' r → post x) {xv2 : Int32} {v2 : Int} (ev2 : xv2 = zi v2) (iv2 : ir v2) (hv : v_X10_spotsOf_2 J o a1 post' v2) : w_X10_spotsOf_2 (zz J) o (zi a1) post xv2 := by
  subst ev2
  unfold v_X10_spotsOf_2 at hv
  unfold w_X10_spotsOf_2
  intro ZZ hZ
  refine hv (fun v2 => ∀ (xv2 : Int32), xv2 = zi v2 → ir v2 → ZZ xv2) ?_ _ rfl iv2
  clear hv iv2
  intro v2 hv xv2 ev2 iv2
  subst ev2
  refine hZ _ ?_
  refine ⟨fun cq => ?_, fun cq => ?_⟩
  · have hv := hv.1 ((zle zrf (rfl : zi v2 = zi v2) (hJ _ _) iv2).mp cq)
    exact hp _ _ (by decide : (0 : Int32) = zi 0) (by decide : ir 0) hv
  · have hv := hv.2 (fun q => cq ((zle zrf (rfl : zi v2 = zi v2) (hJ _ _) iv2).mpr q))
    obtain ⟨g1, hv⟩ := hv
    refine ⟨zvp (rfl : zi v2 = zi v2) iv2 g1.1 g1.2, ?_⟩
    refine ⟨fun cq => ?_, fun cq => ?_⟩
    · have hv := hv.1 (fun q => cq ((zeq (zrd (rfl : zi v2 = zi v2) iv2 g1.1) (rfl : zi a1 = zi a1) (hJ _ _) ia1).mpr q))
      obtain ⟨g2, hv⟩ := hv
      intro xy3 exy3
      obtain ⟨y3, eyy3⟩ : ∃ q9 : Int, q9 = v2 + 1 := ⟨_, rfl⟩
      have hv := hv y3 eyy3
      have Ey3 : xy3 = zi y3 := exy3.trans (((za (rfl : zi v2 = zi v2) (by decide : (1 : Int32) = zi 1))).trans (congrArg zi eyy3.symm))
      have Iy3 : ir y3 := by rw [eyy3]; exact g2
      clear exy3
      exact hv _ Ey3 Iy3
    · have hv := hv.2 ((zeq (zrd (rfl : zi v2 = zi v2) iv2 g1.1) (rfl : zi a1 = zi a1) (hJ _ _) ia1).mp cq)
      obtain ⟨g4, hv⟩ := hv
      refine ⟨zvp (rfl : zi v2 = zi v2) iv2 g4.1 g4.2, ?_⟩
      exact hp _ _ (zrd (rfl : zi v2 = zi v2) iv2 g4.1) (hJ _ _) hv
def v_X10_spotsOf (J : mJ) (o : Nat) (a1 : Int) (post' : Int → Prop) : Prop := (v_X10_spotsOf_2 J o a1 post') 0
theorem vw_X10_spotsOf {J : mJ} {o : Nat} {xa1 : Int32} {a1 : Int} (hJ : irm J)   (ea1 : xa1 = zi a1) (ia1 : ir a1) {post : Int32 → Prop} {post' : Int → Prop} (hp : ∀ (x : Int32) (r : Int), x = zi r → ir r → post' r → post x) (hv : v_X10_spotsOf J o a1 post') : w_X10_spotsOf (zz J) o xa1 post := by
  subst ea1
  unfold v_X10_spotsOf at hv
  unfold w_X10_spotsOf
  exact vw_X10_spotsOf_2 hJ ia1 hp (by decide : (0 : Int32) = zi 0) (by decide : ir 0) hv
def v_X10_sureCount_4 (J : mJ) (o : Nat) (post' : Int → Prop) (v1 : Int) (v2 : Int) : Prop := ∀ ZZ : (Int → Int → Prop), (∀ (v1 : Int) (v2 : Int), (((J o 1) ≤ v2 → post' v1) ∧ (¬ (J o 1) ≤ v2 → (0 ≤ v2 ∧ v2 < 10) ∧ v_J6_bitCount_0f7a4 (J (o + 2) v2.toNat) (fun r2 => (¬ r2 = 1 → ir (v2 + 1) ∧ ∀ y4, y4 = v2 + 1 → ZZ v1 y4) ∧ (r2 = 1 → ir (v1 + 1) ∧ ∀ y6, y6 = v1 + 1 → ir (v2 + 1) ∧ ∀ y8, y8 = v2 + 1 → ZZ y6 y8)))) → ZZ v1 v2) → ZZ v1 v2
theorem vw_X10_sureCount_4 {J : mJ} {o : Nat} (hJ : irm J)  {post : Int32 → Prop} {post' : Int → Prop} (hp : ∀ (x : Int32) (r : Int), x = zi r → ir r → post' r → post x) {xv1 : Int32} {v1 : Int} {xv2 : Int32} {v2 : Int} (ev1 : xv1 = zi v1) (iv1 : ir v1) (ev2 : xv2 = zi v2) (iv2 : ir v2) (hv : v_X10_sureCount_4 J o post' v1 v2) : w_X10_sureCount_4 (zz J) o post xv1 xv2 := by
  subst ev1
  subst ev2
  unfold v_X10_sureCount_4 at hv
  unfold w_X10_sureCount_4
  intro ZZ hZ
  refine hv (fun v1 v2 => ∀ (xv1 : Int32) (xv2 : Int32), xv1 = zi v1 → ir v1 → xv2 = zi v2 → ir v2 → ZZ xv1 xv2) ?_ _ _ rfl iv1 rfl iv2
  clear hv iv1 iv2
  intro v1 v2 hv xv1 xv2 ev1 iv1 ev2 iv2
  subst ev1
  subst ev2
  refine hZ _ _ ?_
  refine ⟨fun cq => ?_, fun cq => ?_⟩
  · have hv := hv.1 ((zle zrf (rfl : zi v2 = zi v2) (hJ _ _) iv2).mp cq)
    exact hp _ _ (rfl : zi v1 = zi v1) iv1 hv
  · have hv := hv.2 (fun q => cq ((zle zrf (rfl : zi v2 = zi v2) (hJ _ _) iv2).mpr q))
    obtain ⟨g1, hv⟩ := hv
    refine ⟨zvp (rfl : zi v2 = zi v2) iv2 g1.1 g1.2, ?_⟩
    refine vw_J6_bitCount_0f7a4 (zrd (rfl : zi v2 = zi v2) iv2 g1.1) (hJ _ _) (fun xr2 r2 Er2 Ir2 hv => ?_) hv
    refine ⟨fun cq => ?_, fun cq => ?_⟩
    · have hv := hv.1 (fun q => cq ((zeq Er2 (by decide : (1 : Int32) = zi 1) Ir2 (by decide : ir 1)).mpr q))
      obtain ⟨g3, hv⟩ := hv
      intro xy4 exy4
      obtain ⟨y4, eyy4⟩ : ∃ q9 : Int, q9 = v2 + 1 := ⟨_, rfl⟩
      have hv := hv y4 eyy4
      have Ey4 : xy4 = zi y4 := exy4.trans (((za (rfl : zi v2 = zi v2) (by decide : (1 : Int32) = zi 1))).trans (congrArg zi eyy4.symm))
      have Iy4 : ir y4 := by rw [eyy4]; exact g3
      clear exy4
      exact hv _ _ (rfl : zi v1 = zi v1) iv1 Ey4 Iy4
    · have hv := hv.2 ((zeq Er2 (by decide : (1 : Int32) = zi 1) Ir2 (by decide : ir 1)).mp cq)
      obtain ⟨g5, hv⟩ := hv
      intro xy6 exy6
      obtain ⟨y6, eyy6⟩ : ∃ q9 : Int, q9 = v1 + 1 := ⟨_, rfl⟩
      have hv := hv y6 eyy6
      have Ey6 : xy6 = zi y6 := exy6.trans (((za (rfl : zi v1 = zi v1) (by decide : (1 : Int32) = zi 1))).trans (congrArg zi eyy6.symm))
      have Iy6 : ir y6 := by rw [eyy6]; exact g5
      clear exy6
      obtain ⟨g7, hv⟩ := hv
      intro xy8 exy8
      obtain ⟨y8, eyy8⟩ : ∃ q9 : Int, q9 = v2 + 1 := ⟨_, rfl⟩
      have hv := hv y8 eyy8
      have Ey8 : xy8 = zi y8 := exy8.trans (((za (rfl : zi v2 = zi v2) (by decide : (1 : Int32) = zi 1))).trans (congrArg zi eyy8.symm))
      have Iy8 : ir y8 := by rw [eyy8]; exact g7
      clear exy8
      exact hv _ _ Ey6 Iy6 Ey8 Iy8
def v_X10_sureCount (J : mJ) (o : Nat) (post' : Int → Prop) : Prop := (v_X10_sureCount_4 J o post') 0 0
theorem vw_X10_sureCount {J : mJ} {o : Nat} (hJ : irm J)   {post : Int32 → Prop} {post' : Int → Prop} (hp : ∀ (x : Int32) (r : Int), x = zi r → ir r → post' r → post x) (hv : v_X10_sureCount J o post') : w_X10_sureCount (zz J) o post := by
  unfold v_X10_sureCount at hv
  unfold w_X10_sureCount
  exact vw_X10_sureCount_4 hJ  hp (by decide : (0 : Int32) = zi 0) (by decide : ir 0) (by decide : (0 : Int32) = zi 0) (by decide : ir 0) hv
def v_X11_feed (J : mJ) (a1 : Int) (a2 : Int) (a3 : Int) (a4 : Int) (a5 : Int) (post' : Int → mJ → Prop) : Prop := ir ((J 1 1) + 20) ∧ (((J 1 1) + 20) ≤ 600 → v_X8_append J 1 a1 (fun J2 => v_X8_append J2 1 a2 (fun J3 => v_X8_append J3 1 a3 (fun J4 => v_X8_append J4 1 a4 (fun J5 => v_X8_append J5 1 a5 (fun J6 => post' (J6 1 1) J6)))))) ∧ (¬ ((J 1 1) + 20) ≤ 600 → post' (-1) J)
theorem vw_X11_feed {J : mJ} {xa1 : Int32} {a1 : Int} {xa2 : Int32} {a2 : Int} {xa3 : Int32} {a3 : Int} {xa4 : Int32} {a4 : Int} {xa5 : Int32} {a5 : Int} (hJ : irm J)  (ea1 : xa1 = zi a1) (ia1 : ir a1) (ea2 : xa2 = zi a2) (ia2 : ir a2) (ea3 : xa3 = zi a3) (ia3 : ir a3) (ea4 : xa4 = zi a4) (ia4 : ir a4) (ea5 : xa5 = zi a5) (ia5 : ir a5) {post : Int32 → mI → Prop} {post' : Int → mJ → Prop} (hp : ∀ (x : Int32) (r : Int) (J1 : mJ), x = zi r → ir r → irm J1 → post' r J1 → post x (zz J1)) (hv : v_X11_feed J a1 a2 a3 a4 a5 post') : w_X11_feed (zz J) xa1 xa2 xa3 xa4 xa5 post := by
  subst ea1
  subst ea2
  subst ea3
  subst ea4
  subst ea5
  unfold v_X11_feed at hv
  unfold w_X11_feed
  obtain ⟨g1, hv⟩ := hv
  refine ⟨fun cq => ?_, fun cq => ?_⟩
  · have hv := hv.1 ((zle (za zrf (by decide : (20 : Int32) = zi 20)) (by decide : (600 : Int32) = zi 600) g1 (by decide : ir 600)).mp cq)
    refine vw_X8_append hJ (rfl : zi a1 = zi a1) ia1 (fun J2 hJ hv => ?_) hv
    refine vw_X8_append hJ (rfl : zi a2 = zi a2) ia2 (fun J3 hJ hv => ?_) hv
    refine vw_X8_append hJ (rfl : zi a3 = zi a3) ia3 (fun J4 hJ hv => ?_) hv
    refine vw_X8_append hJ (rfl : zi a4 = zi a4) ia4 (fun J5 hJ hv => ?_) hv
    refine vw_X8_append hJ (rfl : zi a5 = zi a5) ia5 (fun J6 hJ hv => ?_) hv
    exact hp _ _ _ zrf (hJ _ _) hJ hv
  · have hv := hv.2 (fun q => cq ((zle (za zrf (by decide : (20 : Int32) = zi 20)) (by decide : (600 : Int32) = zi 600) g1 (by decide : ir 600)).mpr q))
    exact hp _ _ _ (by decide : ((-1) : Int32) = zi (-1)) (by decide : ir (-1)) hJ hv
def v_X11_end (J : mJ) (a1 : Int) (post' : Int → mJ → Prop) : Prop := (a1 < 0 → post' (-1) J) ∧ (¬ a1 < 0 → (a1 ≤ (J 1 1) → ∀ J1, J1 = up2 J 1 1 a1 → post' a1 J1) ∧ (¬ a1 ≤ (J 1 1) → post' (-1) J))
theorem vw_X11_end {J : mJ} {xa1 : Int32} {a1 : Int} (hJ : irm J)  (ea1 : xa1 = zi a1) (ia1 : ir a1) {post : Int32 → mI → Prop} {post' : Int → mJ → Prop} (hp : ∀ (x : Int32) (r : Int) (J1 : mJ), x = zi r → ir r → irm J1 → post' r J1 → post x (zz J1)) (hv : v_X11_end J a1 post') : w_X11_end (zz J) xa1 post := by
  subst ea1
  unfold v_X11_end at hv
  unfold w_X11_end
  refine ⟨fun cq => ?_, fun cq => ?_⟩
  · have hv := hv.1 ((zlt (rfl : zi a1 = zi a1) (by decide : (0 : Int32) = zi 0) ia1 (by decide : ir 0)).mp cq)
    exact hp _ _ _ (by decide : ((-1) : Int32) = zi (-1)) (by decide : ir (-1)) hJ hv
  · have hv := hv.2 (fun q => cq ((zlt (rfl : zi a1 = zi a1) (by decide : (0 : Int32) = zi 0) ia1 (by decide : ir 0)).mpr q))
    refine ⟨fun cq => ?_, fun cq => ?_⟩
    · have hv := hv.1 ((zle (rfl : zi a1 = zi a1) zrf ia1 (hJ _ _)).mp cq)
      intro I1 eI1
      obtain ⟨J1, eJ1⟩ : ∃ q9 : mJ, q9 = up2 J 1 1 a1 := ⟨_, rfl⟩
      have eI1 : I1 = zz J1 := by rw [eI1, eJ1]; exact zup (rfl : zi a1 = zi a1)
      subst eI1
      have hv := hv J1 eJ1
      have hJ : irm J1 := by rw [eJ1]; exact irm_up hJ ia1
      exact hp _ _ _ (rfl : zi a1 = zi a1) ia1 hJ hv
    · have hv := hv.2 (fun q => cq ((zle (rfl : zi a1 = zi a1) zrf ia1 (hJ _ _)).mpr q))
      exact hp _ _ _ (by decide : ((-1) : Int32) = zi (-1)) (by decide : ir (-1)) hJ hv
def v_X11_howMany (J : mJ) (a1 : Int) (post' : Int → Prop) : Prop := (¬ a1 = 0 → (¬ a1 = 1 → post' (-2)) ∧ (a1 = 1 → post' (J 1 5))) ∧ (a1 = 0 → post' (J 1 4))
theorem vw_X11_howMany {J : mJ} {xa1 : Int32} {a1 : Int} (hJ : irm J)  (ea1 : xa1 = zi a1) (ia1 : ir a1) {post : Int32 → Prop} {post' : Int → Prop} (hp : ∀ (x : Int32) (r : Int), x = zi r → ir r → post' r → post x) (hv : v_X11_howMany J a1 post') : w_X11_howMany (zz J) xa1 post := by
  subst ea1
  unfold v_X11_howMany at hv
  unfold w_X11_howMany
  refine ⟨fun cq => ?_, fun cq => ?_⟩
  · have hv := hv.1 (fun q => cq ((zeq (rfl : zi a1 = zi a1) (by decide : (0 : Int32) = zi 0) ia1 (by decide : ir 0)).mpr q))
    refine ⟨fun cq => ?_, fun cq => ?_⟩
    · have hv := hv.1 (fun q => cq ((zeq (rfl : zi a1 = zi a1) (by decide : (1 : Int32) = zi 1) ia1 (by decide : ir 1)).mpr q))
      exact hp _ _ (by decide : ((-2) : Int32) = zi (-2)) (by decide : ir (-2)) hv
    · have hv := hv.2 ((zeq (rfl : zi a1 = zi a1) (by decide : (1 : Int32) = zi 1) ia1 (by decide : ir 1)).mp cq)
      exact hp _ _ zrf (hJ _ _) hv
  · have hv := hv.2 ((zeq (rfl : zi a1 = zi a1) (by decide : (0 : Int32) = zi 0) ia1 (by decide : ir 0)).mp cq)
    exact hp _ _ zrf (hJ _ _) hv
def v_X11_placeFor (J : mJ) (a1 : Int) (a2 : Int) (post' : Int → Prop) : Prop := v_X11_howMany J a1 (fun r1 => (0 ≤ r1 → (¬ a2 = (-1) → (a2 < 0 → post' (-1)) ∧ (¬ a2 < 0 → (r1 ≤ a2 → post' (-1)) ∧ (¬ r1 ≤ a2 → post' a2))) ∧ (a2 = (-1) → (2 ≤ r1 → post' (-1)) ∧ (¬ 2 ≤ r1 → post' r1))) ∧ (¬ 0 ≤ r1 → post' (-1)))
theorem vw_X11_placeFor {J : mJ} {xa1 : Int32} {a1 : Int} {xa2 : Int32} {a2 : Int} (hJ : irm J)  (ea1 : xa1 = zi a1) (ia1 : ir a1) (ea2 : xa2 = zi a2) (ia2 : ir a2) {post : Int32 → Prop} {post' : Int → Prop} (hp : ∀ (x : Int32) (r : Int), x = zi r → ir r → post' r → post x) (hv : v_X11_placeFor J a1 a2 post') : w_X11_placeFor (zz J) xa1 xa2 post := by
  subst ea1
  subst ea2
  unfold v_X11_placeFor at hv
  unfold w_X11_placeFor
  refine vw_X11_howMany hJ (rfl : zi a1 = zi a1) ia1 (fun xr1 r1 Er1 Ir1 hv => ?_) hv
  refine ⟨fun cq => ?_, fun cq => ?_⟩
  · have hv := hv.1 ((zle (by decide : (0 : Int32) = zi 0) Er1 (by decide : ir 0) Ir1).mp cq)
    refine ⟨fun cq => ?_, fun cq => ?_⟩
    · have hv := hv.1 (fun q => cq ((zeq (rfl : zi a2 = zi a2) (by decide : ((-1) : Int32) = zi (-1)) ia2 (by decide : ir (-1))).mpr q))
      refine ⟨fun cq => ?_, fun cq => ?_⟩
      · have hv := hv.1 ((zlt (rfl : zi a2 = zi a2) (by decide : (0 : Int32) = zi 0) ia2 (by decide : ir 0)).mp cq)
        exact hp _ _ (by decide : ((-1) : Int32) = zi (-1)) (by decide : ir (-1)) hv
      · have hv := hv.2 (fun q => cq ((zlt (rfl : zi a2 = zi a2) (by decide : (0 : Int32) = zi 0) ia2 (by decide : ir 0)).mpr q))
        refine ⟨fun cq => ?_, fun cq => ?_⟩
        · have hv := hv.1 ((zle Er1 (rfl : zi a2 = zi a2) Ir1 ia2).mp cq)
          exact hp _ _ (by decide : ((-1) : Int32) = zi (-1)) (by decide : ir (-1)) hv
        · have hv := hv.2 (fun q => cq ((zle Er1 (rfl : zi a2 = zi a2) Ir1 ia2).mpr q))
          exact hp _ _ (rfl : zi a2 = zi a2) ia2 hv
    · have hv := hv.2 ((zeq (rfl : zi a2 = zi a2) (by decide : ((-1) : Int32) = zi (-1)) ia2 (by decide : ir (-1))).mp cq)
      refine ⟨fun cq => ?_, fun cq => ?_⟩
      · have hv := hv.1 ((zle (by decide : (2 : Int32) = zi 2) Er1 (by decide : ir 2) Ir1).mp cq)
        exact hp _ _ (by decide : ((-1) : Int32) = zi (-1)) (by decide : ir (-1)) hv
      · have hv := hv.2 (fun q => cq ((zle (by decide : (2 : Int32) = zi 2) Er1 (by decide : ir 2) Ir1).mpr q))
        exact hp _ _ Er1 Ir1 hv
  · have hv := hv.2 (fun q => cq ((zle (by decide : (0 : Int32) = zi 0) Er1 (by decide : ir 0) Ir1).mpr q))
    exact hp _ _ (by decide : ((-1) : Int32) = zi (-1)) (by decide : ir (-1)) hv
abbrev v_X11_forgetEvening (J : mJ) (a1 : Int) (post' : mJ → Prop) : Prop := (0 ≤ a1 ∧ a1 < 2) ∧ ∀ J1, J1 = up2 J (94 + 17 * a1.toNat) 1 0 → v_X7_forget J1 70 (fun J2 => post' J2)
theorem vw_X11_forgetEvening {J : mJ} {xa1 : Int32} {a1 : Int} (hJ : irm J)  (ea1 : xa1 = zi a1) (ia1 : ir a1) {post : mI → Prop} {post' : mJ → Prop} (hp : ∀ (J1 : mJ), irm J1 → post' J1 → post (zz J1)) (hv : v_X11_forgetEvening J a1 post') : w_X11_forgetEvening (zz J) xa1 post := by
  subst ea1
  unfold w_X11_forgetEvening
  obtain ⟨g9, hv⟩ := hv
  refine ⟨zvp (rfl : zi a1 = zi a1) ia1 g9.1 g9.2, ?_⟩
  try simp only [zcl (rfl : zi a1 = zi a1) ia1 g9.1]
  intro I1 eI1
  obtain ⟨J10, eJ10⟩ : ∃ q9 : mJ, q9 = up2 J (94 + 17 * a1.toNat) 1 0 := ⟨_, rfl⟩
  have eI1 : I1 = zz J10 := by rw [eI1, eJ10]; exact zup (by decide : (0 : Int32) = zi 0)
  subst eI1
  have hv := hv J10 eJ10
  have hJ : irm J10 := by rw [eJ10]; exact irm_up hJ (by decide : ir 0)
  refine vw_X7_forget hJ  (fun J11 hJ hv => ?_) hv
  exact hp _ hJ hv
def v_X11_takeText (J : mJ) (a1 : Int) (a2 : Int) (post' : mJ → Prop) : Prop := (¬ a1 = 0 → (0 ≤ a2 ∧ a2 < 2) ∧ v_X6_copyFrom J (1 + 18 + 19 * a2.toNat) 59 (fun J2 => ir (a2 + 1) ∧ ∀ J4, J4 = up2 J2 1 5 (maxZ (J2 1 5) (a2 + 1)) → post' J4)) ∧ (a1 = 0 → (0 ≤ a2 ∧ a2 < 2) ∧ v_X3_copyFrom J (1 + 4 + 19 * a2.toNat) 45 (fun J6 => ir (a2 + 1) ∧ ∀ J8, J8 = up2 J6 1 4 (maxZ (J6 1 4) (a2 + 1)) → v_X11_forgetEvening J8 a2 (fun J9 => post' J9)))
theorem vw_X11_takeText {J : mJ} {xa1 : Int32} {a1 : Int} {xa2 : Int32} {a2 : Int} (hJ : irm J)  (ea1 : xa1 = zi a1) (ia1 : ir a1) (ea2 : xa2 = zi a2) (ia2 : ir a2) {post : mI → Prop} {post' : mJ → Prop} (hp : ∀ (J1 : mJ), irm J1 → post' J1 → post (zz J1)) (hv : v_X11_takeText J a1 a2 post') : w_X11_takeText (zz J) xa1 xa2 post := by
  subst ea1
  subst ea2
  unfold v_X11_takeText at hv
  unfold w_X11_takeText
  refine ⟨fun cq => ?_, fun cq => ?_⟩
  · have hv := hv.1 (fun q => cq ((zeq (rfl : zi a1 = zi a1) (by decide : (0 : Int32) = zi 0) ia1 (by decide : ir 0)).mpr q))
    obtain ⟨g1, hv⟩ := hv
    refine ⟨zvp (rfl : zi a2 = zi a2) ia2 g1.1 g1.2, ?_⟩
    try simp only [zcl (rfl : zi a2 = zi a2) ia2 g1.1]
    refine vw_X6_copyFrom hJ  (fun J2 hJ hv => ?_) hv
    obtain ⟨g3, hv⟩ := hv
    intro I1 eI1
    obtain ⟨J4, eJ4⟩ : ∃ q9 : mJ, q9 = up2 J2 1 5 (maxZ (J2 1 5) (a2 + 1)) := ⟨_, rfl⟩
    have eI1 : I1 = zz J4 := by rw [eI1, eJ4]; exact zup (z_max zrf (za (rfl : zi a2 = zi a2) (by decide : (1 : Int32) = zi 1)) (hJ _ _) g3)
    subst eI1
    have hv := hv J4 eJ4
    have hJ : irm J4 := by rw [eJ4]; exact irm_up hJ (ir_max (hJ _ _) g3)
    exact hp _ hJ hv
  · have hv := hv.2 ((zeq (rfl : zi a1 = zi a1) (by decide : (0 : Int32) = zi 0) ia1 (by decide : ir 0)).mp cq)
    obtain ⟨g5, hv⟩ := hv
    refine ⟨zvp (rfl : zi a2 = zi a2) ia2 g5.1 g5.2, ?_⟩
    try simp only [zcl (rfl : zi a2 = zi a2) ia2 g5.1]
    refine vw_X3_copyFrom hJ  (fun J6 hJ hv => ?_) hv
    obtain ⟨g7, hv⟩ := hv
    intro I1 eI1
    obtain ⟨J8, eJ8⟩ : ∃ q9 : mJ, q9 = up2 J6 1 4 (maxZ (J6 1 4) (a2 + 1)) := ⟨_, rfl⟩
    have eI1 : I1 = zz J8 := by rw [eI1, eJ8]; exact zup (z_max zrf (za (rfl : zi a2 = zi a2) (by decide : (1 : Int32) = zi 1)) (hJ _ _) g7)
    subst eI1
    have hv := hv J8 eJ8
    have hJ : irm J8 := by rw [eJ8]; exact irm_up hJ (ir_max (hJ _ _) g7)
    refine vw_X11_forgetEvening hJ (rfl : zi a2 = zi a2) ia2 (fun J9 hJ hv => ?_) hv
    exact hp _ hJ hv
def v_X11_text (J : mJ) (a1 : Int) (a2 : Int) (post' : Int → mJ → Prop) : Prop := ∀ y1, y1 = (J 1 1) → ∀ J2, J2 = up2 J 1 1 0 → ∀ J3, J3 = up2 J2 1 2 0 → ∀ J4, J4 = up2 J3 1 3 (-1) → v_X11_placeFor J4 a1 a2 (fun r5 => (¬ r5 = (-1) → v_X5_read J4 44 2 a1 y1 (fun J6 => ∀ J7, J7 = up2 J6 1 2 (J6 44 2) → ∀ J8, J8 = up2 J7 1 3 (J7 44 3) → ((J8 44 2) = 0 → v_X11_takeText J8 a1 r5 (fun J9 => post' r5 J9)) ∧ (¬ (J8 44 2) = 0 → post' (-1) J8))) ∧ (r5 = (-1) → post' (-2) J4))
theorem vw_X11_text {J : mJ} {xa1 : Int32} {a1 : Int} {xa2 : Int32} {a2 : Int} (hJ : irm J)  (ea1 : xa1 = zi a1) (ia1 : ir a1) (ea2 : xa2 = zi a2) (ia2 : ir a2) {post : Int32 → mI → Prop} {post' : Int → mJ → Prop} (hp : ∀ (x : Int32) (r : Int) (J1 : mJ), x = zi r → ir r → irm J1 → post' r J1 → post x (zz J1)) (hv : v_X11_text J a1 a2 post') : w_X11_text (zz J) xa1 xa2 post := by
  subst ea1
  subst ea2
  unfold v_X11_text at hv
  unfold w_X11_text
  intro xy1 exy1
  obtain ⟨y1, eyy1⟩ : ∃ q9 : Int, q9 = (J 1 1) := ⟨_, rfl⟩
  have hv := hv y1 eyy1
  have Ey1 : xy1 = zi y1 := exy1.trans ((zrf).trans (congrArg zi eyy1.symm))
  have Iy1 : ir y1 := by rw [eyy1]; exact (hJ _ _)
  clear exy1
  intro I1 eI1
  obtain ⟨J2, eJ2⟩ : ∃ q9 : mJ, q9 = up2 J 1 1 0 := ⟨_, rfl⟩
  have eI1 : I1 = zz J2 := by rw [eI1, eJ2]; exact zup (by decide : (0 : Int32) = zi 0)
  subst eI1
  have hv := hv J2 eJ2
  have hJ : irm J2 := by rw [eJ2]; exact irm_up hJ (by decide : ir 0)
  intro I1 eI1
  obtain ⟨J3, eJ3⟩ : ∃ q9 : mJ, q9 = up2 J2 1 2 0 := ⟨_, rfl⟩
  have eI1 : I1 = zz J3 := by rw [eI1, eJ3]; exact zup (by decide : (0 : Int32) = zi 0)
  subst eI1
  have hv := hv J3 eJ3
  have hJ : irm J3 := by rw [eJ3]; exact irm_up hJ (by decide : ir 0)
  intro I1 eI1
  obtain ⟨J4, eJ4⟩ : ∃ q9 : mJ, q9 = up2 J3 1 3 (-1) := ⟨_, rfl⟩
  have eI1 : I1 = zz J4 := by rw [eI1, eJ4]; exact zup (by decide : ((-1) : Int32) = zi (-1))
  subst eI1
  have hv := hv J4 eJ4
  have hJ : irm J4 := by rw [eJ4]; exact irm_up hJ (by decide : ir (-1))
  refine vw_X11_placeFor hJ (rfl : zi a1 = zi a1) ia1 (rfl : zi a2 = zi a2) ia2 (fun xr5 r5 Er5 Ir5 hv => ?_) hv
  refine ⟨fun cq => ?_, fun cq => ?_⟩
  · have hv := hv.1 (fun q => cq ((zeq Er5 (by decide : ((-1) : Int32) = zi (-1)) Ir5 (by decide : ir (-1))).mpr q))
    refine vw_X5_read hJ (rfl : zi a1 = zi a1) ia1 Ey1 Iy1 (fun J6 hJ hv => ?_) hv
    intro I1 eI1
    obtain ⟨J7, eJ7⟩ : ∃ q9 : mJ, q9 = up2 J6 1 2 (J6 44 2) := ⟨_, rfl⟩
    have eI1 : I1 = zz J7 := by rw [eI1, eJ7]; exact zup zrf
    subst eI1
    have hv := hv J7 eJ7
    have hJ : irm J7 := by rw [eJ7]; exact irm_up hJ (hJ _ _)
    intro I1 eI1
    obtain ⟨J8, eJ8⟩ : ∃ q9 : mJ, q9 = up2 J7 1 3 (J7 44 3) := ⟨_, rfl⟩
    have eI1 : I1 = zz J8 := by rw [eI1, eJ8]; exact zup zrf
    subst eI1
    have hv := hv J8 eJ8
    have hJ : irm J8 := by rw [eJ8]; exact irm_up hJ (hJ _ _)
    refine ⟨fun cq => ?_, fun cq => ?_⟩
    · have hv := hv.1 ((zeq zrf (by decide : (0 : Int32) = zi 0) (hJ _ _) (by decide : ir 0)).mp cq)
      refine vw_X11_takeText hJ (rfl : zi a1 = zi a1) ia1 Er5 Ir5 (fun J9 hJ hv => ?_) hv
      exact hp _ _ _ Er5 Ir5 hJ hv
    · have hv := hv.2 (fun q => cq ((zeq zrf (by decide : (0 : Int32) = zi 0) (hJ _ _) (by decide : ir 0)).mpr q))
      exact hp _ _ _ (by decide : ((-1) : Int32) = zi (-1)) (by decide : ir (-1)) hJ hv
  · have hv := hv.2 ((zeq Er5 (by decide : ((-1) : Int32) = zi (-1)) Ir5 (by decide : ir (-1))).mp cq)
    exact hp _ _ _ (by decide : ((-2) : Int32) = zi (-2)) (by decide : ir (-2)) hJ hv
def v_X11_fault (J : mJ) (a1 : Int) (post' : Int → Prop) : Prop := (¬ a1 = 0 → (¬ a1 = 1 → post' (-1)) ∧ (a1 = 1 → post' (J 1 3))) ∧ (a1 = 0 → post' (J 1 2))
theorem vw_X11_fault {J : mJ} {xa1 : Int32} {a1 : Int} (hJ : irm J)  (ea1 : xa1 = zi a1) (ia1 : ir a1) {post : Int32 → Prop} {post' : Int → Prop} (hp : ∀ (x : Int32) (r : Int), x = zi r → ir r → post' r → post x) (hv : v_X11_fault J a1 post') : w_X11_fault (zz J) xa1 post := by
  subst ea1
  unfold v_X11_fault at hv
  unfold w_X11_fault
  refine ⟨fun cq => ?_, fun cq => ?_⟩
  · have hv := hv.1 (fun q => cq ((zeq (rfl : zi a1 = zi a1) (by decide : (0 : Int32) = zi 0) ia1 (by decide : ir 0)).mpr q))
    refine ⟨fun cq => ?_, fun cq => ?_⟩
    · have hv := hv.1 (fun q => cq ((zeq (rfl : zi a1 = zi a1) (by decide : (1 : Int32) = zi 1) ia1 (by decide : ir 1)).mpr q))
      exact hp _ _ (by decide : ((-1) : Int32) = zi (-1)) (by decide : ir (-1)) hv
    · have hv := hv.2 ((zeq (rfl : zi a1 = zi a1) (by decide : (1 : Int32) = zi 1) ia1 (by decide : ir 1)).mp cq)
      exact hp _ _ zrf (hJ _ _) hv
  · have hv := hv.2 ((zeq (rfl : zi a1 = zi a1) (by decide : (0 : Int32) = zi 0) ia1 (by decide : ir 0)).mp cq)
    exact hp _ _ zrf (hJ _ _) hv
def v_X11_houseAt (J : mJ) (a1 : Int) (post' : Option Nat → Prop) : Prop := (a1 < 0 → post' none) ∧ (¬ a1 < 0 → ((J 1 4) ≤ a1 → post' none) ∧ (¬ (J 1 4) ≤ a1 → (0 ≤ a1 ∧ a1 < 2) ∧ post' (some (1 + 4 + 19 * a1.toNat))))
theorem vw_X11_houseAt {J : mJ} {xa1 : Int32} {a1 : Int} (hJ : irm J)  (ea1 : xa1 = zi a1) (ia1 : ir a1) {post : Option Nat → Prop} {post' : Option Nat → Prop} (hp : ∀ (r : Option Nat), post' r → post r) (hv : v_X11_houseAt J a1 post') : w_X11_houseAt (zz J) xa1 post := by
  subst ea1
  unfold v_X11_houseAt at hv
  unfold w_X11_houseAt
  refine ⟨fun cq => ?_, fun cq => ?_⟩
  · have hv := hv.1 ((zlt (rfl : zi a1 = zi a1) (by decide : (0 : Int32) = zi 0) ia1 (by decide : ir 0)).mp cq)
    exact hp _ hv
  · have hv := hv.2 (fun q => cq ((zlt (rfl : zi a1 = zi a1) (by decide : (0 : Int32) = zi 0) ia1 (by decide : ir 0)).mpr q))
    refine ⟨fun cq => ?_, fun cq => ?_⟩
    · have hv := hv.1 ((zle zrf (rfl : zi a1 = zi a1) (hJ _ _) ia1).mp cq)
      exact hp _ hv
    · have hv := hv.2 (fun q => cq ((zle zrf (rfl : zi a1 = zi a1) (hJ _ _) ia1).mpr q))
      obtain ⟨g1, hv⟩ := hv
      refine ⟨zvp (rfl : zi a1 = zi a1) ia1 g1.1 g1.2, ?_⟩
      try simp only [zcl (rfl : zi a1 = zi a1) ia1 g1.1]
      exact hp _ hv
def v_X11_houseFigure (J : mJ) (a1 : Nat) (a2 : Int) (post' : Int → Prop) : Prop := (a2 = 0 → post' (J a1 0)) ∧ (a2 = 1 → post' (J a1 1)) ∧ (a2 = 2 → post' (J a1 2)) ∧ (a2 = 3 → post' (J a1 3)) ∧ (a2 = 4 → post' (J a1 4)) ∧ (¬ a2 = 0 → ¬ a2 = 1 → ¬ a2 = 2 → ¬ a2 = 3 → ¬ a2 = 4 → post' (-1))
theorem vw_X11_houseFigure {J : mJ} {a1 : Nat} {xa2 : Int32} {a2 : Int} (hJ : irm J)   (ea2 : xa2 = zi a2) (ia2 : ir a2) {post : Int32 → Prop} {post' : Int → Prop} (hp : ∀ (x : Int32) (r : Int), x = zi r → ir r → post' r → post x) (hv : v_X11_houseFigure J a1 a2 post') : w_X11_houseFigure (zz J) a1 xa2 post := by
  subst ea2
  unfold v_X11_houseFigure at hv
  unfold w_X11_houseFigure
  refine ⟨fun cq => ?_, fun cq => ?_, fun cq => ?_, fun cq => ?_, fun cq => ?_, fun c0 c1 c2 c3 c4 => ?_⟩
  · have hv := hv.1 ((zeq (rfl : zi a2 = zi a2) (by decide : (0 : Int32) = zi 0) ia2 (by decide : ir 0)).mp cq)
    exact hp _ _ zrf (hJ _ _) hv
  · have hv := hv.2.1 ((zeq (rfl : zi a2 = zi a2) (by decide : (1 : Int32) = zi 1) ia2 (by decide : ir 1)).mp cq)
    exact hp _ _ zrf (hJ _ _) hv
  · have hv := hv.2.2.1 ((zeq (rfl : zi a2 = zi a2) (by decide : (2 : Int32) = zi 2) ia2 (by decide : ir 2)).mp cq)
    exact hp _ _ zrf (hJ _ _) hv
  · have hv := hv.2.2.2.1 ((zeq (rfl : zi a2 = zi a2) (by decide : (3 : Int32) = zi 3) ia2 (by decide : ir 3)).mp cq)
    exact hp _ _ zrf (hJ _ _) hv
  · have hv := hv.2.2.2.2.1 ((zeq (rfl : zi a2 = zi a2) (by decide : (4 : Int32) = zi 4) ia2 (by decide : ir 4)).mp cq)
    exact hp _ _ zrf (hJ _ _) hv
  · have hv := hv.2.2.2.2.2 (fun q => c0 ((zeq (rfl : zi a2 = zi a2) (by decide : (0 : Int32) = zi 0) ia2 (by decide : ir 0)).mpr q)) (fun q => c1 ((zeq (rfl : zi a2 = zi a2) (by decide : (1 : Int32) = zi 1) ia2 (by decide : ir 1)).mpr q)) (fun q => c2 ((zeq (rfl : zi a2 = zi a2) (by decide : (2 : Int32) = zi 2) ia2 (by decide : ir 2)).mpr q)) (fun q => c3 ((zeq (rfl : zi a2 = zi a2) (by decide : (3 : Int32) = zi 3) ia2 (by decide : ir 3)).mpr q)) (fun q => c4 ((zeq (rfl : zi a2 = zi a2) (by decide : (4 : Int32) = zi 4) ia2 (by decide : ir 4)).mpr q))
    exact hp _ _ (by decide : ((-1) : Int32) = zi (-1)) (by decide : ir (-1)) hv
def v_X11_house (J : mJ) (a1 : Int) (a2 : Int) (post' : Int → Prop) : Prop := v_X11_houseAt J a1 (fun r1 => (r1 = none → post' (-1)) ∧ (∀ q2 : Nat, r1 = some q2 → (a2 < 100 → (10 ≤ a2 → ∀ y3, y3 = (remZ a2 10) → ∀ y4, y4 = (divZ a2 10) → (y4 = 1 → v_X11_pick J (q2 + 2) 6 y3 (J q2 2) (-1) (fun r5 => post' r5)) ∧ (y4 = 2 → v_X11_pick J (q2 + 3) 6 y3 (J q2 2) (-1) (fun r6 => post' r6)) ∧ (y4 = 3 → v_X11_pick J (q2 + 11) 8 y3 (J q2 4) (-1) (fun r7 => post' r7)) ∧ (y4 = 4 → v_X11_pick J (q2 + 12) 8 y3 (J q2 4) (-1) (fun r8 => post' r8)) ∧ (y4 = 5 → v_X11_pick J (q2 + 13) 8 y3 (J q2 4) (-1) (fun r9 => post' r9)) ∧ (¬ y4 = 1 → ¬ y4 = 2 → ¬ y4 = 3 → ¬ y4 = 4 → ¬ y4 = 5 → post' (-1))) ∧ (¬ 10 ≤ a2 → v_X11_houseFigure J q2 a2 (fun r10 => post' r10))) ∧ (¬ a2 < 100 → ir (a2 - 100) ∧ v_X11_pick J (q2 + 1) 24 (a2 - 100) (J q2 0) (-1) (fun r12 => post' r12))))
theorem vw_X11_house {J : mJ} {xa1 : Int32} {a1 : Int} {xa2 : Int32} {a2 : Int} (hJ : irm J)  (ea1 : xa1 = zi a1) (ia1 : ir a1) (ea2 : xa2 = zi a2) (ia2 : ir a2) {post : Int32 → Prop} {post' : Int → Prop} (hp : ∀ (x : Int32) (r : Int), x = zi r → ir r → post' r → post x) (hv : v_X11_house J a1 a2 post') : w_X11_house (zz J) xa1 xa2 post := by
  subst ea1
  subst ea2
  unfold v_X11_house at hv
  unfold w_X11_house
  refine vw_X11_houseAt hJ (rfl : zi a1 = zi a1) ia1 (fun r1  hv => ?_) hv
  refine ⟨fun cq => ?_, fun q2 cq => ?_⟩
  · have hv := hv.1 cq
    exact hp _ _ (by decide : ((-1) : Int32) = zi (-1)) (by decide : ir (-1)) hv
  · have hv := hv.2 q2 cq
    refine ⟨fun cq => ?_, fun cq => ?_⟩
    · have hv := hv.1 ((zlt (rfl : zi a2 = zi a2) (by decide : (100 : Int32) = zi 100) ia2 (by decide : ir 100)).mp cq)
      refine ⟨fun cq => ?_, fun cq => ?_⟩
      · have hv := hv.1 ((zle (by decide : (10 : Int32) = zi 10) (rfl : zi a2 = zi a2) (by decide : ir 10) ia2).mp cq)
        intro xy3 exy3
        obtain ⟨y3, eyy3⟩ : ∃ q9 : Int, q9 = (remZ a2 10) := ⟨_, rfl⟩
        have hv := hv y3 eyy3
        have Ey3 : xy3 = zi y3 := exy3.trans (((z_rem (rfl : zi a2 = zi a2) (by decide : (10 : Int32) = zi 10))).trans (congrArg zi eyy3.symm))
        have Iy3 : ir y3 := by rw [eyy3]; exact (ir_toInt _)
        clear exy3
        intro xy4 exy4
        obtain ⟨y4, eyy4⟩ : ∃ q9 : Int, q9 = (divZ a2 10) := ⟨_, rfl⟩
        have hv := hv y4 eyy4
        have Ey4 : xy4 = zi y4 := exy4.trans (((z_div (rfl : zi a2 = zi a2) (by decide : (10 : Int32) = zi 10))).trans (congrArg zi eyy4.symm))
        have Iy4 : ir y4 := by rw [eyy4]; exact (ir_toInt _)
        clear exy4
        refine ⟨fun cq => ?_, fun cq => ?_, fun cq => ?_, fun cq => ?_, fun cq => ?_, fun c0 c1 c2 c3 c4 => ?_⟩
        · have hv := hv.1 ((zeq Ey4 (by decide : (1 : Int32) = zi 1) Iy4 (by decide : ir 1)).mp cq)
          refine vw_X11_pick hJ Ey3 Iy3 zrf (hJ _ _) (by decide : ((-1) : Int32) = zi (-1)) (by decide : ir (-1)) (fun xr5 r5 Er5 Ir5 hv => ?_) hv
          exact hp _ _ Er5 Ir5 hv
        · have hv := hv.2.1 ((zeq Ey4 (by decide : (2 : Int32) = zi 2) Iy4 (by decide : ir 2)).mp cq)
          refine vw_X11_pick hJ Ey3 Iy3 zrf (hJ _ _) (by decide : ((-1) : Int32) = zi (-1)) (by decide : ir (-1)) (fun xr6 r6 Er6 Ir6 hv => ?_) hv
          exact hp _ _ Er6 Ir6 hv
        · have hv := hv.2.2.1 ((zeq Ey4 (by decide : (3 : Int32) = zi 3) Iy4 (by decide : ir 3)).mp cq)
          refine vw_X11_pick hJ Ey3 Iy3 zrf (hJ _ _) (by decide : ((-1) : Int32) = zi (-1)) (by decide : ir (-1)) (fun xr7 r7 Er7 Ir7 hv => ?_) hv
          exact hp _ _ Er7 Ir7 hv
        · have hv := hv.2.2.2.1 ((zeq Ey4 (by decide : (4 : Int32) = zi 4) Iy4 (by decide : ir 4)).mp cq)
          refine vw_X11_pick hJ Ey3 Iy3 zrf (hJ _ _) (by decide : ((-1) : Int32) = zi (-1)) (by decide : ir (-1)) (fun xr8 r8 Er8 Ir8 hv => ?_) hv
          exact hp _ _ Er8 Ir8 hv
        · have hv := hv.2.2.2.2.1 ((zeq Ey4 (by decide : (5 : Int32) = zi 5) Iy4 (by decide : ir 5)).mp cq)
          refine vw_X11_pick hJ Ey3 Iy3 zrf (hJ _ _) (by decide : ((-1) : Int32) = zi (-1)) (by decide : ir (-1)) (fun xr9 r9 Er9 Ir9 hv => ?_) hv
          exact hp _ _ Er9 Ir9 hv
        · have hv := hv.2.2.2.2.2 (fun q => c0 ((zeq Ey4 (by decide : (1 : Int32) = zi 1) Iy4 (by decide : ir 1)).mpr q)) (fun q => c1 ((zeq Ey4 (by decide : (2 : Int32) = zi 2) Iy4 (by decide : ir 2)).mpr q)) (fun q => c2 ((zeq Ey4 (by decide : (3 : Int32) = zi 3) Iy4 (by decide : ir 3)).mpr q)) (fun q => c3 ((zeq Ey4 (by decide : (4 : Int32) = zi 4) Iy4 (by decide : ir 4)).mpr q)) (fun q => c4 ((zeq Ey4 (by decide : (5 : Int32) = zi 5) Iy4 (by decide : ir 5)).mpr q))
          exact hp _ _ (by decide : ((-1) : Int32) = zi (-1)) (by decide : ir (-1)) hv
      · have hv := hv.2 (fun q => cq ((zle (by decide : (10 : Int32) = zi 10) (rfl : zi a2 = zi a2) (by decide : ir 10) ia2).mpr q))
        refine vw_X11_houseFigure hJ (rfl : zi a2 = zi a2) ia2 (fun xr10 r10 Er10 Ir10 hv => ?_) hv
        exact hp _ _ Er10 Ir10 hv
    · have hv := hv.2 (fun q => cq ((zlt (rfl : zi a2 = zi a2) (by decide : (100 : Int32) = zi 100) ia2 (by decide : ir 100)).mpr q))
      obtain ⟨g11, hv⟩ := hv
      refine vw_X11_pick hJ (zs (rfl : zi a2 = zi a2) (by decide : (100 : Int32) = zi 100)) g11 zrf (hJ _ _) (by decide : ((-1) : Int32) = zi (-1)) (by decide : ir (-1)) (fun xr12 r12 Er12 Ir12 hv => ?_) hv
      exact hp _ _ Er12 Ir12 hv
def v_X11_eveningAt (J : mJ) (a1 : Int) (post' : Option Nat → mJ → Prop) : Prop := v_X11_houseAt J a1 (fun r1 => (r1 = none → post' none J) ∧ (∀ q2 : Nat, r1 = some q2 → (0 ≤ a1 ∧ a1 < 2) ∧ (¬ (J (94 + 17 * a1.toNat) 1) = 0 → (0 ≤ a1 ∧ a1 < 2) ∧ post' (some (94 + 17 * a1.toNat)) J) ∧ ((J (94 + 17 * a1.toNat) 1) = 0 → (0 ≤ a1 ∧ a1 < 2) ∧ v_X2_walkAll J (94 + 17 * a1.toNat) (5 + 19 * a1.toNat) (fun J6 => (0 ≤ a1 ∧ a1 < 2) ∧ post' (some (94 + 17 * a1.toNat)) J6))))
theorem vw_X11_eveningAt {J : mJ} {xa1 : Int32} {a1 : Int} (hJ : irm J)  (ea1 : xa1 = zi a1) (ia1 : ir a1) {post : Option Nat → mI → Prop} {post' : Option Nat → mJ → Prop} (hp : ∀ (r : Option Nat) (J1 : mJ), irm J1 → post' r J1 → post r (zz J1)) (hv : v_X11_eveningAt J a1 post') : w_X11_eveningAt (zz J) xa1 post := by
  subst ea1
  unfold v_X11_eveningAt at hv
  unfold w_X11_eveningAt
  refine vw_X11_houseAt hJ (rfl : zi a1 = zi a1) ia1 (fun r1  hv => ?_) hv
  refine ⟨fun cq => ?_, fun q2 cq => ?_⟩
  · have hv := hv.1 cq
    exact hp _ _ hJ hv
  · have hv := hv.2 q2 cq
    obtain ⟨g3, hv⟩ := hv
    refine ⟨zvp (rfl : zi a1 = zi a1) ia1 g3.1 g3.2, ?_⟩
    try simp only [zcl (rfl : zi a1 = zi a1) ia1 g3.1]
    refine ⟨fun cq => ?_, fun cq => ?_⟩
    · have hv := hv.1 (fun q => cq ((zeq zrf (by decide : (0 : Int32) = zi 0) (hJ _ _) (by decide : ir 0)).mpr q))
      obtain ⟨g4, hv⟩ := hv
      refine ⟨zvp (rfl : zi a1 = zi a1) ia1 g4.1 g4.2, ?_⟩
      try simp only [zcl (rfl : zi a1 = zi a1) ia1 g4.1]
      exact hp _ _ hJ hv
    · have hv := hv.2 ((zeq zrf (by decide : (0 : Int32) = zi 0) (hJ _ _) (by decide : ir 0)).mp cq)
      obtain ⟨g5, hv⟩ := hv
      refine ⟨zvp (rfl : zi a1 = zi a1) ia1 g5.1 g5.2, ?_⟩
      try simp only [zcl (rfl : zi a1 = zi a1) ia1 g5.1]
      refine vw_X2_walkAll hJ  (fun J6 hJ hv => ?_) hv
      obtain ⟨g7, hv⟩ := hv
      refine ⟨zvp (rfl : zi a1 = zi a1) ia1 g7.1 g7.2, ?_⟩
      try simp only [zcl (rfl : zi a1 = zi a1) ia1 g7.1]
      exact hp _ _ hJ hv
def v_X11_person (J : mJ) (a1 : Int) (a2 : Int) (a3 : Int) (post' : Int → mJ → Prop) : Prop := v_X11_eveningAt J a1 (fun r1 J2 => (r1 = none → post' (-2) J2) ∧ (∀ q3 : Nat, r1 = some q3 → v_X3_hasPerson J2 (hE q3) a2 (fun b4 => (b4 = true → (a3 < 100 → (a3 < 10 → (a3 = 0 → (0 ≤ a2 ∧ a2 < 6) ∧ post' (J2 ((hE q3) + 4) a2.toNat) J2) ∧ (a3 = 1 → (0 ≤ a2 ∧ a2 < 6) ∧ post' (J2 ((hE q3) + 5) a2.toNat) J2) ∧ (a3 = 2 → (0 ≤ a2 ∧ a2 < 6) ∧ post' (J2 ((hE q3) + 6) a2.toNat) J2) ∧ (a3 = 3 → (0 ≤ a2 ∧ a2 < 6) ∧ post' (J2 ((hE q3) + 7) a2.toNat) J2) ∧ (a3 = 4 → (0 ≤ a2 ∧ a2 < 6) ∧ post' (J2 ((hE q3) + 8) a2.toNat) J2) ∧ (a3 = 5 → (0 ≤ a2 ∧ a2 < 6) ∧ post' (J2 ((hE q3) + 9) a2.toNat) J2) ∧ (a3 = 6 → (0 ≤ a2 ∧ a2 < 6) ∧ post' (J2 (q3 + 10) a2.toNat) J2) ∧ (a3 = 7 → v_X2_spotAt J2 q3 (hE q3) a2 99 (fun r12 => post' r12 J2)) ∧ (¬ a3 = 0 → ¬ a3 = 1 → ¬ a3 = 2 → ¬ a3 = 3 → ¬ a3 = 4 → ¬ a3 = 5 → ¬ a3 = 6 → ¬ a3 = 7 → post' (-2) J2)) ∧ (¬ a3 < 10 → ir (a3 - 10) ∧ (0 ≤ a2 ∧ a2 < 6) ∧ ((J2 ((hE q3) + 9) a2.toNat) ≤ (a3 - 10) → post' (-2) J2) ∧ (¬ (J2 ((hE q3) + 9) a2.toNat) ≤ (a3 - 10) → ir (a3 - 10) ∧ v_X3_goalOf J2 (hE q3) a2 (a3 - 10) (fun r16 => post' r16 J2)))) ∧ (¬ a3 < 100 → (200 ≤ a3 → post' (-2) J2) ∧ (¬ 200 ≤ a3 → ir (a3 - 100) ∧ v_X3_shoeAt J2 (hE q3) a2 (a3 - 100) (fun r18 => post' r18 J2)))) ∧ (b4 = false → post' (-2) J2))))
theorem vw_X11_person {J : mJ} {xa1 : Int32} {a1 : Int} {xa2 : Int32} {a2 : Int} {xa3 : Int32} {a3 : Int} (hJ : irm J)  (ea1 : xa1 = zi a1) (ia1 : ir a1) (ea2 : xa2 = zi a2) (ia2 : ir a2) (ea3 : xa3 = zi a3) (ia3 : ir a3) {post : Int32 → mI → Prop} {post' : Int → mJ → Prop} (hp : ∀ (x : Int32) (r : Int) (J1 : mJ), x = zi r → ir r → irm J1 → post' r J1 → post x (zz J1)) (hv : v_X11_person J a1 a2 a3 post') : w_X11_person (zz J) xa1 xa2 xa3 post := by
  subst ea1
  subst ea2
  subst ea3
  unfold v_X11_person at hv
  unfold w_X11_person
  refine vw_X11_eveningAt hJ (rfl : zi a1 = zi a1) ia1 (fun r1 J2 hJ hv => ?_) hv
  refine ⟨fun cq => ?_, fun q3 cq => ?_⟩
  · have hv := hv.1 cq
    exact hp _ _ _ (by decide : ((-2) : Int32) = zi (-2)) (by decide : ir (-2)) hJ hv
  · have hv := hv.2 q3 cq
    refine vw_X3_hasPerson hJ (rfl : zi a2 = zi a2) ia2 (fun b4  hv => ?_) hv
    refine ⟨fun cq => ?_, fun cq => ?_⟩
    · have hv := hv.1 cq
      refine ⟨fun cq => ?_, fun cq => ?_⟩
      · have hv := hv.1 ((zlt (rfl : zi a3 = zi a3) (by decide : (100 : Int32) = zi 100) ia3 (by decide : ir 100)).mp cq)
        refine ⟨fun cq => ?_, fun cq => ?_⟩
        · have hv := hv.1 ((zlt (rfl : zi a3 = zi a3) (by decide : (10 : Int32) = zi 10) ia3 (by decide : ir 10)).mp cq)
          refine ⟨fun cq => ?_, fun cq => ?_, fun cq => ?_, fun cq => ?_, fun cq => ?_, fun cq => ?_, fun cq => ?_, fun cq => ?_, fun c0 c1 c2 c3 c4 c5 c6 c7 => ?_⟩
          · have hv := hv.1 ((zeq (rfl : zi a3 = zi a3) (by decide : (0 : Int32) = zi 0) ia3 (by decide : ir 0)).mp cq)
            obtain ⟨g5, hv⟩ := hv
            refine ⟨zvp (rfl : zi a2 = zi a2) ia2 g5.1 g5.2, ?_⟩
            exact hp _ _ _ (zrd (rfl : zi a2 = zi a2) ia2 g5.1) (hJ _ _) hJ hv
          · have hv := hv.2.1 ((zeq (rfl : zi a3 = zi a3) (by decide : (1 : Int32) = zi 1) ia3 (by decide : ir 1)).mp cq)
            obtain ⟨g6, hv⟩ := hv
            refine ⟨zvp (rfl : zi a2 = zi a2) ia2 g6.1 g6.2, ?_⟩
            exact hp _ _ _ (zrd (rfl : zi a2 = zi a2) ia2 g6.1) (hJ _ _) hJ hv
          · have hv := hv.2.2.1 ((zeq (rfl : zi a3 = zi a3) (by decide : (2 : Int32) = zi 2) ia3 (by decide : ir 2)).mp cq)
            obtain ⟨g7, hv⟩ := hv
            refine ⟨zvp (rfl : zi a2 = zi a2) ia2 g7.1 g7.2, ?_⟩
            exact hp _ _ _ (zrd (rfl : zi a2 = zi a2) ia2 g7.1) (hJ _ _) hJ hv
          · have hv := hv.2.2.2.1 ((zeq (rfl : zi a3 = zi a3) (by decide : (3 : Int32) = zi 3) ia3 (by decide : ir 3)).mp cq)
            obtain ⟨g8, hv⟩ := hv
            refine ⟨zvp (rfl : zi a2 = zi a2) ia2 g8.1 g8.2, ?_⟩
            exact hp _ _ _ (zrd (rfl : zi a2 = zi a2) ia2 g8.1) (hJ _ _) hJ hv
          · have hv := hv.2.2.2.2.1 ((zeq (rfl : zi a3 = zi a3) (by decide : (4 : Int32) = zi 4) ia3 (by decide : ir 4)).mp cq)
            obtain ⟨g9, hv⟩ := hv
            refine ⟨zvp (rfl : zi a2 = zi a2) ia2 g9.1 g9.2, ?_⟩
            exact hp _ _ _ (zrd (rfl : zi a2 = zi a2) ia2 g9.1) (hJ _ _) hJ hv
          · have hv := hv.2.2.2.2.2.1 ((zeq (rfl : zi a3 = zi a3) (by decide : (5 : Int32) = zi 5) ia3 (by decide : ir 5)).mp cq)
            obtain ⟨g10, hv⟩ := hv
            refine ⟨zvp (rfl : zi a2 = zi a2) ia2 g10.1 g10.2, ?_⟩
            exact hp _ _ _ (zrd (rfl : zi a2 = zi a2) ia2 g10.1) (hJ _ _) hJ hv
          · have hv := hv.2.2.2.2.2.2.1 ((zeq (rfl : zi a3 = zi a3) (by decide : (6 : Int32) = zi 6) ia3 (by decide : ir 6)).mp cq)
            obtain ⟨g11, hv⟩ := hv
            refine ⟨zvp (rfl : zi a2 = zi a2) ia2 g11.1 g11.2, ?_⟩
            exact hp _ _ _ (zrd (rfl : zi a2 = zi a2) ia2 g11.1) (hJ _ _) hJ hv
          · have hv := hv.2.2.2.2.2.2.2.1 ((zeq (rfl : zi a3 = zi a3) (by decide : (7 : Int32) = zi 7) ia3 (by decide : ir 7)).mp cq)
            refine vw_X2_spotAt hJ (rfl : zi a2 = zi a2) ia2 (by decide : (99 : Int32) = zi 99) (by decide : ir 99) (fun xr12 r12 Er12 Ir12 hv => ?_) hv
            exact hp _ _ _ Er12 Ir12 hJ hv
          · have hv := hv.2.2.2.2.2.2.2.2 (fun q => c0 ((zeq (rfl : zi a3 = zi a3) (by decide : (0 : Int32) = zi 0) ia3 (by decide : ir 0)).mpr q)) (fun q => c1 ((zeq (rfl : zi a3 = zi a3) (by decide : (1 : Int32) = zi 1) ia3 (by decide : ir 1)).mpr q)) (fun q => c2 ((zeq (rfl : zi a3 = zi a3) (by decide : (2 : Int32) = zi 2) ia3 (by decide : ir 2)).mpr q)) (fun q => c3 ((zeq (rfl : zi a3 = zi a3) (by decide : (3 : Int32) = zi 3) ia3 (by decide : ir 3)).mpr q)) (fun q => c4 ((zeq (rfl : zi a3 = zi a3) (by decide : (4 : Int32) = zi 4) ia3 (by decide : ir 4)).mpr q)) (fun q => c5 ((zeq (rfl : zi a3 = zi a3) (by decide : (5 : Int32) = zi 5) ia3 (by decide : ir 5)).mpr q)) (fun q => c6 ((zeq (rfl : zi a3 = zi a3) (by decide : (6 : Int32) = zi 6) ia3 (by decide : ir 6)).mpr q)) (fun q => c7 ((zeq (rfl : zi a3 = zi a3) (by decide : (7 : Int32) = zi 7) ia3 (by decide : ir 7)).mpr q))
            exact hp _ _ _ (by decide : ((-2) : Int32) = zi (-2)) (by decide : ir (-2)) hJ hv
        · have hv := hv.2 (fun q => cq ((zlt (rfl : zi a3 = zi a3) (by decide : (10 : Int32) = zi 10) ia3 (by decide : ir 10)).mpr q))
          obtain ⟨g13, hv⟩ := hv
          obtain ⟨g14, hv⟩ := hv
          refine ⟨zvp (rfl : zi a2 = zi a2) ia2 g14.1 g14.2, ?_⟩
          refine ⟨fun cq => ?_, fun cq => ?_⟩
          · have hv := hv.1 ((zle (zrd (rfl : zi a2 = zi a2) ia2 g14.1) (zs (rfl : zi a3 = zi a3) (by decide : (10 : Int32) = zi 10)) (hJ _ _) g13).mp cq)
            exact hp _ _ _ (by decide : ((-2) : Int32) = zi (-2)) (by decide : ir (-2)) hJ hv
          · have hv := hv.2 (fun q => cq ((zle (zrd (rfl : zi a2 = zi a2) ia2 g14.1) (zs (rfl : zi a3 = zi a3) (by decide : (10 : Int32) = zi 10)) (hJ _ _) g13).mpr q))
            obtain ⟨g15, hv⟩ := hv
            refine vw_X3_goalOf hJ (rfl : zi a2 = zi a2) ia2 (zs (rfl : zi a3 = zi a3) (by decide : (10 : Int32) = zi 10)) g15 (fun xr16 r16 Er16 Ir16 hv => ?_) hv
            exact hp _ _ _ Er16 Ir16 hJ hv
      · have hv := hv.2 (fun q => cq ((zlt (rfl : zi a3 = zi a3) (by decide : (100 : Int32) = zi 100) ia3 (by decide : ir 100)).mpr q))
        refine ⟨fun cq => ?_, fun cq => ?_⟩
        · have hv := hv.1 ((zle (by decide : (200 : Int32) = zi 200) (rfl : zi a3 = zi a3) (by decide : ir 200) ia3).mp cq)
          exact hp _ _ _ (by decide : ((-2) : Int32) = zi (-2)) (by decide : ir (-2)) hJ hv
        · have hv := hv.2 (fun q => cq ((zle (by decide : (200 : Int32) = zi 200) (rfl : zi a3 = zi a3) (by decide : ir 200) ia3).mpr q))
          obtain ⟨g17, hv⟩ := hv
          refine vw_X3_shoeAt hJ (rfl : zi a2 = zi a2) ia2 (zs (rfl : zi a3 = zi a3) (by decide : (100 : Int32) = zi 100)) g17 (fun xr18 r18 Er18 Ir18 hv => ?_) hv
          exact hp _ _ _ Er18 Ir18 hJ hv
    · have hv := hv.2 cq
      exact hp _ _ _ (by decide : ((-2) : Int32) = zi (-2)) (by decide : ir (-2)) hJ hv
