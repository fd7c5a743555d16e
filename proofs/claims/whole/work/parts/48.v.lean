def v_X12_house (J : mJ) (o : Nat) (a1 : Int) (a2 : Int) (post' : Int → mJ → Prop) : Prop := v_X12_isHouse J o a1 (fun b1 J2 => (b1 = true → v_X12_isIn a2 0 4 (fun b3 => (b3 = false → v_X12_of J2 o 0 (fun r4 => ir (99 + r4) ∧ v_X12_isIn a2 100 (99 + r4) (fun b6 => (b6 = false → ∀ y7, y7 = (remZ a2 10) → v_X12_isIn a2 10 29 (fun b8 => (b8 = false → v_X12_isIn a2 30 59 (fun b9 => (b9 = false → post' (-1) J2) ∧ (b9 = true → v_X12_of J2 o 4 (fun r10 => (r10 ≤ y7 → post' (-1) J2) ∧ (¬ r10 ≤ y7 → ir (3 * y7) ∧ ir (125 + (3 * y7)) ∧ ir ((125 + (3 * y7)) + (divZ a2 10)) ∧ ir (((125 + (3 * y7)) + (divZ a2 10)) - 3) ∧ v_X12_of J2 o (((125 + (3 * y7)) + (divZ a2 10)) - 3) (fun r15 => post' r15 J2)))))) ∧ (b8 = true → v_X12_isFlat J2 o y7 (fun b16 => (b16 = false → post' (-1) J2) ∧ (b16 = true → ir (2 * y7) ∧ ir (29 + (2 * y7)) ∧ ir ((29 + (2 * y7)) + (divZ a2 10)) ∧ ir (((29 + (2 * y7)) + (divZ a2 10)) - 1) ∧ v_X12_of J2 o (((29 + (2 * y7)) + (divZ a2 10)) - 1) (fun r21 => post' r21 J2)))))) ∧ (b6 = true → ir (5 + a2) ∧ ir ((5 + a2) - 100) ∧ v_X12_of J2 o ((5 + a2) - 100) (fun r24 => post' r24 J2))))) ∧ (b3 = true → v_X12_of J2 o a2 (fun r25 => post' r25 J2)))) ∧ (b1 = false → post' (-1) J2))
theorem vw_X12_house {J : mJ} {o : Nat} {xa1 : Int32} {a1 : Int} {xa2 : Int32} {a2 : Int} (hJ : irm J)   (ea1 : xa1 = zi a1) (ia1 : ir a1) (ea2 : xa2 = zi a2) (ia2 : ir a2) {post : Int32 → mI → Prop} {post' : Int → mJ → Prop} (hp : ∀ (x : Int32) (r : Int) (J1 : mJ), x = zi r → ir r → irm J1 → post' r J1 → post x (zz J1)) (hv : v_X12_house J o a1 a2 post') : w_X12_house (zz J) o xa1 xa2 post := by
  subst ea1
  subst ea2
  unfold v_X12_house at hv
  unfold w_X12_house
  refine vw_X12_isHouse hJ (rfl : zi a1 = zi a1) ia1 (fun b1 J2 hJ hv => ?_) hv
  refine ⟨fun cq => ?_, fun cq => ?_⟩
  · have hv := hv.1 cq
    refine vw_X12_isIn (rfl : zi a2 = zi a2) ia2 (by decide : (0 : Int32) = zi 0) (by decide : ir 0) (by decide : (4 : Int32) = zi 4) (by decide : ir 4) (fun b3  hv => ?_) hv
    refine ⟨fun cq => ?_, fun cq => ?_⟩
    · have hv := hv.1 cq
      refine vw_X12_of hJ (by decide : (0 : Int32) = zi 0) (by decide : ir 0) (fun xr4 r4 Er4 Ir4 hv => ?_) hv
      obtain ⟨g5, hv⟩ := hv
      refine vw_X12_isIn (rfl : zi a2 = zi a2) ia2 (by decide : (100 : Int32) = zi 100) (by decide : ir 100) (za (by decide : (99 : Int32) = zi 99) Er4) g5 (fun b6  hv => ?_) hv
      refine ⟨fun cq => ?_, fun cq => ?_⟩
      · have hv := hv.1 cq
        intro xy7 exy7
        obtain ⟨y7, eyy7⟩ : ∃ q9 : Int, q9 = (remZ a2 10) := ⟨_, rfl⟩
        have hv := hv y7 eyy7
        have Ey7 : xy7 = zi y7 := exy7.trans (((z_rem (rfl : zi a2 = zi a2) (by decide : (10 : Int32) = zi 10))).trans (congrArg zi eyy7.symm))
        have Iy7 : ir y7 := by rw [eyy7]; exact (ir_toInt _)
        clear exy7
        refine vw_X12_isIn (rfl : zi a2 = zi a2) ia2 (by decide : (10 : Int32) = zi 10) (by decide : ir 10) (by decide : (29 : Int32) = zi 29) (by decide : ir 29) (fun b8  hv => ?_) hv
        refine ⟨fun cq => ?_, fun cq => ?_⟩
        · have hv := hv.1 cq
          refine vw_X12_isIn (rfl : zi a2 = zi a2) ia2 (by decide : (30 : Int32) = zi 30) (by decide : ir 30) (by decide : (59 : Int32) = zi 59) (by decide : ir 59) (fun b9  hv => ?_) hv
          refine ⟨fun cq => ?_, fun cq => ?_⟩
          · have hv := hv.1 cq
            exact hp _ _ _ (by decide : ((-1) : Int32) = zi (-1)) (by decide : ir (-1)) hJ hv
          · have hv := hv.2 cq
            refine vw_X12_of hJ (by decide : (4 : Int32) = zi 4) (by decide : ir 4) (fun xr10 r10 Er10 Ir10 hv => ?_) hv
            refine ⟨fun cq => ?_, fun cq => ?_⟩
            · have hv := hv.1 ((zle Er10 Ey7 Ir10 Iy7).mp cq)
              exact hp _ _ _ (by decide : ((-1) : Int32) = zi (-1)) (by decide : ir (-1)) hJ hv
            · have hv := hv.2 (fun q => cq ((zle Er10 Ey7 Ir10 Iy7).mpr q))
              obtain ⟨g11, hv⟩ := hv
              obtain ⟨g12, hv⟩ := hv
              obtain ⟨g13, hv⟩ := hv
              obtain ⟨g14, hv⟩ := hv
              refine vw_X12_of hJ (zs (za (za (by decide : (125 : Int32) = zi 125) (zm (by decide : (3 : Int32) = zi 3) Ey7)) (z_div (rfl : zi a2 = zi a2) (by decide : (10 : Int32) = zi 10))) (by decide : (3 : Int32) = zi 3)) g14 (fun xr15 r15 Er15 Ir15 hv => ?_) hv
              exact hp _ _ _ Er15 Ir15 hJ hv
        · have hv := hv.2 cq
          refine vw_X12_isFlat hJ Ey7 Iy7 (fun b16  hv => ?_) hv
          refine ⟨fun cq => ?_, fun cq => ?_⟩
          · have hv := hv.1 cq
            exact hp _ _ _ (by decide : ((-1) : Int32) = zi (-1)) (by decide : ir (-1)) hJ hv
          · have hv := hv.2 cq
            obtain ⟨g17, hv⟩ := hv
            obtain ⟨g18, hv⟩ := hv
            obtain ⟨g19, hv⟩ := hv
            obtain ⟨g20, hv⟩ := hv
            refine vw_X12_of hJ (zs (za (za (by decide : (29 : Int32) = zi 29) (zm (by decide : (2 : Int32) = zi 2) Ey7)) (z_div (rfl : zi a2 = zi a2) (by decide : (10 : Int32) = zi 10))) (by decide : (1 : Int32) = zi 1)) g20 (fun xr21 r21 Er21 Ir21 hv => ?_) hv
            exact hp _ _ _ Er21 Ir21 hJ hv
      · have hv := hv.2 cq
        obtain ⟨g22, hv⟩ := hv
        obtain ⟨g23, hv⟩ := hv
        refine vw_X12_of hJ (zs (za (by decide : (5 : Int32) = zi 5) (rfl : zi a2 = zi a2)) (by decide : (100 : Int32) = zi 100)) g23 (fun xr24 r24 Er24 Ir24 hv => ?_) hv
        exact hp _ _ _ Er24 Ir24 hJ hv
    · have hv := hv.2 cq
      refine vw_X12_of hJ (rfl : zi a2 = zi a2) ia2 (fun xr25 r25 Er25 Ir25 hv => ?_) hv
      exact hp _ _ _ Er25 Ir25 hJ hv
  · have hv := hv.2 cq
    exact hp _ _ _ (by decide : ((-1) : Int32) = zi (-1)) (by decide : ir (-1)) hJ hv
def v_X12_shoeOf_26 (J : mJ) (o : Nat) (a1 : Int) (a2 : Int) (post' : Int → Prop) (v3 : Int) (v4 : Int) (v5 : Int) : Prop := ∀ ZZ : (Int → Int → Int → Prop), (∀ (v3 : Int) (v4 : Int) (v5 : Int), (v_X12_of J o 4 (fun r2 => (r2 ≤ v5 → post' v3) ∧ (¬ r2 ≤ v5 → ir (3 * v5) ∧ ir (125 + (3 * v5)) ∧ ∀ y5, y5 = (125 + (3 * v5)) → v_X12_of J o y5 (fun r6 => (¬ r6 = a1 → ir (v5 + 1) ∧ ∀ y8, y8 = v5 + 1 → ZZ v3 v4 y8) ∧ (r6 = a1 → ir (y5 + 1) ∧ v_X12_of J o (y5 + 1) (fun r10 => (a2 < r10 → ir (v5 + 1) ∧ ∀ y12, y12 = v5 + 1 → ZZ v3 v4 y12) ∧ (¬ a2 < r10 → ir (y5 + 1) ∧ v_X12_of J o (y5 + 1) (fun r14 => (v4 ≤ r14 → ir (y5 + 1) ∧ v_X12_of J o (y5 + 1) (fun r16 => ir (y5 + 2) ∧ v_X12_of J o (y5 + 2) (fun r18 => ir (v5 + 1) ∧ ∀ y20, y20 = v5 + 1 → ZZ r18 r16 y20))) ∧ (¬ v4 ≤ r14 → ir (v5 + 1) ∧ ∀ y22, y22 = v5 + 1 → ZZ v3 v4 y22))))))))) → ZZ v3 v4 v5) → ZZ v3 v4 v5
theorem vw_X12_shoeOf_26 {J : mJ} {o : Nat} {a1 : Int} {a2 : Int} (hJ : irm J) (ia1 : ir a1) (ia2 : ir a2) {post : Int32 → Prop} {post' : Int → Prop} (hp : ∀ (x : Int32) (r : Int), x = zi r → ir r → post' r → post x) {xv3 : Int32} {v3 : Int} {xv4 : Int32} {v4 : Int} {xv5 : Int32} {v5 : Int} (ev3 : xv3 = zi v3) (iv3 : ir v3) (ev4 : xv4 = zi v4) (iv4 : ir v4) (ev5 : xv5 = zi v5) (iv5 : ir v5) (hv : v_X12_shoeOf_26 J o a1 a2 post' v3 v4 v5) : w_X12_shoeOf_26 (zz J) o (zi a1) (zi a2) post xv3 xv4 xv5 := by
  subst ev3
  subst ev4
  subst ev5
  unfold v_X12_shoeOf_26 at hv
  unfold w_X12_shoeOf_26
  intro ZZ hZ
  refine hv (fun v3 v4 v5 => ∀ (xv3 : Int32) (xv4 : Int32) (xv5 : Int32), xv3 = zi v3 → ir v3 → xv4 = zi v4 → ir v4 → xv5 = zi v5 → ir v5 → ZZ xv3 xv4 xv5) ?_ _ _ _ rfl iv3 rfl iv4 rfl iv5
  clear hv iv3 iv4 iv5
  intro v3 v4 v5 hv xv3 xv4 xv5 ev3 iv3 ev4 iv4 ev5 iv5
  subst ev3
  subst ev4
  subst ev5
  refine hZ _ _ _ ?_
  refine vw_X12_of hJ (by decide : (4 : Int32) = zi 4) (by decide : ir 4) (fun xr2 r2 Er2 Ir2 hv => ?_) hv
  refine ⟨fun cq => ?_, fun cq => ?_⟩
  · have hv := hv.1 ((zle Er2 (rfl : zi v5 = zi v5) Ir2 iv5).mp cq)
    exact hp _ _ (rfl : zi v3 = zi v3) iv3 hv
  · have hv := hv.2 (fun q => cq ((zle Er2 (rfl : zi v5 = zi v5) Ir2 iv5).mpr q))
    obtain ⟨g3, hv⟩ := hv
    obtain ⟨g4, hv⟩ := hv
    intro xy5 exy5
    obtain ⟨y5, eyy5⟩ : ∃ q9 : Int, q9 = (125 + (3 * v5)) := ⟨_, rfl⟩
    have hv := hv y5 eyy5
    have Ey5 : xy5 = zi y5 := exy5.trans (((za (by decide : (125 : Int32) = zi 125) (zm (by decide : (3 : Int32) = zi 3) (rfl : zi v5 = zi v5)))).trans (congrArg zi eyy5.symm))
    have Iy5 : ir y5 := by rw [eyy5]; exact g4
    clear exy5
    refine vw_X12_of hJ Ey5 Iy5 (fun xr6 r6 Er6 Ir6 hv => ?_) hv
    refine ⟨fun cq => ?_, fun cq => ?_⟩
    · have hv := hv.1 (fun q => cq ((zeq Er6 (rfl : zi a1 = zi a1) Ir6 ia1).mpr q))
      obtain ⟨g7, hv⟩ := hv
      intro xy8 exy8
      obtain ⟨y8, eyy8⟩ : ∃ q9 : Int, q9 = v5 + 1 := ⟨_, rfl⟩
      have hv := hv y8 eyy8
      have Ey8 : xy8 = zi y8 := exy8.trans (((za (rfl : zi v5 = zi v5) (by decide : (1 : Int32) = zi 1))).trans (congrArg zi eyy8.symm))
      have Iy8 : ir y8 := by rw [eyy8]; exact g7
      clear exy8
      exact hv _ _ _ (rfl : zi v3 = zi v3) iv3 (rfl : zi v4 = zi v4) iv4 Ey8 Iy8
    · have hv := hv.2 ((zeq Er6 (rfl : zi a1 = zi a1) Ir6 ia1).mp cq)
      obtain ⟨g9, hv⟩ := hv
      refine vw_X12_of hJ (za Ey5 (by decide : (1 : Int32) = zi 1)) g9 (fun xr10 r10 Er10 Ir10 hv => ?_) hv
      refine ⟨fun cq => ?_, fun cq => ?_⟩
      · have hv := hv.1 ((zlt (rfl : zi a2 = zi a2) Er10 ia2 Ir10).mp cq)
        obtain ⟨g11, hv⟩ := hv
        intro xy12 exy12
        obtain ⟨y12, eyy12⟩ : ∃ q9 : Int, q9 = v5 + 1 := ⟨_, rfl⟩
        have hv := hv y12 eyy12
        have Ey12 : xy12 = zi y12 := exy12.trans (((za (rfl : zi v5 = zi v5) (by decide : (1 : Int32) = zi 1))).trans (congrArg zi eyy12.symm))
        have Iy12 : ir y12 := by rw [eyy12]; exact g11
        clear exy12
        exact hv _ _ _ (rfl : zi v3 = zi v3) iv3 (rfl : zi v4 = zi v4) iv4 Ey12 Iy12
      · have hv := hv.2 (fun q => cq ((zlt (rfl : zi a2 = zi a2) Er10 ia2 Ir10).mpr q))
        obtain ⟨g13, hv⟩ := hv
        refine vw_X12_of hJ (za Ey5 (by decide : (1 : Int32) = zi 1)) g13 (fun xr14 r14 Er14 Ir14 hv => ?_) hv
        refine ⟨fun cq => ?_, fun cq => ?_⟩
        · have hv := hv.1 ((zle (rfl : zi v4 = zi v4) Er14 iv4 Ir14).mp cq)
          obtain ⟨g15, hv⟩ := hv
          refine vw_X12_of hJ (za Ey5 (by decide : (1 : Int32) = zi 1)) g15 (fun xr16 r16 Er16 Ir16 hv => ?_) hv
          obtain ⟨g17, hv⟩ := hv
          refine vw_X12_of hJ (za Ey5 (by decide : (2 : Int32) = zi 2)) g17 (fun xr18 r18 Er18 Ir18 hv => ?_) hv
          obtain ⟨g19, hv⟩ := hv
          intro xy20 exy20
          obtain ⟨y20, eyy20⟩ : ∃ q9 : Int, q9 = v5 + 1 := ⟨_, rfl⟩
          have hv := hv y20 eyy20
          have Ey20 : xy20 = zi y20 := exy20.trans (((za (rfl : zi v5 = zi v5) (by decide : (1 : Int32) = zi 1))).trans (congrArg zi eyy20.symm))
          have Iy20 : ir y20 := by rw [eyy20]; exact g19
          clear exy20
          exact hv _ _ _ Er18 Ir18 Er16 Ir16 Ey20 Iy20
        · have hv := hv.2 (fun q => cq ((zle (rfl : zi v4 = zi v4) Er14 iv4 Ir14).mpr q))
          obtain ⟨g21, hv⟩ := hv
          intro xy22 exy22
          obtain ⟨y22, eyy22⟩ : ∃ q9 : Int, q9 = v5 + 1 := ⟨_, rfl⟩
          have hv := hv y22 eyy22
          have Ey22 : xy22 = zi y22 := exy22.trans (((za (rfl : zi v5 = zi v5) (by decide : (1 : Int32) = zi 1))).trans (congrArg zi eyy22.symm))
          have Iy22 : ir y22 := by rw [eyy22]; exact g21
          clear exy22
          exact hv _ _ _ (rfl : zi v3 = zi v3) iv3 (rfl : zi v4 = zi v4) iv4 Ey22 Iy22
def v_X12_shoeOf (J : mJ) (o : Nat) (a1 : Int) (a2 : Int) (post' : Int → Prop) : Prop := (¬ a1 = (J o 13) → v_X12_told J o a1 0 (fun r1 => (v_X12_shoeOf_26 J o a1 a2 post') r1 (-1) 0)) ∧ (a1 = (J o 13) → post' (J o 14))
theorem vw_X12_shoeOf {J : mJ} {o : Nat} {xa1 : Int32} {a1 : Int} {xa2 : Int32} {a2 : Int} (hJ : irm J)   (ea1 : xa1 = zi a1) (ia1 : ir a1) (ea2 : xa2 = zi a2) (ia2 : ir a2) {post : Int32 → Prop} {post' : Int → Prop} (hp : ∀ (x : Int32) (r : Int), x = zi r → ir r → post' r → post x) (hv : v_X12_shoeOf J o a1 a2 post') : w_X12_shoeOf (zz J) o xa1 xa2 post := by
  subst ea1
  subst ea2
  unfold v_X12_shoeOf at hv
  unfold w_X12_shoeOf
  refine ⟨fun cq => ?_, fun cq => ?_⟩
  · have hv := hv.1 (fun q => cq ((zeq (rfl : zi a1 = zi a1) zrf ia1 (hJ _ _)).mpr q))
    refine vw_X12_told hJ (rfl : zi a1 = zi a1) ia1 (by decide : (0 : Int32) = zi 0) (by decide : ir 0) (fun xr1 r1 Er1 Ir1 hv => ?_) hv
    exact vw_X12_shoeOf_26 hJ ia1 ia2 hp Er1 Ir1 (by decide : ((-1) : Int32) = zi (-1)) (by decide : ir (-1)) (by decide : (0 : Int32) = zi 0) (by decide : ir 0) hv
  · have hv := hv.2 ((zeq (rfl : zi a1 = zi a1) zrf ia1 (hJ _ _)).mp cq)
    exact hp _ _ zrf (hJ _ _) hv
def v_X12_carpetOf_23 (J : mJ) (o : Nat) (a1 : Int) (post' : Int → Prop) (s0 : Int) (s1 : Int) : Prop := ir (s0 + s1) ∧ ∀ y4, y4 = (s0 + s1) → (y4 ≤ 9 → post' y4) ∧ (¬ y4 ≤ 9 → post' 9)
theorem vw_X12_carpetOf_23 {J : mJ} {o : Nat} {a1 : Int} (hJ : irm J) (ia1 : ir a1) {post : Int32 → Prop} {post' : Int → Prop} (hp : ∀ (x : Int32) (r : Int), x = zi r → ir r → post' r → post x) {xs0 : Int32} {s0 : Int} {xs1 : Int32} {s1 : Int} (es0 : xs0 = zi s0) (is0 : ir s0) (es1 : xs1 = zi s1) (is1 : ir s1) (hv : v_X12_carpetOf_23 J o a1 post' s0 s1) : w_X12_carpetOf_23 (zz J) o (zi a1) post xs0 xs1 := by
  subst es0
  subst es1
  unfold v_X12_carpetOf_23 at hv
  unfold w_X12_carpetOf_23
  obtain ⟨g3, hv⟩ := hv
  intro xy4 exy4
  obtain ⟨y4, eyy4⟩ : ∃ q9 : Int, q9 = (s0 + s1) := ⟨_, rfl⟩
  have hv := hv y4 eyy4
  have Ey4 : xy4 = zi y4 := exy4.trans (((za (rfl : zi s0 = zi s0) (rfl : zi s1 = zi s1))).trans (congrArg zi eyy4.symm))
  have Iy4 : ir y4 := by rw [eyy4]; exact g3
  clear exy4
  refine ⟨fun cq => ?_, fun cq => ?_⟩
  · have hv := hv.1 ((zle Ey4 (by decide : (9 : Int32) = zi 9) Iy4 (by decide : ir 9)).mp cq)
    exact hp _ _ Ey4 Iy4 hv
  · have hv := hv.2 (fun q => cq ((zle Ey4 (by decide : (9 : Int32) = zi 9) Iy4 (by decide : ir 9)).mpr q))
    exact hp _ _ (by decide : (9 : Int32) = zi 9) (by decide : ir 9) hv
def v_X12_carpetOf (J : mJ) (o : Nat) (a1 : Int) (post' : Int → Prop) : Prop := ir (5 + a1) ∧ v_X12_of J o (5 + a1) (fun r2 => (¬ a1 = (J o 18) → (v_X12_carpetOf_23 J o a1 post') r2 0) ∧ (a1 = (J o 18) → (v_X12_carpetOf_23 J o a1 post') r2 (J o 19)))
theorem vw_X12_carpetOf {J : mJ} {o : Nat} {xa1 : Int32} {a1 : Int} (hJ : irm J)   (ea1 : xa1 = zi a1) (ia1 : ir a1) {post : Int32 → Prop} {post' : Int → Prop} (hp : ∀ (x : Int32) (r : Int), x = zi r → ir r → post' r → post x) (hv : v_X12_carpetOf J o a1 post') : w_X12_carpetOf (zz J) o xa1 post := by
  subst ea1
  unfold v_X12_carpetOf at hv
  unfold w_X12_carpetOf
  obtain ⟨g1, hv⟩ := hv
  refine vw_X12_of hJ (za (by decide : (5 : Int32) = zi 5) (rfl : zi a1 = zi a1)) g1 (fun xr2 r2 Er2 Ir2 hv => ?_) hv
  refine ⟨fun cq => ?_, fun cq => ?_⟩
  · have hv := hv.1 (fun q => cq ((zeq (rfl : zi a1 = zi a1) zrf ia1 (hJ _ _)).mpr q))
    exact vw_X12_carpetOf_23 hJ ia1 hp Er2 Ir2 (by decide : (0 : Int32) = zi 0) (by decide : ir 0) hv
  · have hv := hv.2 ((zeq (rfl : zi a1 = zi a1) zrf ia1 (hJ _ _)).mp cq)
    exact vw_X12_carpetOf_23 hJ ia1 hp Er2 Ir2 zrf (hJ _ _) hv
def v_X12_loudBy (J : mJ) (o : Nat) (a1 : Int) (a2 : Int) (a3 : Int) (post' : Int → Prop) : Prop := v_X12_told J o a1 1 (fun r1 => ir (r1 + a2) ∧ v_X12_carpetOf J o a3 (fun r3 => ir ((r1 + a2) - r3) ∧ ∀ y5, y5 = ((r1 + a2) - r3) → (0 ≤ y5 → post' y5) ∧ (¬ 0 ≤ y5 → post' 0)))
theorem vw_X12_loudBy {J : mJ} {o : Nat} {xa1 : Int32} {a1 : Int} {xa2 : Int32} {a2 : Int} {xa3 : Int32} {a3 : Int} (hJ : irm J)   (ea1 : xa1 = zi a1) (ia1 : ir a1) (ea2 : xa2 = zi a2) (ia2 : ir a2) (ea3 : xa3 = zi a3) (ia3 : ir a3) {post : Int32 → Prop} {post' : Int → Prop} (hp : ∀ (x : Int32) (r : Int), x = zi r → ir r → post' r → post x) (hv : v_X12_loudBy J o a1 a2 a3 post') : w_X12_loudBy (zz J) o xa1 xa2 xa3 post := by
  subst ea1
  subst ea2
  subst ea3
  unfold v_X12_loudBy at hv
  unfold w_X12_loudBy
  refine vw_X12_told hJ (rfl : zi a1 = zi a1) ia1 (by decide : (1 : Int32) = zi 1) (by decide : ir 1) (fun xr1 r1 Er1 Ir1 hv => ?_) hv
  obtain ⟨g2, hv⟩ := hv
  refine vw_X12_carpetOf hJ (rfl : zi a3 = zi a3) ia3 (fun xr3 r3 Er3 Ir3 hv => ?_) hv
  obtain ⟨g4, hv⟩ := hv
  intro xy5 exy5
  obtain ⟨y5, eyy5⟩ : ∃ q9 : Int, q9 = ((r1 + a2) - r3) := ⟨_, rfl⟩
  have hv := hv y5 eyy5
  have Ey5 : xy5 = zi y5 := exy5.trans (((zs (za Er1 (rfl : zi a2 = zi a2)) Er3)).trans (congrArg zi eyy5.symm))
  have Iy5 : ir y5 := by rw [eyy5]; exact g4
  clear exy5
  refine ⟨fun cq => ?_, fun cq => ?_⟩
  · have hv := hv.1 ((zle (by decide : (0 : Int32) = zi 0) Ey5 (by decide : ir 0) Iy5).mp cq)
    exact hp _ _ Ey5 Iy5 hv
  · have hv := hv.2 (fun q => cq ((zle (by decide : (0 : Int32) = zi 0) Ey5 (by decide : ir 0) Iy5).mpr q))
    exact hp _ _ (by decide : (0 : Int32) = zi 0) (by decide : ir 0) hv
def v_X12_flatAt (J : mJ) (o : Nat) (a1 : Int) (post' : Int → Prop) : Prop := (¬ a1 = (J o 20) → ir (2 * a1) ∧ ir (29 + (2 * a1)) ∧ v_X12_of J o (29 + (2 * a1)) (fun r3 => post' r3)) ∧ (a1 = (J o 20) → post' (J o 21))
theorem vw_X12_flatAt {J : mJ} {o : Nat} {xa1 : Int32} {a1 : Int} (hJ : irm J)   (ea1 : xa1 = zi a1) (ia1 : ir a1) {post : Int32 → Prop} {post' : Int → Prop} (hp : ∀ (x : Int32) (r : Int), x = zi r → ir r → post' r → post x) (hv : v_X12_flatAt J o a1 post') : w_X12_flatAt (zz J) o xa1 post := by
  subst ea1
  unfold v_X12_flatAt at hv
  unfold w_X12_flatAt
  refine ⟨fun cq => ?_, fun cq => ?_⟩
  · have hv := hv.1 (fun q => cq ((zeq (rfl : zi a1 = zi a1) zrf ia1 (hJ _ _)).mpr q))
    obtain ⟨g1, hv⟩ := hv
    obtain ⟨g2, hv⟩ := hv
    refine vw_X12_of hJ (za (by decide : (29 : Int32) = zi 29) (zm (by decide : (2 : Int32) = zi 2) (rfl : zi a1 = zi a1))) g2 (fun xr3 r3 Er3 Ir3 hv => ?_) hv
    exact hp _ _ Er3 Ir3 hv
  · have hv := hv.2 ((zeq (rfl : zi a1 = zi a1) zrf ia1 (hJ _ _)).mp cq)
    exact hp _ _ zrf (hJ _ _) hv
def v_X12_isHeard_26 (J : mJ) (o : Nat) (a1 : Int) (a2 : Int) (a3 : Int) (post' : Bool → Prop) (s0 : Int) : Prop := (a2 ≤ 0 → post' false) ∧ (¬ a2 ≤ 0 → ir (2 * a1) ∧ ir (29 + (2 * a1)) ∧ ir ((29 + (2 * a1)) + 1) ∧ v_X12_of J o ((29 + (2 * a1)) + 1) (fun r9 => ir (r9 + a2) ∧ ((r9 + a2) < s0 → post' false) ∧ (¬ (r9 + a2) < s0 → post' true)))
theorem vw_X12_isHeard_26 {J : mJ} {o : Nat} {a1 : Int} {a2 : Int} {a3 : Int} (hJ : irm J) (ia1 : ir a1) (ia2 : ir a2) (ia3 : ir a3) {post : Bool → Prop} {post' : Bool → Prop} (hp : ∀ (r : Bool), post' r → post r) {xs0 : Int32} {s0 : Int} (es0 : xs0 = zi s0) (is0 : ir s0) (hv : v_X12_isHeard_26 J o a1 a2 a3 post' s0) : w_X12_isHeard_26 (zz J) o (zi a1) (zi a2) (zi a3) post xs0 := by
  subst es0
  unfold v_X12_isHeard_26 at hv
  unfold w_X12_isHeard_26
  refine ⟨fun cq => ?_, fun cq => ?_⟩
  · have hv := hv.1 ((zle (rfl : zi a2 = zi a2) (by decide : (0 : Int32) = zi 0) ia2 (by decide : ir 0)).mp cq)
    exact hp _ hv
  · have hv := hv.2 (fun q => cq ((zle (rfl : zi a2 = zi a2) (by decide : (0 : Int32) = zi 0) ia2 (by decide : ir 0)).mpr q))
    obtain ⟨g6, hv⟩ := hv
    obtain ⟨g7, hv⟩ := hv
    obtain ⟨g8, hv⟩ := hv
    refine vw_X12_of hJ (za (za (by decide : (29 : Int32) = zi 29) (zm (by decide : (2 : Int32) = zi 2) (rfl : zi a1 = zi a1))) (by decide : (1 : Int32) = zi 1)) g8 (fun xr9 r9 Er9 Ir9 hv => ?_) hv
    obtain ⟨g10, hv⟩ := hv
    refine ⟨fun cq => ?_, fun cq => ?_⟩
    · have hv := hv.1 ((zlt (za Er9 (rfl : zi a2 = zi a2)) (rfl : zi s0 = zi s0) g10 is0).mp cq)
      exact hp _ hv
    · have hv := hv.2 (fun q => cq ((zlt (za Er9 (rfl : zi a2 = zi a2)) (rfl : zi s0 = zi s0) g10 is0).mpr q))
      exact hp _ hv
def v_X12_isHeard (J : mJ) (o : Nat) (a1 : Int) (a2 : Int) (a3 : Int) (post' : Bool → Prop) : Prop := v_X12_flatAt J o a1 (fun r1 => (a3 ≤ r1 → v_X12_flatAt J o a1 (fun r2 => ir (r2 - a3) ∧ (v_X12_isHeard_26 J o a1 a2 a3 post') (r2 - a3))) ∧ (¬ a3 ≤ r1 → v_X12_flatAt J o a1 (fun r4 => ir (a3 - r4) ∧ (v_X12_isHeard_26 J o a1 a2 a3 post') (a3 - r4))))
theorem vw_X12_isHeard {J : mJ} {o : Nat} {xa1 : Int32} {a1 : Int} {xa2 : Int32} {a2 : Int} {xa3 : Int32} {a3 : Int} (hJ : irm J)   (ea1 : xa1 = zi a1) (ia1 : ir a1) (ea2 : xa2 = zi a2) (ia2 : ir a2) (ea3 : xa3 = zi a3) (ia3 : ir a3) {post : Bool → Prop} {post' : Bool → Prop} (hp : ∀ (r : Bool), post' r → post r) (hv : v_X12_isHeard J o a1 a2 a3 post') : w_X12_isHeard (zz J) o xa1 xa2 xa3 post := by
  subst ea1
  subst ea2
  subst ea3
  unfold v_X12_isHeard at hv
  unfold w_X12_isHeard
  refine vw_X12_flatAt hJ (rfl : zi a1 = zi a1) ia1 (fun xr1 r1 Er1 Ir1 hv => ?_) hv
  refine ⟨fun cq => ?_, fun cq => ?_⟩
  · have hv := hv.1 ((zle (rfl : zi a3 = zi a3) Er1 ia3 Ir1).mp cq)
    refine vw_X12_flatAt hJ (rfl : zi a1 = zi a1) ia1 (fun xr2 r2 Er2 Ir2 hv => ?_) hv
    obtain ⟨g3, hv⟩ := hv
    exact vw_X12_isHeard_26 hJ ia1 ia2 ia3 hp (zs Er2 (rfl : zi a3 = zi a3)) g3 hv
  · have hv := hv.2 (fun q => cq ((zle (rfl : zi a3 = zi a3) Er1 ia3 Ir1).mpr q))
    refine vw_X12_flatAt hJ (rfl : zi a1 = zi a1) ia1 (fun xr4 r4 Er4 Ir4 hv => ?_) hv
    obtain ⟨g5, hv⟩ := hv
    exact vw_X12_isHeard_26 hJ ia1 ia2 ia3 hp (zs (rfl : zi a3 = zi a3) Er4) g5 hv
def v_X12_ears_5 (J : mJ) (o : Nat) (a1 : Int) (a2 : Int) (post' : Int → Prop) (v3 : Int) (v4 : Int) : Prop := ∀ ZZ : (Int → Int → Prop), (∀ (v3 : Int) (v4 : Int), (v_X12_flats J o (fun r1 => (r1 ≤ v4 → post' v3) ∧ (¬ r1 ≤ v4 → v_X12_isHeard J o v4 a1 a2 (fun b2 => (b2 = false → ∀ y3, y3 = (orZ v3 0) → ir (v4 + 1) ∧ ∀ y5, y5 = v4 + 1 → ZZ y3 y5) ∧ (b2 = true → ∀ y6, y6 = (orZ v3 (shlZ 1 v4)) → ir (v4 + 1) ∧ ∀ y8, y8 = v4 + 1 → ZZ y6 y8))))) → ZZ v3 v4) → ZZ v3 v4
theorem vw_X12_ears_5 {J : mJ} {o : Nat} {a1 : Int} {a2 : Int} (hJ : irm J) (ia1 : ir a1) (ia2 : ir a2) {post : Int32 → Prop} {post' : Int → Prop} (hp : ∀ (x : Int32) (r : Int), x = zi r → ir r → post' r → post x) {xv3 : Int32} {v3 : Int} {xv4 : Int32} {v4 : Int} (ev3 : xv3 = zi v3) (iv3 : ir v3) (ev4 : xv4 = zi v4) (iv4 : ir v4) (hv : v_X12_ears_5 J o a1 a2 post' v3 v4) : w_X12_ears_5 (zz J) o (zi a1) (zi a2) post xv3 xv4 := by
  subst ev3
  subst ev4
  unfold v_X12_ears_5 at hv
  unfold w_X12_ears_5
  intro ZZ hZ
  refine hv (fun v3 v4 => ∀ (xv3 : Int32) (xv4 : Int32), xv3 = zi v3 → ir v3 → xv4 = zi v4 → ir v4 → ZZ xv3 xv4) ?_ _ _ rfl iv3 rfl iv4
  clear hv iv3 iv4
  intro v3 v4 hv xv3 xv4 ev3 iv3 ev4 iv4
  subst ev3
  subst ev4
  refine hZ _ _ ?_
  refine vw_X12_flats hJ  (fun xr1 r1 Er1 Ir1 hv => ?_) hv
  refine ⟨fun cq => ?_, fun cq => ?_⟩
  · have hv := hv.1 ((zle Er1 (rfl : zi v4 = zi v4) Ir1 iv4).mp cq)
    exact hp _ _ (rfl : zi v3 = zi v3) iv3 hv
  · have hv := hv.2 (fun q => cq ((zle Er1 (rfl : zi v4 = zi v4) Ir1 iv4).mpr q))
    refine vw_X12_isHeard hJ (rfl : zi v4 = zi v4) iv4 (rfl : zi a1 = zi a1) ia1 (rfl : zi a2 = zi a2) ia2 (fun b2  hv => ?_) hv
    refine ⟨fun cq => ?_, fun cq => ?_⟩
    · have hv := hv.1 cq
      intro xy3 exy3
      obtain ⟨y3, eyy3⟩ : ∃ q9 : Int, q9 = (orZ v3 0) := ⟨_, rfl⟩
      have hv := hv y3 eyy3
      have Ey3 : xy3 = zi y3 := exy3.trans (((z_or (rfl : zi v3 = zi v3) (by decide : (0 : Int32) = zi 0))).trans (congrArg zi eyy3.symm))
      have Iy3 : ir y3 := by rw [eyy3]; exact (ir_toInt _)
      clear exy3
      obtain ⟨g4, hv⟩ := hv
      intro xy5 exy5
      obtain ⟨y5, eyy5⟩ : ∃ q9 : Int, q9 = v4 + 1 := ⟨_, rfl⟩
      have hv := hv y5 eyy5
      have Ey5 : xy5 = zi y5 := exy5.trans (((za (rfl : zi v4 = zi v4) (by decide : (1 : Int32) = zi 1))).trans (congrArg zi eyy5.symm))
      have Iy5 : ir y5 := by rw [eyy5]; exact g4
      clear exy5
      exact hv _ _ Ey3 Iy3 Ey5 Iy5
    · have hv := hv.2 cq
      intro xy6 exy6
      obtain ⟨y6, eyy6⟩ : ∃ q9 : Int, q9 = (orZ v3 (shlZ 1 v4)) := ⟨_, rfl⟩
      have hv := hv y6 eyy6
      have Ey6 : xy6 = zi y6 := exy6.trans (((z_or (rfl : zi v3 = zi v3) (z_shl (by decide : (1 : Int32) = zi 1) (rfl : zi v4 = zi v4)))).trans (congrArg zi eyy6.symm))
      have Iy6 : ir y6 := by rw [eyy6]; exact (ir_toInt _)
      clear exy6
      obtain ⟨g7, hv⟩ := hv
      intro xy8 exy8
      obtain ⟨y8, eyy8⟩ : ∃ q9 : Int, q9 = v4 + 1 := ⟨_, rfl⟩
      have hv := hv y8 eyy8
      have Ey8 : xy8 = zi y8 := exy8.trans (((za (rfl : zi v4 = zi v4) (by decide : (1 : Int32) = zi 1))).trans (congrArg zi eyy8.symm))
      have Iy8 : ir y8 := by rw [eyy8]; exact g7
      clear exy8
      exact hv _ _ Ey6 Iy6 Ey8 Iy8
def v_X12_ears (J : mJ) (o : Nat) (a1 : Int) (a2 : Int) (post' : Int → Prop) : Prop := (v_X12_ears_5 J o a1 a2 post') 0 0
theorem vw_X12_ears {J : mJ} {o : Nat} {xa1 : Int32} {a1 : Int} {xa2 : Int32} {a2 : Int} (hJ : irm J)   (ea1 : xa1 = zi a1) (ia1 : ir a1) (ea2 : xa2 = zi a2) (ia2 : ir a2) {post : Int32 → Prop} {post' : Int → Prop} (hp : ∀ (x : Int32) (r : Int), x = zi r → ir r → post' r → post x) (hv : v_X12_ears J o a1 a2 post') : w_X12_ears (zz J) o xa1 xa2 post := by
  subst ea1
  subst ea2
  unfold v_X12_ears at hv
  unfold w_X12_ears
  exact vw_X12_ears_5 hJ ia1 ia2 hp (by decide : (0 : Int32) = zi 0) (by decide : ir 0) (by decide : (0 : Int32) = zi 0) (by decide : ir 0) hv
def v_X12_minuteOf (J : mJ) (o : Nat) (a1 : Int) (post' : Int → Prop) : Prop := (¬ a1 = (J o 15) → v_X12_told J o a1 3 (fun r1 => post' r1)) ∧ (a1 = (J o 15) → post' (J o 16))
theorem vw_X12_minuteOf {J : mJ} {o : Nat} {xa1 : Int32} {a1 : Int} (hJ : irm J)   (ea1 : xa1 = zi a1) (ia1 : ir a1) {post : Int32 → Prop} {post' : Int → Prop} (hp : ∀ (x : Int32) (r : Int), x = zi r → ir r → post' r → post x) (hv : v_X12_minuteOf J o a1 post') : w_X12_minuteOf (zz J) o xa1 post := by
  subst ea1
  unfold v_X12_minuteOf at hv
  unfold w_X12_minuteOf
  refine ⟨fun cq => ?_, fun cq => ?_⟩
  · have hv := hv.1 (fun q => cq ((zeq (rfl : zi a1 = zi a1) zrf ia1 (hJ _ _)).mpr q))
    refine vw_X12_told hJ (rfl : zi a1 = zi a1) ia1 (by decide : (3 : Int32) = zi 3) (by decide : ir 3) (fun xr1 r1 Er1 Ir1 hv => ?_) hv
    exact hp _ _ Er1 Ir1 hv
  · have hv := hv.2 ((zeq (rfl : zi a1 = zi a1) zrf ia1 (hJ _ _)).mp cq)
    exact hp _ _ zrf (hJ _ _) hv
def v_X12_latest_7 (J : mJ) (o : Nat) (a1 : Int) (a2 : Int) (post' : Int → Prop) (v3 : Int) : Prop := ∀ ZZ : (Int → Prop), (∀ (v3 : Int), ((v3 < 0 → post' (-1)) ∧ (¬ v3 < 0 → (0 ≤ v3 ∧ v3 < 640) ∧ (¬ (J (o + 5) v3.toNat) = a1 → ir (v3 + (-1)) ∧ ∀ y5, y5 = v3 + (-1) → ZZ y5) ∧ ((J (o + 5) v3.toNat) = a1 → (0 ≤ v3 ∧ v3 < 640) ∧ ((J (o + 4) v3.toNat) = a2 → ir (v3 + (-1)) ∧ ∀ y8, y8 = v3 + (-1) → ZZ y8) ∧ (¬ (J (o + 4) v3.toNat) = a2 → post' v3)))) → ZZ v3) → ZZ v3
theorem vw_X12_latest_7 {J : mJ} {o : Nat} {a1 : Int} {a2 : Int} (hJ : irm J) (ia1 : ir a1) (ia2 : ir a2) {post : Int32 → Prop} {post' : Int → Prop} (hp : ∀ (x : Int32) (r : Int), x = zi r → ir r → post' r → post x) {xv3 : Int32} {v3 : Int} (ev3 : xv3 = zi v3) (iv3 : ir v3) (hv : v_X12_latest_7 J o a1 a2 post' v3) : w_X12_latest_7 (zz J) o (zi a1) (zi a2) post xv3 := by
  subst ev3
  unfold v_X12_latest_7 at hv
  unfold w_X12_latest_7
  intro ZZ hZ
  refine hv (fun v3 => ∀ (xv3 : Int32), xv3 = zi v3 → ir v3 → ZZ xv3) ?_ _ rfl iv3
  clear hv iv3
  intro v3 hv xv3 ev3 iv3
  subst ev3
  refine hZ _ ?_
  refine ⟨fun cq => ?_, fun cq => ?_⟩
  · have hv := hv.1 ((zlt (rfl : zi v3 = zi v3) (by decide : (0 : Int32) = zi 0) iv3 (by decide : ir 0)).mp cq)
    exact hp _ _ (by decide : ((-1) : Int32) = zi (-1)) (by decide : ir (-1)) hv
  · have hv := hv.2 (fun q => cq ((zlt (rfl : zi v3 = zi v3) (by decide : (0 : Int32) = zi 0) iv3 (by decide : ir 0)).mpr q))
    obtain ⟨g3, hv⟩ := hv
    refine ⟨zvp (rfl : zi v3 = zi v3) iv3 g3.1 g3.2, ?_⟩
    refine ⟨fun cq => ?_, fun cq => ?_⟩
    · have hv := hv.1 (fun q => cq ((zeq (zrd (rfl : zi v3 = zi v3) iv3 g3.1) (rfl : zi a1 = zi a1) (hJ _ _) ia1).mpr q))
      obtain ⟨g4, hv⟩ := hv
      intro xy5 exy5
      obtain ⟨y5, eyy5⟩ : ∃ q9 : Int, q9 = v3 + (-1) := ⟨_, rfl⟩
      have hv := hv y5 eyy5
      have Ey5 : xy5 = zi y5 := exy5.trans (((za (rfl : zi v3 = zi v3) (by decide : ((-1) : Int32) = zi (-1)))).trans (congrArg zi eyy5.symm))
      have Iy5 : ir y5 := by rw [eyy5]; exact g4
      clear exy5
      exact hv _ Ey5 Iy5
    · have hv := hv.2 ((zeq (zrd (rfl : zi v3 = zi v3) iv3 g3.1) (rfl : zi a1 = zi a1) (hJ _ _) ia1).mp cq)
      obtain ⟨g6, hv⟩ := hv
      refine ⟨zvp (rfl : zi v3 = zi v3) iv3 g6.1 g6.2, ?_⟩
      refine ⟨fun cq => ?_, fun cq => ?_⟩
      · have hv := hv.1 ((zeq (zrd (rfl : zi v3 = zi v3) iv3 g6.1) (rfl : zi a2 = zi a2) (hJ _ _) ia2).mp cq)
        obtain ⟨g7, hv⟩ := hv
        intro xy8 exy8
        obtain ⟨y8, eyy8⟩ : ∃ q9 : Int, q9 = v3 + (-1) := ⟨_, rfl⟩
        have hv := hv y8 eyy8
        have Ey8 : xy8 = zi y8 := exy8.trans (((za (rfl : zi v3 = zi v3) (by decide : ((-1) : Int32) = zi (-1)))).trans (congrArg zi eyy8.symm))
        have Iy8 : ir y8 := by rw [eyy8]; exact g7
        clear exy8
        exact hv _ Ey8 Iy8
      · have hv := hv.2 (fun q => cq ((zeq (zrd (rfl : zi v3 = zi v3) iv3 g6.1) (rfl : zi a2 = zi a2) (hJ _ _) ia2).mpr q))
        exact hp _ _ (rfl : zi v3 = zi v3) iv3 hv
def v_X12_latest (J : mJ) (o : Nat) (a1 : Int) (a2 : Int) (post' : Int → Prop) : Prop := ir ((J o 25) - 1) ∧ ∀ y2, y2 = ((J o 25) - 1) → (v_X12_latest_7 J o a1 a2 post') y2
theorem vw_X12_latest {J : mJ} {o : Nat} {xa1 : Int32} {a1 : Int} {xa2 : Int32} {a2 : Int} (hJ : irm J)   (ea1 : xa1 = zi a1) (ia1 : ir a1) (ea2 : xa2 = zi a2) (ia2 : ir a2) {post : Int32 → Prop} {post' : Int → Prop} (hp : ∀ (x : Int32) (r : Int), x = zi r → ir r → post' r → post x) (hv : v_X12_latest J o a1 a2 post') : w_X12_latest (zz J) o xa1 xa2 post := by
  subst ea1
  subst ea2
  unfold v_X12_latest at hv
  unfold w_X12_latest
  obtain ⟨g1, hv⟩ := hv
  intro xy2 exy2
  obtain ⟨y2, eyy2⟩ : ∃ q9 : Int, q9 = ((J o 25) - 1) := ⟨_, rfl⟩
  have hv := hv y2 eyy2
  have Ey2 : xy2 = zi y2 := exy2.trans (((zs zrf (by decide : (1 : Int32) = zi 1))).trans (congrArg zi eyy2.symm))
  have Iy2 : ir y2 := by rw [eyy2]; exact g1
  clear exy2
  exact vw_X12_latest_7 hJ ia1 ia2 hp Ey2 Iy2 hv
def v_X12_treads_184 (o : Nat) (a1 : Int) (a2 : Int) (a3 : Int) (post' : mJ → Prop) (J : mJ) (s1 : Int) (s2 : Int) : Prop := (0 ≤ s1 ∧ s1 < 640) ∧ ∀ J29, J29 = up2 J (o + 11) s1.toNat s2 → (0 ≤ a1 ∧ a1 < 6) ∧ ∀ J31, J31 = up2 J29 (o + 15) a1.toNat a3 → ir ((J31 o 25) + 1) ∧ ∀ J33, J33 = up2 J31 o 25 ((J31 o 25) + 1) → post' J33
theorem vw_X12_treads_184 {o : Nat} {a1 : Int} {a2 : Int} {a3 : Int}  (ia1 : ir a1) (ia2 : ir a2) (ia3 : ir a3) {post : mI → Prop} {post' : mJ → Prop} (hp : ∀ (J1 : mJ), irm J1 → post' J1 → post (zz J1)) {J : mJ} {xs1 : Int32} {s1 : Int} {xs2 : Int32} {s2 : Int} (hJ : irm J) (es1 : xs1 = zi s1) (is1 : ir s1) (es2 : xs2 = zi s2) (is2 : ir s2) (hv : v_X12_treads_184 o a1 a2 a3 post' J s1 s2) : w_X12_treads_184 o (zi a1) (zi a2) (zi a3) post (zz J) xs1 xs2 := by
  subst es1
  subst es2
  unfold v_X12_treads_184 at hv
  unfold w_X12_treads_184
  obtain ⟨g28, hv⟩ := hv
  refine ⟨zvp (rfl : zi s1 = zi s1) is1 g28.1 g28.2, ?_⟩
  intro I1 eI1
  obtain ⟨J29, eJ29⟩ : ∃ q9 : mJ, q9 = up2 J (o + 11) s1.toNat s2 := ⟨_, rfl⟩
  have eI1 : I1 = zz J29 := by rw [eI1, eJ29]; exact zupa (rfl : zi s1 = zi s1) is1 g28.1 (rfl : zi s2 = zi s2)
  subst eI1
  have hv := hv J29 eJ29
  have hJ : irm J29 := by rw [eJ29]; exact irm_up hJ is2
  obtain ⟨g30, hv⟩ := hv
  refine ⟨zvp (rfl : zi a1 = zi a1) ia1 g30.1 g30.2, ?_⟩
  intro I1 eI1
  obtain ⟨J31, eJ31⟩ : ∃ q9 : mJ, q9 = up2 J29 (o + 15) a1.toNat a3 := ⟨_, rfl⟩
  have eI1 : I1 = zz J31 := by rw [eI1, eJ31]; exact zupa (rfl : zi a1 = zi a1) ia1 g30.1 (rfl : zi a3 = zi a3)
  subst eI1
  have hv := hv J31 eJ31
  have hJ : irm J31 := by rw [eJ31]; exact irm_up hJ ia3
  obtain ⟨g32, hv⟩ := hv
  intro I1 eI1
  obtain ⟨J33, eJ33⟩ : ∃ q9 : mJ, q9 = up2 J31 o 25 ((J31 o 25) + 1) := ⟨_, rfl⟩
  have eI1 : I1 = zz J33 := by rw [eI1, eJ33]; exact zup (za zrf (by decide : (1 : Int32) = zi 1))
  subst eI1
  have hv := hv J33 eJ33
  have hJ : irm J33 := by rw [eJ33]; exact irm_up hJ g32
  exact hp _ hJ hv
def v_X12_treads_45 (o : Nat) (a1 : Int) (a2 : Int) (a3 : Int) (post' : mJ → Prop) (J : mJ) (s1 : Int) (s2 : Int) : Prop := (0 ≤ s1 ∧ s1 < 640) ∧ ∀ J6, J6 = up2 J (o + 9) s1.toNat s2 → (0 ≤ (J6 o 25) ∧ (J6 o 25) < 640) ∧ ∀ J8, J8 = up2 J6 (o + 4) ((J6 o 25).toNat) a1 → (0 ≤ (J8 o 25) ∧ (J8 o 25) < 640) ∧ ∀ J10, J10 = up2 J8 (o + 5) ((J8 o 25).toNat) a2 → (0 ≤ (J10 o 25) ∧ (J10 o 25) < 640) ∧ ∀ J12, J12 = up2 J10 (o + 6) ((J10 o 25).toNat) a3 → v_X12_shoeOf J12 o a1 a3 (fun r13 => (0 ≤ (J12 o 25) ∧ (J12 o 25) < 640) ∧ ∀ J15, J15 = up2 J12 (o + 7) ((J12 o 25).toNat) r13 → (0 ≤ (J15 o 25) ∧ (J15 o 25) < 640) ∧ v_X12_loudBy J15 o a1 (J15 (o + 7) (J15 o 25).toNat) a2 (fun r17 => (0 ≤ (J15 o 25) ∧ (J15 o 25) < 640) ∧ ∀ J19, J19 = up2 J15 (o + 8) ((J15 o 25).toNat) r17 → (0 ≤ (J19 o 25) ∧ (J19 o 25) < 640) ∧ v_X12_ears J19 o (J19 (o + 8) (J19 o 25).toNat) a2 (fun r21 => (0 ≤ (J19 o 25) ∧ (J19 o 25) < 640) ∧ ∀ J23, J23 = up2 J19 (o + 10) ((J19 o 25).toNat) r21 → (0 ≤ (J23 o 25) ∧ (J23 o 25) < 640) ∧ (¬ (J23 (o + 9) (J23 o 25).toNat) = (-1) → (0 ≤ (J23 o 25) ∧ (J23 o 25) < 640) ∧ (0 ≤ (J23 (o + 9) (J23 o 25).toNat) ∧ (J23 (o + 9) (J23 o 25).toNat) < 640) ∧ v_X12_ears J23 o (divZ (J23 (o + 8) (J23 (o + 9) (J23 o 25).toNat).toNat) 2) a2 (fun r27 => (v_X12_treads_184 o a1 a2 a3 post') J23 (J23 o 25) r27)) ∧ ((J23 (o + 9) (J23 o 25).toNat) = (-1) → (v_X12_treads_184 o a1 a2 a3 post') J23 (J23 o 25) 0))))
theorem vw_X12_treads_45 {o : Nat} {a1 : Int} {a2 : Int} {a3 : Int}  (ia1 : ir a1) (ia2 : ir a2) (ia3 : ir a3) {post : mI → Prop} {post' : mJ → Prop} (hp : ∀ (J1 : mJ), irm J1 → post' J1 → post (zz J1)) {J : mJ} {xs1 : Int32} {s1 : Int} {xs2 : Int32} {s2 : Int} (hJ : irm J) (es1 : xs1 = zi s1) (is1 : ir s1) (es2 : xs2 = zi s2) (is2 : ir s2) (hv : v_X12_treads_45 o a1 a2 a3 post' J s1 s2) : w_X12_treads_45 o (zi a1) (zi a2) (zi a3) post (zz J) xs1 xs2 := by
  subst es1
  subst es2
  unfold v_X12_treads_45 at hv
  unfold w_X12_treads_45
  obtain ⟨g5, hv⟩ := hv
  refine ⟨zvp (rfl : zi s1 = zi s1) is1 g5.1 g5.2, ?_⟩
  intro I1 eI1
  obtain ⟨J6, eJ6⟩ : ∃ q9 : mJ, q9 = up2 J (o + 9) s1.toNat s2 := ⟨_, rfl⟩
  have eI1 : I1 = zz J6 := by rw [eI1, eJ6]; exact zupa (rfl : zi s1 = zi s1) is1 g5.1 (rfl : zi s2 = zi s2)
  subst eI1
  have hv := hv J6 eJ6
  have hJ : irm J6 := by rw [eJ6]; exact irm_up hJ is2
  obtain ⟨g7, hv⟩ := hv
  refine ⟨zvp zrf (hJ _ _) g7.1 g7.2, ?_⟩
  intro I1 eI1
  obtain ⟨J8, eJ8⟩ : ∃ q9 : mJ, q9 = up2 J6 (o + 4) ((J6 o 25).toNat) a1 := ⟨_, rfl⟩
  have eI1 : I1 = zz J8 := by rw [eI1, eJ8]; exact zupa zrf (hJ _ _) g7.1 (rfl : zi a1 = zi a1)
  subst eI1
  have hv := hv J8 eJ8
  have hJ : irm J8 := by rw [eJ8]; exact irm_up hJ ia1
  obtain ⟨g9, hv⟩ := hv
  refine ⟨zvp zrf (hJ _ _) g9.1 g9.2, ?_⟩
  intro I1 eI1
  obtain ⟨J10, eJ10⟩ : ∃ q9 : mJ, q9 = up2 J8 (o + 5) ((J8 o 25).toNat) a2 := ⟨_, rfl⟩
  have eI1 : I1 = zz J10 := by rw [eI1, eJ10]; exact zupa zrf (hJ _ _) g9.1 (rfl : zi a2 = zi a2)
  subst eI1
  have hv := hv J10 eJ10
  have hJ : irm J10 := by rw [eJ10]; exact irm_up hJ ia2
  obtain ⟨g11, hv⟩ := hv
  refine ⟨zvp zrf (hJ _ _) g11.1 g11.2, ?_⟩
  intro I1 eI1
  obtain ⟨J12, eJ12⟩ : ∃ q9 : mJ, q9 = up2 J10 (o + 6) ((J10 o 25).toNat) a3 := ⟨_, rfl⟩
  have eI1 : I1 = zz J12 := by rw [eI1, eJ12]; exact zupa zrf (hJ _ _) g11.1 (rfl : zi a3 = zi a3)
  subst eI1
  have hv := hv J12 eJ12
  have hJ : irm J12 := by rw [eJ12]; exact irm_up hJ ia3
  refine vw_X12_shoeOf hJ (rfl : zi a1 = zi a1) ia1 (rfl : zi a3 = zi a3) ia3 (fun xr13 r13 Er13 Ir13 hv => ?_) hv
  obtain ⟨g14, hv⟩ := hv
  refine ⟨zvp zrf (hJ _ _) g14.1 g14.2, ?_⟩
  intro I1 eI1
  obtain ⟨J15, eJ15⟩ : ∃ q9 : mJ, q9 = up2 J12 (o + 7) ((J12 o 25).toNat) r13 := ⟨_, rfl⟩
  have eI1 : I1 = zz J15 := by rw [eI1, eJ15]; exact zupa zrf (hJ _ _) g14.1 Er13
  subst eI1
  have hv := hv J15 eJ15
  have hJ : irm J15 := by rw [eJ15]; exact irm_up hJ Ir13
  obtain ⟨g16, hv⟩ := hv
  refine ⟨zvp zrf (hJ _ _) g16.1 g16.2, ?_⟩
  refine vw_X12_loudBy hJ (rfl : zi a1 = zi a1) ia1 (zrd zrf (hJ _ _) g16.1) (hJ _ _) (rfl : zi a2 = zi a2) ia2 (fun xr17 r17 Er17 Ir17 hv => ?_) hv
  obtain ⟨g18, hv⟩ := hv
  refine ⟨zvp zrf (hJ _ _) g18.1 g18.2, ?_⟩
  intro I1 eI1
  obtain ⟨J19, eJ19⟩ : ∃ q9 : mJ, q9 = up2 J15 (o + 8) ((J15 o 25).toNat) r17 := ⟨_, rfl⟩
  have eI1 : I1 = zz J19 := by rw [eI1, eJ19]; exact zupa zrf (hJ _ _) g18.1 Er17
  subst eI1
  have hv := hv J19 eJ19
  have hJ : irm J19 := by rw [eJ19]; exact irm_up hJ Ir17
  obtain ⟨g20, hv⟩ := hv
  refine ⟨zvp zrf (hJ _ _) g20.1 g20.2, ?_⟩
  refine vw_X12_ears hJ (zrd zrf (hJ _ _) g20.1) (hJ _ _) (rfl : zi a2 = zi a2) ia2 (fun xr21 r21 Er21 Ir21 hv => ?_) hv
  obtain ⟨g22, hv⟩ := hv
  refine ⟨zvp zrf (hJ _ _) g22.1 g22.2, ?_⟩
  intro I1 eI1
  obtain ⟨J23, eJ23⟩ : ∃ q9 : mJ, q9 = up2 J19 (o + 10) ((J19 o 25).toNat) r21 := ⟨_, rfl⟩
  have eI1 : I1 = zz J23 := by rw [eI1, eJ23]; exact zupa zrf (hJ _ _) g22.1 Er21
  subst eI1
  have hv := hv J23 eJ23
  have hJ : irm J23 := by rw [eJ23]; exact irm_up hJ Ir21
  obtain ⟨g24, hv⟩ := hv
  refine ⟨zvp zrf (hJ _ _) g24.1 g24.2, ?_⟩
  refine ⟨fun cq => ?_, fun cq => ?_⟩
  · have hv := hv.1 (fun q => cq ((zeq (zrd zrf (hJ _ _) g24.1) (by decide : ((-1) : Int32) = zi (-1)) (hJ _ _) (by decide : ir (-1))).mpr q))
    obtain ⟨g25, hv⟩ := hv
    refine ⟨zvp zrf (hJ _ _) g25.1 g25.2, ?_⟩
    obtain ⟨g26, hv⟩ := hv
    refine ⟨zvp (zrd zrf (hJ _ _) g25.1) (hJ _ _) g26.1 g26.2, ?_⟩
    refine vw_X12_ears hJ (z_div (zrd (zrd zrf (hJ _ _) g25.1) (hJ _ _) g26.1) (by decide : (2 : Int32) = zi 2)) (ir_toInt _) (rfl : zi a2 = zi a2) ia2 (fun xr27 r27 Er27 Ir27 hv => ?_) hv
    exact vw_X12_treads_184 ia1 ia2 ia3 hp hJ zrf (hJ _ _) Er27 Ir27 hv
  · have hv := hv.2 ((zeq (zrd zrf (hJ _ _) g24.1) (by decide : ((-1) : Int32) = zi (-1)) (hJ _ _) (by decide : ir (-1))).mp cq)
    exact vw_X12_treads_184 ia1 ia2 ia3 hp hJ zrf (hJ _ _) (by decide : (0 : Int32) = zi 0) (by decide : ir 0) hv
def v_X12_treads_44 (o : Nat) (a1 : Int) (a2 : Int) (a3 : Int) (post' : mJ → Prop) (J : mJ) (s1 : Int) : Prop := (v_X12_treads_45 o a1 a2 a3 post') J s1 (-1)
theorem vw_X12_treads_44 {o : Nat} {a1 : Int} {a2 : Int} {a3 : Int}  (ia1 : ir a1) (ia2 : ir a2) (ia3 : ir a3) {post : mI → Prop} {post' : mJ → Prop} (hp : ∀ (J1 : mJ), irm J1 → post' J1 → post (zz J1)) {J : mJ} {xs1 : Int32} {s1 : Int} (hJ : irm J) (es1 : xs1 = zi s1) (is1 : ir s1) (hv : v_X12_treads_44 o a1 a2 a3 post' J s1) : w_X12_treads_44 o (zi a1) (zi a2) (zi a3) post (zz J) xs1 := by
  subst es1
  unfold v_X12_treads_44 at hv
  unfold w_X12_treads_44
  exact vw_X12_treads_45 ia1 ia2 ia3 hp hJ (rfl : zi s1 = zi s1) is1 (by decide : ((-1) : Int32) = zi (-1)) (by decide : ir (-1)) hv
def v_X12_treads (J : mJ) (o : Nat) (a1 : Int) (a2 : Int) (a3 : Int) (post' : mJ → Prop) : Prop := v_X12_latest J o a2 (-1) (fun r1 => (r1 = (-1) → (v_X12_treads_44 o a1 a2 a3 post') J (J o 25)) ∧ (¬ r1 = (-1) → (0 ≤ r1 ∧ r1 < 640) ∧ ir (a3 - (J (o + 6) r1.toNat)) ∧ v_X12_of J o 1 (fun r4 => (r4 < (a3 - (J (o + 6) r1.toNat)) → (v_X12_treads_44 o a1 a2 a3 post') J (J o 25)) ∧ (¬ r4 < (a3 - (J (o + 6) r1.toNat)) → (v_X12_treads_45 o a1 a2 a3 post') J (J o 25) r1))))
theorem vw_X12_treads {J : mJ} {o : Nat} {xa1 : Int32} {a1 : Int} {xa2 : Int32} {a2 : Int} {xa3 : Int32} {a3 : Int} (hJ : irm J)   (ea1 : xa1 = zi a1) (ia1 : ir a1) (ea2 : xa2 = zi a2) (ia2 : ir a2) (ea3 : xa3 = zi a3) (ia3 : ir a3) {post : mI → Prop} {post' : mJ → Prop} (hp : ∀ (J1 : mJ), irm J1 → post' J1 → post (zz J1)) (hv : v_X12_treads J o a1 a2 a3 post') : w_X12_treads (zz J) o xa1 xa2 xa3 post := by
  subst ea1
  subst ea2
  subst ea3
  unfold v_X12_treads at hv
  unfold w_X12_treads
  refine vw_X12_latest hJ (rfl : zi a2 = zi a2) ia2 (by decide : ((-1) : Int32) = zi (-1)) (by decide : ir (-1)) (fun xr1 r1 Er1 Ir1 hv => ?_) hv
  refine ⟨fun cq => ?_, fun cq => ?_⟩
  · have hv := hv.1 ((zeq Er1 (by decide : ((-1) : Int32) = zi (-1)) Ir1 (by decide : ir (-1))).mp cq)
    exact vw_X12_treads_44 ia1 ia2 ia3 hp hJ zrf (hJ _ _) hv
  · have hv := hv.2 (fun q => cq ((zeq Er1 (by decide : ((-1) : Int32) = zi (-1)) Ir1 (by decide : ir (-1))).mpr q))
    obtain ⟨g2, hv⟩ := hv
    refine ⟨zvp Er1 Ir1 g2.1 g2.2, ?_⟩
    obtain ⟨g3, hv⟩ := hv
    refine vw_X12_of hJ (by decide : (1 : Int32) = zi 1) (by decide : ir 1) (fun xr4 r4 Er4 Ir4 hv => ?_) hv
    refine ⟨fun cq => ?_, fun cq => ?_⟩
    · have hv := hv.1 ((zlt Er4 (zs (rfl : zi a3 = zi a3) (zrd Er1 Ir1 g2.1)) Ir4 g3).mp cq)
      exact vw_X12_treads_44 ia1 ia2 ia3 hp hJ zrf (hJ _ _) hv
    · have hv := hv.2 (fun q => cq ((zlt Er4 (zs (rfl : zi a3 = zi a3) (zrd Er1 Ir1 g2.1)) Ir4 g3).mpr q))
      exact vw_X12_treads_45 ia1 ia2 ia3 hp hJ zrf (hJ _ _) Er1 Ir1 hv
def v_X12_towards (a1 : Int) (a2 : Int) (a3 : Int) (post' : Int → Prop) : Prop := (a2 ≤ a1 → ir (a1 - a3) ∧ (a2 ≤ (a1 - a3) → ir (a1 - a3) ∧ post' (a1 - a3)) ∧ (¬ a2 ≤ (a1 - a3) → post' a2)) ∧ (¬ a2 ≤ a1 → ir (a1 + a3) ∧ ((a1 + a3) ≤ a2 → ir (a1 + a3) ∧ post' (a1 + a3)) ∧ (¬ (a1 + a3) ≤ a2 → post' a2))
theorem vw_X12_towards {xa1 : Int32} {a1 : Int} {xa2 : Int32} {a2 : Int} {xa3 : Int32} {a3 : Int}  (ea1 : xa1 = zi a1) (ia1 : ir a1) (ea2 : xa2 = zi a2) (ia2 : ir a2) (ea3 : xa3 = zi a3) (ia3 : ir a3) {post : Int32 → Prop} {post' : Int → Prop} (hp : ∀ (x : Int32) (r : Int), x = zi r → ir r → post' r → post x) (hv : v_X12_towards a1 a2 a3 post') : w_X12_towards xa1 xa2 xa3 post := by
  subst ea1
  subst ea2
  subst ea3
  unfold v_X12_towards at hv
  unfold w_X12_towards
  refine ⟨fun cq => ?_, fun cq => ?_⟩
  · have hv := hv.1 ((zle (rfl : zi a2 = zi a2) (rfl : zi a1 = zi a1) ia2 ia1).mp cq)
    obtain ⟨g1, hv⟩ := hv
    refine ⟨fun cq => ?_, fun cq => ?_⟩
    · have hv := hv.1 ((zle (rfl : zi a2 = zi a2) (zs (rfl : zi a1 = zi a1) (rfl : zi a3 = zi a3)) ia2 g1).mp cq)
      obtain ⟨g2, hv⟩ := hv
      exact hp _ _ (zs (rfl : zi a1 = zi a1) (rfl : zi a3 = zi a3)) g2 hv
    · have hv := hv.2 (fun q => cq ((zle (rfl : zi a2 = zi a2) (zs (rfl : zi a1 = zi a1) (rfl : zi a3 = zi a3)) ia2 g1).mpr q))
      exact hp _ _ (rfl : zi a2 = zi a2) ia2 hv
  · have hv := hv.2 (fun q => cq ((zle (rfl : zi a2 = zi a2) (rfl : zi a1 = zi a1) ia2 ia1).mpr q))
    obtain ⟨g3, hv⟩ := hv
    refine ⟨fun cq => ?_, fun cq => ?_⟩
    · have hv := hv.1 ((zle (za (rfl : zi a1 = zi a1) (rfl : zi a3 = zi a3)) (rfl : zi a2 = zi a2) g3 ia2).mp cq)
      obtain ⟨g4, hv⟩ := hv
      exact hp _ _ (za (rfl : zi a1 = zi a1) (rfl : zi a3 = zi a3)) g4 hv
    · have hv := hv.2 (fun q => cq ((zle (za (rfl : zi a1 = zi a1) (rfl : zi a3 = zi a3)) (rfl : zi a2 = zi a2) g3 ia2).mpr q))
      exact hp _ _ (rfl : zi a2 = zi a2) ia2 hv
def v_X12_walks_54 (o : Nat) (a1 : Int) (a2 : Int) (post' : mJ → Prop) (k105' : mJ → Prop) (J : mJ) : Prop := ∀ ZZ : (mJ → Prop), (∀ (J : mJ), ((0 ≤ a1 ∧ a1 < 6) ∧ v_X12_told J o a1 5 (fun r10 => (r10 ≤ (J (o + 13) a1.toNat) → k105' J) ∧ (¬ r10 ≤ (J (o + 13) a1.toNat) → (0 ≤ a1 ∧ a1 < 6) ∧ ir (6 + (J (o + 13) a1.toNat)) ∧ v_X12_told J o a1 (6 + (J (o + 13) a1.toNat)) (fun r13 => (0 ≤ a1 ∧ a1 < 6) ∧ (¬ r13 = (J (o + 14) a1.toNat) → k105' J) ∧ (r13 = (J (o + 14) a1.toNat) → (0 ≤ a1 ∧ a1 < 6) ∧ ir ((J (o + 13) a1.toNat) + 1) ∧ (0 ≤ a1 ∧ a1 < 6) ∧ ∀ J18, J18 = up2 J (o + 13) a1.toNat ((J (o + 13) a1.toNat) + 1) → ZZ J18))))) → ZZ J) → ZZ J
theorem vw_X12_walks_54 {o : Nat} {a1 : Int} {a2 : Int}  (ia1 : ir a1) (ia2 : ir a2) {post : mI → Prop} {post' : mJ → Prop} {k105' : mJ → Prop} {k105 : mI → Prop} (hp : ∀ (J1 : mJ), irm J1 → post' J1 → post (zz J1)) (hk105 : ∀ (J : mJ), irm J → k105' J → k105 (zz J)) {J : mJ} (hJ : irm J) (hv : v_X12_walks_54 o a1 a2 post' k105' J) : w_X12_walks_54 o (zi a1) (zi a2) post k105 (zz J) := by
  unfold v_X12_walks_54 at hv
  unfold w_X12_walks_54
  intro ZZ hZ
  refine hv (fun J => irm J → ZZ (zz J)) ?_ hJ
  clear hv hJ
  intro J hv hJ
  refine hZ _ ?_
  obtain ⟨g9, hv⟩ := hv
  refine ⟨zvp (rfl : zi a1 = zi a1) ia1 g9.1 g9.2, ?_⟩
  refine vw_X12_told hJ (rfl : zi a1 = zi a1) ia1 (by decide : (5 : Int32) = zi 5) (by decide : ir 5) (fun xr10 r10 Er10 Ir10 hv => ?_) hv
  refine ⟨fun cq => ?_, fun cq => ?_⟩
  · have hv := hv.1 ((zle Er10 (zrd (rfl : zi a1 = zi a1) ia1 g9.1) Ir10 (hJ _ _)).mp cq)
    exact hk105 _ hJ hv
  · have hv := hv.2 (fun q => cq ((zle Er10 (zrd (rfl : zi a1 = zi a1) ia1 g9.1) Ir10 (hJ _ _)).mpr q))
    obtain ⟨g11, hv⟩ := hv
    refine ⟨zvp (rfl : zi a1 = zi a1) ia1 g11.1 g11.2, ?_⟩
    obtain ⟨g12, hv⟩ := hv
    refine vw_X12_told hJ (rfl : zi a1 = zi a1) ia1 (za (by decide : (6 : Int32) = zi 6) (zrd (rfl : zi a1 = zi a1) ia1 g11.1)) g12 (fun xr13 r13 Er13 Ir13 hv => ?_) hv
    obtain ⟨g14, hv⟩ := hv
    refine ⟨zvp (rfl : zi a1 = zi a1) ia1 g14.1 g14.2, ?_⟩
    refine ⟨fun cq => ?_, fun cq => ?_⟩
    · have hv := hv.1 (fun q => cq ((zeq Er13 (zrd (rfl : zi a1 = zi a1) ia1 g14.1) Ir13 (hJ _ _)).mpr q))
      exact hk105 _ hJ hv
    · have hv := hv.2 ((zeq Er13 (zrd (rfl : zi a1 = zi a1) ia1 g14.1) Ir13 (hJ _ _)).mp cq)
      obtain ⟨g15, hv⟩ := hv
      refine ⟨zvp (rfl : zi a1 = zi a1) ia1 g15.1 g15.2, ?_⟩
      obtain ⟨g16, hv⟩ := hv
      obtain ⟨g17, hv⟩ := hv
      refine ⟨zvp (rfl : zi a1 = zi a1) ia1 g17.1 g17.2, ?_⟩
      intro I1 eI1
      obtain ⟨J18, eJ18⟩ : ∃ q9 : mJ, q9 = up2 J (o + 13) a1.toNat ((J (o + 13) a1.toNat) + 1) := ⟨_, rfl⟩
      have eI1 : I1 = zz J18 := by rw [eI1, eJ18]; exact zupa (rfl : zi a1 = zi a1) ia1 g17.1 (za (zrd (rfl : zi a1 = zi a1) ia1 g15.1) (by decide : (1 : Int32) = zi 1))
      subst eI1
      have hv := hv J18 eJ18
      have hJ : irm J18 := by rw [eJ18]; exact irm_up hJ g16
      exact hv  hJ
def v_X12_walks_105 (o : Nat) (a1 : Int) (a2 : Int) (post' : mJ → Prop) (J : mJ) : Prop := (0 ≤ a1 ∧ a1 < 6) ∧ v_X12_told J o a1 5 (fun r20 => (¬ (J (o + 13) a1.toNat) = r20 → (0 ≤ a1 ∧ a1 < 6) ∧ (0 ≤ a1 ∧ a1 < 6) ∧ ir (6 + (J (o + 13) a1.toNat)) ∧ v_X12_told J o a1 (6 + (J (o + 13) a1.toNat)) (fun r24 => v_X12_told J o a1 2 (fun r25 => v_X12_towards (J (o + 14) a1.toNat) r24 r25 (fun r26 => (0 ≤ a1 ∧ a1 < 6) ∧ ∀ J28, J28 = up2 J (o + 14) a1.toNat r26 → (0 ≤ a1 ∧ a1 < 6) ∧ v_X12_treads J28 o a1 (J28 (o + 14) a1.toNat) a2 (fun J30 => post' J30))))) ∧ ((J (o + 13) a1.toNat) = r20 → post' J))
theorem vw_X12_walks_105 {o : Nat} {a1 : Int} {a2 : Int}  (ia1 : ir a1) (ia2 : ir a2) {post : mI → Prop} {post' : mJ → Prop} (hp : ∀ (J1 : mJ), irm J1 → post' J1 → post (zz J1)) {J : mJ} (hJ : irm J) (hv : v_X12_walks_105 o a1 a2 post' J) : w_X12_walks_105 o (zi a1) (zi a2) post (zz J) := by
  unfold v_X12_walks_105 at hv
  unfold w_X12_walks_105
  obtain ⟨g19, hv⟩ := hv
  refine ⟨zvp (rfl : zi a1 = zi a1) ia1 g19.1 g19.2, ?_⟩
  refine vw_X12_told hJ (rfl : zi a1 = zi a1) ia1 (by decide : (5 : Int32) = zi 5) (by decide : ir 5) (fun xr20 r20 Er20 Ir20 hv => ?_) hv
  refine ⟨fun cq => ?_, fun cq => ?_⟩
  · have hv := hv.1 (fun q => cq ((zeq (zrd (rfl : zi a1 = zi a1) ia1 g19.1) Er20 (hJ _ _) Ir20).mpr q))
    obtain ⟨g21, hv⟩ := hv
    refine ⟨zvp (rfl : zi a1 = zi a1) ia1 g21.1 g21.2, ?_⟩
    obtain ⟨g22, hv⟩ := hv
    refine ⟨zvp (rfl : zi a1 = zi a1) ia1 g22.1 g22.2, ?_⟩
    obtain ⟨g23, hv⟩ := hv
    refine vw_X12_told hJ (rfl : zi a1 = zi a1) ia1 (za (by decide : (6 : Int32) = zi 6) (zrd (rfl : zi a1 = zi a1) ia1 g22.1)) g23 (fun xr24 r24 Er24 Ir24 hv => ?_) hv
    refine vw_X12_told hJ (rfl : zi a1 = zi a1) ia1 (by decide : (2 : Int32) = zi 2) (by decide : ir 2) (fun xr25 r25 Er25 Ir25 hv => ?_) hv
    refine vw_X12_towards (zrd (rfl : zi a1 = zi a1) ia1 g21.1) (hJ _ _) Er24 Ir24 Er25 Ir25 (fun xr26 r26 Er26 Ir26 hv => ?_) hv
    obtain ⟨g27, hv⟩ := hv
    refine ⟨zvp (rfl : zi a1 = zi a1) ia1 g27.1 g27.2, ?_⟩
    intro I1 eI1
    obtain ⟨J28, eJ28⟩ : ∃ q9 : mJ, q9 = up2 J (o + 14) a1.toNat r26 := ⟨_, rfl⟩
    have eI1 : I1 = zz J28 := by rw [eI1, eJ28]; exact zupa (rfl : zi a1 = zi a1) ia1 g27.1 Er26
    subst eI1
    have hv := hv J28 eJ28
    have hJ : irm J28 := by rw [eJ28]; exact irm_up hJ Ir26
    obtain ⟨g29, hv⟩ := hv
    refine ⟨zvp (rfl : zi a1 = zi a1) ia1 g29.1 g29.2, ?_⟩
    refine vw_X12_treads hJ (rfl : zi a1 = zi a1) ia1 (zrd (rfl : zi a1 = zi a1) ia1 g29.1) (hJ _ _) (rfl : zi a2 = zi a2) ia2 (fun J30 hJ hv => ?_) hv
    exact hp _ hJ hv
  · have hv := hv.2 ((zeq (zrd (rfl : zi a1 = zi a1) ia1 g19.1) Er20 (hJ _ _) Ir20).mp cq)
    exact hp _ hJ hv
def v_X12_walks (J : mJ) (o : Nat) (a1 : Int) (a2 : Int) (post' : mJ → Prop) : Prop := v_X12_told J o a1 3 (fun r1 => (r1 = (-1) → post' J) ∧ (¬ r1 = (-1) → v_X12_minuteOf J o a1 (fun r2 => (r2 ≤ a2 → v_X12_minuteOf J o a1 (fun r3 => (¬ a2 = r3 → (v_X12_walks_54 o a1 a2 post' (v_X12_walks_105 o a1 a2 post')) J) ∧ (a2 = r3 → v_X12_told J o a1 4 (fun r4 => (0 ≤ a1 ∧ a1 < 6) ∧ ∀ J6, J6 = up2 J (o + 14) a1.toNat r4 → (0 ≤ a1 ∧ a1 < 6) ∧ v_X12_treads J6 o a1 (J6 (o + 14) a1.toNat) a2 (fun J8 => post' J8))))) ∧ (¬ r2 ≤ a2 → post' J))))
theorem vw_X12_walks {J : mJ} {o : Nat} {xa1 : Int32} {a1 : Int} {xa2 : Int32} {a2 : Int} (hJ : irm J)   (ea1 : xa1 = zi a1) (ia1 : ir a1) (ea2 : xa2 = zi a2) (ia2 : ir a2) {post : mI → Prop} {post' : mJ → Prop} (hp : ∀ (J1 : mJ), irm J1 → post' J1 → post (zz J1)) (hv : v_X12_walks J o a1 a2 post') : w_X12_walks (zz J) o xa1 xa2 post := by
  subst ea1
  subst ea2
  unfold v_X12_walks at hv
  unfold w_X12_walks
  refine vw_X12_told hJ (rfl : zi a1 = zi a1) ia1 (by decide : (3 : Int32) = zi 3) (by decide : ir 3) (fun xr1 r1 Er1 Ir1 hv => ?_) hv
  refine ⟨fun cq => ?_, fun cq => ?_⟩
  · have hv := hv.1 ((zeq Er1 (by decide : ((-1) : Int32) = zi (-1)) Ir1 (by decide : ir (-1))).mp cq)
    exact hp _ hJ hv
  · have hv := hv.2 (fun q => cq ((zeq Er1 (by decide : ((-1) : Int32) = zi (-1)) Ir1 (by decide : ir (-1))).mpr q))
    refine vw_X12_minuteOf hJ (rfl : zi a1 = zi a1) ia1 (fun xr2 r2 Er2 Ir2 hv => ?_) hv
    refine ⟨fun cq => ?_, fun cq => ?_⟩
    · have hv := hv.1 ((zle Er2 (rfl : zi a2 = zi a2) Ir2 ia2).mp cq)
      refine vw_X12_minuteOf hJ (rfl : zi a1 = zi a1) ia1 (fun xr3 r3 Er3 Ir3 hv => ?_) hv
      refine ⟨fun cq => ?_, fun cq => ?_⟩
      · have hv := hv.1 (fun q => cq ((zeq (rfl : zi a2 = zi a2) Er3 ia2 Ir3).mpr q))
        refine vw_X12_walks_54 ia1 ia2 hp ?_ hJ hv
        · intro qq hJ hv
          exact vw_X12_walks_105 ia1 ia2 hp hJ hv
      · have hv := hv.2 ((zeq (rfl : zi a2 = zi a2) Er3 ia2 Ir3).mp cq)
        refine vw_X12_told hJ (rfl : zi a1 = zi a1) ia1 (by decide : (4 : Int32) = zi 4) (by decide : ir 4) (fun xr4 r4 Er4 Ir4 hv => ?_) hv
        obtain ⟨g5, hv⟩ := hv
        refine ⟨zvp (rfl : zi a1 = zi a1) ia1 g5.1 g5.2, ?_⟩
        intro I1 eI1
        obtain ⟨J6, eJ6⟩ : ∃ q9 : mJ, q9 = up2 J (o + 14) a1.toNat r4 := ⟨_, rfl⟩
        have eI1 : I1 = zz J6 := by rw [eI1, eJ6]; exact zupa (rfl : zi a1 = zi a1) ia1 g5.1 Er4
        subst eI1
        have hv := hv J6 eJ6
        have hJ : irm J6 := by rw [eJ6]; exact irm_up hJ Ir4
        obtain ⟨g7, hv⟩ := hv
        refine ⟨zvp (rfl : zi a1 = zi a1) ia1 g7.1 g7.2, ?_⟩
        refine vw_X12_treads hJ (rfl : zi a1 = zi a1) ia1 (zrd (rfl : zi a1 = zi a1) ia1 g7.1) (hJ _ _) (rfl : zi a2 = zi a2) ia2 (fun J8 hJ hv => ?_) hv
        exact hp _ hJ hv
    · have hv := hv.2 (fun q => cq ((zle Er2 (rfl : zi a2 = zi a2) Ir2 ia2).mpr q))
      exact hp _ hJ hv
def v_X12_below (J : mJ) (o : Nat) (a1 : Int) (post' : Int → mJ → Prop) : Prop := ∀ J1, J1 = up2 J o 23 (addW (mulW (J o 23) 1103515245) 12345) → ¬ a1 = 0 ∧ post' (remZ (ushrZ (J1 o 23) 16) a1) J1
theorem vw_X12_below {J : mJ} {o : Nat} {xa1 : Int32} {a1 : Int} (hJ : irm J)   (ea1 : xa1 = zi a1) (ia1 : ir a1) {post : Int32 → mI → Prop} {post' : Int → mJ → Prop} (hp : ∀ (x : Int32) (r : Int) (J1 : mJ), x = zi r → ir r → irm J1 → post' r J1 → post x (zz J1)) (hv : v_X12_below J o a1 post') : w_X12_below (zz J) o xa1 post := by
  subst ea1
  unfold v_X12_below at hv
  unfold w_X12_below
  intro I1 eI1
  obtain ⟨J1, eJ1⟩ : ∃ q9 : mJ, q9 = up2 J o 23 (addW (mulW (J o 23) 1103515245) 12345) := ⟨_, rfl⟩
  have eI1 : I1 = zz J1 := by rw [eI1, eJ1]; exact zup (z_addW (z_mulW zrf (by decide : (1103515245 : Int32) = zi 1103515245)) (by decide : (12345 : Int32) = zi 12345))
  subst eI1
  have hv := hv J1 eJ1
  have hJ : irm J1 := by rw [eJ1]; exact irm_up hJ (ir_toInt _)
  refine ⟨fun q => hv.1 ((zeq (rfl : zi a1 = zi a1) (rfl : (0 : Int32) = zi 0) ia1 (by decide)).mp q), ?_⟩
  have hv := hv.2
  exact hp _ _ _ (z_rem (z_ushr zrf (by decide : (16 : Int32) = zi 16)) (rfl : zi a1 = zi a1)) (ir_toInt _) hJ hv
def v_X12_strays_69 (o : Nat) (a1 : Int) (a2 : Int) (post' : mJ → Prop) (J : mJ) (s0 : Int) : Prop := (0 ≤ a1 ∧ a1 < 6) ∧ (¬ s0 = (J (o + 14) a1.toNat) → (0 ≤ a1 ∧ a1 < 6) ∧ ∀ J15, J15 = up2 J (o + 14) a1.toNat s0 → v_X12_treads J15 o a1 s0 a2 (fun J16 => post' J16)) ∧ (s0 = (J (o + 14) a1.toNat) → post' J)
theorem vw_X12_strays_69 {o : Nat} {a1 : Int} {a2 : Int}  (ia1 : ir a1) (ia2 : ir a2) {post : mI → Prop} {post' : mJ → Prop} (hp : ∀ (J1 : mJ), irm J1 → post' J1 → post (zz J1)) {J : mJ} {xs0 : Int32} {s0 : Int} (hJ : irm J) (es0 : xs0 = zi s0) (is0 : ir s0) (hv : v_X12_strays_69 o a1 a2 post' J s0) : w_X12_strays_69 o (zi a1) (zi a2) post (zz J) xs0 := by
  subst es0
  unfold v_X12_strays_69 at hv
  unfold w_X12_strays_69
  obtain ⟨g13, hv⟩ := hv
  refine ⟨zvp (rfl : zi a1 = zi a1) ia1 g13.1 g13.2, ?_⟩
  refine ⟨fun cq => ?_, fun cq => ?_⟩
  · have hv := hv.1 (fun q => cq ((zeq (rfl : zi s0 = zi s0) (zrd (rfl : zi a1 = zi a1) ia1 g13.1) is0 (hJ _ _)).mpr q))
    obtain ⟨g14, hv⟩ := hv
    refine ⟨zvp (rfl : zi a1 = zi a1) ia1 g14.1 g14.2, ?_⟩
    intro I1 eI1
    obtain ⟨J15, eJ15⟩ : ∃ q9 : mJ, q9 = up2 J (o + 14) a1.toNat s0 := ⟨_, rfl⟩
    have eI1 : I1 = zz J15 := by rw [eI1, eJ15]; exact zupa (rfl : zi a1 = zi a1) ia1 g14.1 (rfl : zi s0 = zi s0)
    subst eI1
    have hv := hv J15 eJ15
    have hJ : irm J15 := by rw [eJ15]; exact irm_up hJ is0
    refine vw_X12_treads hJ (rfl : zi a1 = zi a1) ia1 (rfl : zi s0 = zi s0) is0 (rfl : zi a2 = zi a2) ia2 (fun J16 hJ hv => ?_) hv
    exact hp _ hJ hv
  · have hv := hv.2 ((zeq (rfl : zi s0 = zi s0) (zrd (rfl : zi a1 = zi a1) ia1 g13.1) is0 (hJ _ _)).mp cq)
    exact hp _ hJ hv
def v_X12_strays (J : mJ) (o : Nat) (a1 : Int) (a2 : Int) (post' : mJ → Prop) : Prop := (59 < a2 → post' J) ∧ (¬ 59 < a2 → v_X12_below J o 100 (fun r1 J2 => (r1 < (J2 o 24) → v_X12_below J2 o 2 (fun r3 J4 => (¬ r3 = 0 → (0 ≤ a1 ∧ a1 < 6) ∧ v_X12_told J4 o a1 2 (fun r6 => v_X12_towards (J4 (o + 14) a1.toNat) 0 r6 (fun r7 => (v_X12_strays_69 o a1 a2 post') J4 r7))) ∧ (r3 = 0 → (0 ≤ a1 ∧ a1 < 6) ∧ v_X12_of J4 o 0 (fun r9 => ir (r9 - 1) ∧ v_X12_told J4 o a1 2 (fun r11 => v_X12_towards (J4 (o + 14) a1.toNat) (r9 - 1) r11 (fun r12 => (v_X12_strays_69 o a1 a2 post') J4 r12)))))) ∧ (¬ r1 < (J2 o 24) → post' J2)))
theorem vw_X12_strays {J : mJ} {o : Nat} {xa1 : Int32} {a1 : Int} {xa2 : Int32} {a2 : Int} (hJ : irm J)   (ea1 : xa1 = zi a1) (ia1 : ir a1) (ea2 : xa2 = zi a2) (ia2 : ir a2) {post : mI → Prop} {post' : mJ → Prop} (hp : ∀ (J1 : mJ), irm J1 → post' J1 → post (zz J1)) (hv : v_X12_strays J o a1 a2 post') : w_X12_strays (zz J) o xa1 xa2 post := by
  subst ea1
  subst ea2
  unfold v_X12_strays at hv
  unfold w_X12_strays
  refine ⟨fun cq => ?_, fun cq => ?_⟩
  · have hv := hv.1 ((zlt (by decide : (59 : Int32) = zi 59) (rfl : zi a2 = zi a2) (by decide : ir 59) ia2).mp cq)
    exact hp _ hJ hv
  · have hv := hv.2 (fun q => cq ((zlt (by decide : (59 : Int32) = zi 59) (rfl : zi a2 = zi a2) (by decide : ir 59) ia2).mpr q))
    refine vw_X12_below hJ (by decide : (100 : Int32) = zi 100) (by decide : ir 100) (fun xr1 r1 J2 Er1 Ir1 hJ hv => ?_) hv
    refine ⟨fun cq => ?_, fun cq => ?_⟩
    · have hv := hv.1 ((zlt Er1 zrf Ir1 (hJ _ _)).mp cq)
      refine vw_X12_below hJ (by decide : (2 : Int32) = zi 2) (by decide : ir 2) (fun xr3 r3 J4 Er3 Ir3 hJ hv => ?_) hv
      refine ⟨fun cq => ?_, fun cq => ?_⟩
      · have hv := hv.1 (fun q => cq ((zeq Er3 (by decide : (0 : Int32) = zi 0) Ir3 (by decide : ir 0)).mpr q))
        obtain ⟨g5, hv⟩ := hv
        refine ⟨zvp (rfl : zi a1 = zi a1) ia1 g5.1 g5.2, ?_⟩
        refine vw_X12_told hJ (rfl : zi a1 = zi a1) ia1 (by decide : (2 : Int32) = zi 2) (by decide : ir 2) (fun xr6 r6 Er6 Ir6 hv => ?_) hv
        refine vw_X12_towards (zrd (rfl : zi a1 = zi a1) ia1 g5.1) (hJ _ _) (by decide : (0 : Int32) = zi 0) (by decide : ir 0) Er6 Ir6 (fun xr7 r7 Er7 Ir7 hv => ?_) hv
        exact vw_X12_strays_69 ia1 ia2 hp hJ Er7 Ir7 hv
      · have hv := hv.2 ((zeq Er3 (by decide : (0 : Int32) = zi 0) Ir3 (by decide : ir 0)).mp cq)
        obtain ⟨g8, hv⟩ := hv
        refine ⟨zvp (rfl : zi a1 = zi a1) ia1 g8.1 g8.2, ?_⟩
        refine vw_X12_of hJ (by decide : (0 : Int32) = zi 0) (by decide : ir 0) (fun xr9 r9 Er9 Ir9 hv => ?_) hv
        obtain ⟨g10, hv⟩ := hv
        refine vw_X12_told hJ (rfl : zi a1 = zi a1) ia1 (by decide : (2 : Int32) = zi 2) (by decide : ir 2) (fun xr11 r11 Er11 Ir11 hv => ?_) hv
        refine vw_X12_towards (zrd (rfl : zi a1 = zi a1) ia1 g8.1) (hJ _ _) (zs Er9 (by decide : (1 : Int32) = zi 1)) g10 Er11 Ir11 (fun xr12 r12 Er12 Ir12 hv => ?_) hv
        exact vw_X12_strays_69 ia1 ia2 hp hJ Er12 Ir12 hv
    · have hv := hv.2 (fun q => cq ((zlt Er1 zrf Ir1 (hJ _ _)).mpr q))
      exact hp _ hJ hv
def v_X12_runs_39 (o : Nat) (post' : mJ → Prop) (k7' : mJ → Int → Prop) (J : mJ) (v1 : Int) (s1 : Int) (s2 : Int) : Prop := (0 ≤ s1 ∧ s1 < 6) ∧ ∀ J6, J6 = up2 J (o + 14) s1.toNat s2 → (0 ≤ v1 ∧ v1 < 6) ∧ ∀ J8, J8 = up2 J6 (o + 15) v1.toNat (-1) → ir (v1 + 1) ∧ ∀ y10, y10 = v1 + 1 → k7' J8 y10
theorem vw_X12_runs_39 {o : Nat}   {post : mI → Prop} {post' : mJ → Prop} {k7' : mJ → Int → Prop} {k7 : mI → Int32 → Prop} (hp : ∀ (J1 : mJ), irm J1 → post' J1 → post (zz J1)) (hk7 : ∀ (J : mJ) (xv1 : Int32) (v1 : Int), irm J → xv1 = zi v1 → ir v1 → k7' J v1 → k7 (zz J) xv1) {J : mJ} {xv1 : Int32} {v1 : Int} {xs1 : Int32} {s1 : Int} {xs2 : Int32} {s2 : Int} (hJ : irm J) (ev1 : xv1 = zi v1) (iv1 : ir v1) (es1 : xs1 = zi s1) (is1 : ir s1) (es2 : xs2 = zi s2) (is2 : ir s2) (hv : v_X12_runs_39 o post' k7' J v1 s1 s2) : w_X12_runs_39 o post k7 (zz J) xv1 xs1 xs2 := by
  subst ev1
  subst es1
  subst es2
  unfold v_X12_runs_39 at hv
  unfold w_X12_runs_39
  obtain ⟨g5, hv⟩ := hv
  refine ⟨zvp (rfl : zi s1 = zi s1) is1 g5.1 g5.2, ?_⟩
  intro I1 eI1
  obtain ⟨J6, eJ6⟩ : ∃ q9 : mJ, q9 = up2 J (o + 14) s1.toNat s2 := ⟨_, rfl⟩
  have eI1 : I1 = zz J6 := by rw [eI1, eJ6]; exact zupa (rfl : zi s1 = zi s1) is1 g5.1 (rfl : zi s2 = zi s2)
  subst eI1
  have hv := hv J6 eJ6
  have hJ : irm J6 := by rw [eJ6]; exact irm_up hJ is2
  obtain ⟨g7, hv⟩ := hv
  refine ⟨zvp (rfl : zi v1 = zi v1) iv1 g7.1 g7.2, ?_⟩
  intro I1 eI1
  obtain ⟨J8, eJ8⟩ : ∃ q9 : mJ, q9 = up2 J6 (o + 15) v1.toNat (-1) := ⟨_, rfl⟩
  have eI1 : I1 = zz J8 := by rw [eI1, eJ8]; exact zupa (rfl : zi v1 = zi v1) iv1 g7.1 (by decide : ((-1) : Int32) = zi (-1))
  subst eI1
  have hv := hv J8 eJ8
  have hJ : irm J8 := by rw [eJ8]; exact irm_up hJ (by decide : ir (-1))
  obtain ⟨g9, hv⟩ := hv
  intro xy10 exy10
  obtain ⟨y10, eyy10⟩ : ∃ q9 : Int, q9 = v1 + 1 := ⟨_, rfl⟩
  have hv := hv y10 eyy10
  have Ey10 : xy10 = zi y10 := exy10.trans (((za (rfl : zi v1 = zi v1) (by decide : (1 : Int32) = zi 1))).trans (congrArg zi eyy10.symm))
  have Iy10 : ir y10 := by rw [eyy10]; exact g9
  clear exy10
  exact hk7 _ _ _ hJ Ey10 Iy10 hv
def v_X12_runs_7 (o : Nat) (post' : mJ → Prop) (k55' : mJ → Int → Prop) (J : mJ) (v1 : Int) : Prop := ∀ ZZ : (mJ → Int → Prop), (∀ (J : mJ) (v1 : Int), (v_X12_people J o (fun r2 => (r2 ≤ v1 → k55' J 0) ∧ (¬ r2 ≤ v1 → (0 ≤ v1 ∧ v1 < 6) ∧ ∀ J4, J4 = up2 J (o + 13) v1.toNat 0 → ((J4 o 22) = 0 → (v_X12_runs_39 o post' ZZ) J4 v1 v1 (-1)) ∧ (¬ (J4 o 22) = 0 → (v_X12_runs_39 o post' ZZ) J4 v1 v1 0)))) → ZZ J v1) → ZZ J v1
theorem vw_X12_runs_7 {o : Nat}   {post : mI → Prop} {post' : mJ → Prop} {k55' : mJ → Int → Prop} {k55 : mI → Int32 → Prop} (hp : ∀ (J1 : mJ), irm J1 → post' J1 → post (zz J1)) (hk55 : ∀ (J : mJ) (xv1 : Int32) (v1 : Int), irm J → xv1 = zi v1 → ir v1 → k55' J v1 → k55 (zz J) xv1) {J : mJ} {xv1 : Int32} {v1 : Int} (hJ : irm J) (ev1 : xv1 = zi v1) (iv1 : ir v1) (hv : v_X12_runs_7 o post' k55' J v1) : w_X12_runs_7 o post k55 (zz J) xv1 := by
  subst ev1
  unfold v_X12_runs_7 at hv
  unfold w_X12_runs_7
  intro ZZ hZ
  refine hv (fun J v1 => ∀ (xv1 : Int32), irm J → xv1 = zi v1 → ir v1 → ZZ (zz J) xv1) ?_ _ hJ rfl iv1
  clear hv hJ iv1
  intro J v1 hv xv1 hJ ev1 iv1
  subst ev1
  refine hZ _ _ ?_
  refine vw_X12_people hJ  (fun xr2 r2 Er2 Ir2 hv => ?_) hv
  refine ⟨fun cq => ?_, fun cq => ?_⟩
  · have hv := hv.1 ((zle Er2 (rfl : zi v1 = zi v1) Ir2 iv1).mp cq)
    exact hk55 _ _ _ hJ (by decide : (0 : Int32) = zi 0) (by decide : ir 0) hv
  · have hv := hv.2 (fun q => cq ((zle Er2 (rfl : zi v1 = zi v1) Ir2 iv1).mpr q))
    obtain ⟨g3, hv⟩ := hv
    refine ⟨zvp (rfl : zi v1 = zi v1) iv1 g3.1 g3.2, ?_⟩
    intro I1 eI1
    obtain ⟨J4, eJ4⟩ : ∃ q9 : mJ, q9 = up2 J (o + 13) v1.toNat 0 := ⟨_, rfl⟩
    have eI1 : I1 = zz J4 := by rw [eI1, eJ4]; exact zupa (rfl : zi v1 = zi v1) iv1 g3.1 (by decide : (0 : Int32) = zi 0)
    subst eI1
    have hv := hv J4 eJ4
    have hJ : irm J4 := by rw [eJ4]; exact irm_up hJ (by decide : ir 0)
    refine ⟨fun cq => ?_, fun cq => ?_⟩
    · have hv := hv.1 ((zeq zrf (by decide : (0 : Int32) = zi 0) (hJ _ _) (by decide : ir 0)).mp cq)
      refine vw_X12_runs_39  hp ?_ hJ (rfl : zi v1 = zi v1) iv1 (rfl : zi v1 = zi v1) iv1 (by decide : ((-1) : Int32) = zi (-1)) (by decide : ir (-1)) hv
      · intro qq xx vv hJ ev1 iv1 hv
        exact hv _ hJ ev1 iv1
    · have hv := hv.2 (fun q => cq ((zeq zrf (by decide : (0 : Int32) = zi 0) (hJ _ _) (by decide : ir 0)).mpr q))
      refine vw_X12_runs_39  hp ?_ hJ (rfl : zi v1 = zi v1) iv1 (rfl : zi v1 = zi v1) iv1 (by decide : (0 : Int32) = zi 0) (by decide : ir 0) hv
      · intro qq xx vv hJ ev1 iv1 hv
        exact hv _ hJ ev1 iv1
def v_X12_runs_101 (o : Nat) (post' : mJ → Prop) (k63' : mJ → Int → Int → Prop) (J : mJ) (v1 : Int) (v2 : Int) : Prop := ir (100 * v2) ∧ ir ((100 * v2) + v1) ∧ (0 ≤ v2 ∧ v2 < 6) ∧ (0 ≤ ((100 * v2) + v1) ∧ ((100 * v2) + v1) < 600) ∧ ∀ J20, J20 = up2 J (o + 12) (((100 * v2) + v1).toNat) (J (o + 14) v2.toNat) → ir (v2 + 1) ∧ ∀ y22, y22 = v2 + 1 → k63' J20 v1 y22
theorem vw_X12_runs_101 {o : Nat}   {post : mI → Prop} {post' : mJ → Prop} {k63' : mJ → Int → Int → Prop} {k63 : mI → Int32 → Int32 → Prop} (hp : ∀ (J1 : mJ), irm J1 → post' J1 → post (zz J1)) (hk63 : ∀ (J : mJ) (xv1 : Int32) (v1 : Int) (xv2 : Int32) (v2 : Int), irm J → xv1 = zi v1 → ir v1 → xv2 = zi v2 → ir v2 → k63' J v1 v2 → k63 (zz J) xv1 xv2) {J : mJ} {xv1 : Int32} {v1 : Int} {xv2 : Int32} {v2 : Int} (hJ : irm J) (ev1 : xv1 = zi v1) (iv1 : ir v1) (ev2 : xv2 = zi v2) (iv2 : ir v2) (hv : v_X12_runs_101 o post' k63' J v1 v2) : w_X12_runs_101 o post k63 (zz J) xv1 xv2 := by
  subst ev1
  subst ev2
  unfold v_X12_runs_101 at hv
  unfold w_X12_runs_101
  obtain ⟨g16, hv⟩ := hv
  obtain ⟨g17, hv⟩ := hv
  obtain ⟨g18, hv⟩ := hv
  refine ⟨zvp (rfl : zi v2 = zi v2) iv2 g18.1 g18.2, ?_⟩
  obtain ⟨g19, hv⟩ := hv
  refine ⟨zvp (za (zm (by decide : (100 : Int32) = zi 100) (rfl : zi v2 = zi v2)) (rfl : zi v1 = zi v1)) g17 g19.1 g19.2, ?_⟩
  intro I1 eI1
  obtain ⟨J20, eJ20⟩ : ∃ q9 : mJ, q9 = up2 J (o + 12) (((100 * v2) + v1).toNat) (J (o + 14) v2.toNat) := ⟨_, rfl⟩
  have eI1 : I1 = zz J20 := by rw [eI1, eJ20]; exact zupa (za (zm (by decide : (100 : Int32) = zi 100) (rfl : zi v2 = zi v2)) (rfl : zi v1 = zi v1)) g17 g19.1 (zrd (rfl : zi v2 = zi v2) iv2 g18.1)
  subst eI1
  have hv := hv J20 eJ20
  have hJ : irm J20 := by rw [eJ20]; exact irm_up hJ (hJ _ _)
  obtain ⟨g21, hv⟩ := hv
  intro xy22 exy22
  obtain ⟨y22, eyy22⟩ : ∃ q9 : Int, q9 = v2 + 1 := ⟨_, rfl⟩
  have hv := hv y22 eyy22
  have Ey22 : xy22 = zi y22 := exy22.trans (((za (rfl : zi v2 = zi v2) (by decide : (1 : Int32) = zi 1))).trans (congrArg zi eyy22.symm))
  have Iy22 : ir y22 := by rw [eyy22]; exact g21
  clear exy22
  exact hk63 _ _ _ _ _ hJ (rfl : zi v1 = zi v1) iv1 Ey22 Iy22 hv
def v_X12_runs_63 (o : Nat) (post' : mJ → Prop) (k55' : mJ → Int → Prop) (J : mJ) (v1 : Int) (v2 : Int) : Prop := ∀ ZZ : (mJ → Int → Int → Prop), (∀ (J : mJ) (v1 : Int) (v2 : Int), (v_X12_people J o (fun r11 => (r11 ≤ v2 → ir (v1 + 1) ∧ ∀ y13, y13 = v1 + 1 → k55' J y13) ∧ (¬ r11 ≤ v2 → ((J o 22) = 0 → (v2 = (J o 17) → (v_X12_runs_101 o post' ZZ) J v1 v2) ∧ (¬ v2 = (J o 17) → v_X12_walks J o v2 v1 (fun J14 => (v_X12_runs_101 o post' ZZ) J14 v1 v2))) ∧ (¬ (J o 22) = 0 → v_X12_strays J o v2 v1 (fun J15 => (v_X12_runs_101 o post' ZZ) J15 v1 v2))))) → ZZ J v1 v2) → ZZ J v1 v2
theorem vw_X12_runs_63 {o : Nat}   {post : mI → Prop} {post' : mJ → Prop} {k55' : mJ → Int → Prop} {k55 : mI → Int32 → Prop} (hp : ∀ (J1 : mJ), irm J1 → post' J1 → post (zz J1)) (hk55 : ∀ (J : mJ) (xv1 : Int32) (v1 : Int), irm J → xv1 = zi v1 → ir v1 → k55' J v1 → k55 (zz J) xv1) {J : mJ} {xv1 : Int32} {v1 : Int} {xv2 : Int32} {v2 : Int} (hJ : irm J) (ev1 : xv1 = zi v1) (iv1 : ir v1) (ev2 : xv2 = zi v2) (iv2 : ir v2) (hv : v_X12_runs_63 o post' k55' J v1 v2) : w_X12_runs_63 o post k55 (zz J) xv1 xv2 := by
  subst ev1
  subst ev2
  unfold v_X12_runs_63 at hv
  unfold w_X12_runs_63
  intro ZZ hZ
  refine hv (fun J v1 v2 => ∀ (xv1 : Int32) (xv2 : Int32), irm J → xv1 = zi v1 → ir v1 → xv2 = zi v2 → ir v2 → ZZ (zz J) xv1 xv2) ?_ _ _ hJ rfl iv1 rfl iv2
  clear hv hJ iv1 iv2
  intro J v1 v2 hv xv1 xv2 hJ ev1 iv1 ev2 iv2
  subst ev1
  subst ev2
  refine hZ _ _ _ ?_
  refine vw_X12_people hJ  (fun xr11 r11 Er11 Ir11 hv => ?_) hv
  refine ⟨fun cq => ?_, fun cq => ?_⟩
  · have hv := hv.1 ((zle Er11 (rfl : zi v2 = zi v2) Ir11 iv2).mp cq)
    obtain ⟨g12, hv⟩ := hv
    intro xy13 exy13
    obtain ⟨y13, eyy13⟩ : ∃ q9 : Int, q9 = v1 + 1 := ⟨_, rfl⟩
    have hv := hv y13 eyy13
    have Ey13 : xy13 = zi y13 := exy13.trans (((za (rfl : zi v1 = zi v1) (by decide : (1 : Int32) = zi 1))).trans (congrArg zi eyy13.symm))
    have Iy13 : ir y13 := by rw [eyy13]; exact g12
    clear exy13
    exact hk55 _ _ _ hJ Ey13 Iy13 hv
  · have hv := hv.2 (fun q => cq ((zle Er11 (rfl : zi v2 = zi v2) Ir11 iv2).mpr q))
    refine ⟨fun cq => ?_, fun cq => ?_⟩
    · have hv := hv.1 ((zeq zrf (by decide : (0 : Int32) = zi 0) (hJ _ _) (by decide : ir 0)).mp cq)
      refine ⟨fun cq => ?_, fun cq => ?_⟩
      · have hv := hv.1 ((zeq (rfl : zi v2 = zi v2) zrf iv2 (hJ _ _)).mp cq)
        refine vw_X12_runs_101  hp ?_ hJ (rfl : zi v1 = zi v1) iv1 (rfl : zi v2 = zi v2) iv2 hv
        · intro qq xx vv xx vv hJ ev1 iv1 ev2 iv2 hv
          exact hv _ _ hJ ev1 iv1 ev2 iv2
      · have hv := hv.2 (fun q => cq ((zeq (rfl : zi v2 = zi v2) zrf iv2 (hJ _ _)).mpr q))
        refine vw_X12_walks hJ (rfl : zi v2 = zi v2) iv2 (rfl : zi v1 = zi v1) iv1 (fun J14 hJ hv => ?_) hv
        refine vw_X12_runs_101  hp ?_ hJ (rfl : zi v1 = zi v1) iv1 (rfl : zi v2 = zi v2) iv2 hv
        · intro qq xx vv xx vv hJ ev1 iv1 ev2 iv2 hv
          exact hv _ _ hJ ev1 iv1 ev2 iv2
    · have hv := hv.2 (fun q => cq ((zeq zrf (by decide : (0 : Int32) = zi 0) (hJ _ _) (by decide : ir 0)).mpr q))
      refine vw_X12_strays hJ (rfl : zi v2 = zi v2) iv2 (rfl : zi v1 = zi v1) iv1 (fun J15 hJ hv => ?_) hv
      refine vw_X12_runs_101  hp ?_ hJ (rfl : zi v1 = zi v1) iv1 (rfl : zi v2 = zi v2) iv2 hv
      · intro qq xx vv xx vv hJ ev1 iv1 ev2 iv2 hv
        exact hv _ _ hJ ev1 iv1 ev2 iv2
def v_X12_runs_55 (o : Nat) (post' : mJ → Prop) (J : mJ) (v1 : Int) : Prop := ∀ ZZ : (mJ → Int → Prop), (∀ (J : mJ) (v1 : Int), ((100 ≤ v1 → post' J) ∧ (¬ 100 ≤ v1 → (v_X12_runs_63 o post' ZZ) J v1 0)) → ZZ J v1) → ZZ J v1
theorem vw_X12_runs_55 {o : Nat}   {post : mI → Prop} {post' : mJ → Prop} (hp : ∀ (J1 : mJ), irm J1 → post' J1 → post (zz J1)) {J : mJ} {xv1 : Int32} {v1 : Int} (hJ : irm J) (ev1 : xv1 = zi v1) (iv1 : ir v1) (hv : v_X12_runs_55 o post' J v1) : w_X12_runs_55 o post (zz J) xv1 := by
  subst ev1
  unfold v_X12_runs_55 at hv
  unfold w_X12_runs_55
  intro ZZ hZ
  refine hv (fun J v1 => ∀ (xv1 : Int32), irm J → xv1 = zi v1 → ir v1 → ZZ (zz J) xv1) ?_ _ hJ rfl iv1
  clear hv hJ iv1
  intro J v1 hv xv1 hJ ev1 iv1
  subst ev1
  refine hZ _ _ ?_
  refine ⟨fun cq => ?_, fun cq => ?_⟩
  · have hv := hv.1 ((zle (by decide : (100 : Int32) = zi 100) (rfl : zi v1 = zi v1) (by decide : ir 100) iv1).mp cq)
    exact hp _ hJ hv
  · have hv := hv.2 (fun q => cq ((zle (by decide : (100 : Int32) = zi 100) (rfl : zi v1 = zi v1) (by decide : ir 100) iv1).mpr q))
    refine vw_X12_runs_63  hp ?_ hJ (rfl : zi v1 = zi v1) iv1 (by decide : (0 : Int32) = zi 0) (by decide : ir 0) hv
    · intro qq xx vv hJ ev1 iv1 hv
      exact hv _ hJ ev1 iv1
def v_X12_runs (J : mJ) (o : Nat) (post' : mJ → Prop) : Prop := ∀ J1, J1 = up2 J o 25 0 → (v_X12_runs_7 o post' (v_X12_runs_55 o post')) J1 0
theorem vw_X12_runs {J : mJ} {o : Nat} (hJ : irm J)   {post : mI → Prop} {post' : mJ → Prop} (hp : ∀ (J1 : mJ), irm J1 → post' J1 → post (zz J1)) (hv : v_X12_runs J o post') : w_X12_runs (zz J) o post := by
  unfold v_X12_runs at hv
  unfold w_X12_runs
  intro I1 eI1
  obtain ⟨J1, eJ1⟩ : ∃ q9 : mJ, q9 = up2 J o 25 0 := ⟨_, rfl⟩
  have eI1 : I1 = zz J1 := by rw [eI1, eJ1]; exact zup (by decide : (0 : Int32) = zi 0)
  subst eI1
  have hv := hv J1 eJ1
  have hJ : irm J1 := by rw [eJ1]; exact irm_up hJ (by decide : ir 0)
  refine vw_X12_runs_7  hp ?_ hJ (by decide : (0 : Int32) = zi 0) (by decide : ir 0) hv
  · intro qq xx vv hJ ev1 iv1 hv
    exact vw_X12_runs_55  hp hJ ev1 iv1 hv
def v_X12_goalsEnd (J : mJ) (o : Nat) (a1 : Int) (post' : Int → Prop) : Prop := ir (100 * a1) ∧ ir ((100 * a1) + 99) ∧ (0 ≤ ((100 * a1) + 99) ∧ ((100 * a1) + 99) < 600) ∧ post' (J (o + 12) ((100 * a1) + 99).toNat)
theorem vw_X12_goalsEnd {J : mJ} {o : Nat} {xa1 : Int32} {a1 : Int} (hJ : irm J)   (ea1 : xa1 = zi a1) (ia1 : ir a1) {post : Int32 → Prop} {post' : Int → Prop} (hp : ∀ (x : Int32) (r : Int), x = zi r → ir r → post' r → post x) (hv : v_X12_goalsEnd J o a1 post') : w_X12_goalsEnd (zz J) o xa1 post := by
  subst ea1
  unfold v_X12_goalsEnd at hv
  unfold w_X12_goalsEnd
  obtain ⟨g1, hv⟩ := hv
  obtain ⟨g2, hv⟩ := hv
  obtain ⟨g3, hv⟩ := hv
  refine ⟨zvp (za (zm (by decide : (100 : Int32) = zi 100) (rfl : zi a1 = zi a1)) (by decide : (99 : Int32) = zi 99)) g2 g3.1 g3.2, ?_⟩
  exact hp _ _ (zrd (za (zm (by decide : (100 : Int32) = zi 100) (rfl : zi a1 = zi a1)) (by decide : (99 : Int32) = zi 99)) g2 g3.1) (hJ _ _) hv
def v_X12_person_103 (o : Nat) (a1 : Int) (a2 : Int) (a3 : Int) (post' : Int → mJ → Prop) (J : mJ) : Prop := v_X12_runs J o (fun J15 => (¬ a3 = 6 → v_X12_goalsEnd J15 o a2 (fun r16 => post' r16 J15)) ∧ (a3 = 6 → (0 ≤ a2 ∧ a2 < 6) ∧ post' (J15 (o + 15) a2.toNat) J15))
theorem vw_X12_person_103 {o : Nat} {a1 : Int} {a2 : Int} {a3 : Int}  (ia1 : ir a1) (ia2 : ir a2) (ia3 : ir a3) {post : Int32 → mI → Prop} {post' : Int → mJ → Prop} (hp : ∀ (x : Int32) (r : Int) (J1 : mJ), x = zi r → ir r → irm J1 → post' r J1 → post x (zz J1)) {J : mJ} (hJ : irm J) (hv : v_X12_person_103 o a1 a2 a3 post' J) : w_X12_person_103 o (zi a1) (zi a2) (zi a3) post (zz J) := by
  unfold v_X12_person_103 at hv
  unfold w_X12_person_103
  refine vw_X12_runs hJ  (fun J15 hJ hv => ?_) hv
  refine ⟨fun cq => ?_, fun cq => ?_⟩
  · have hv := hv.1 (fun q => cq ((zeq (rfl : zi a3 = zi a3) (by decide : (6 : Int32) = zi 6) ia3 (by decide : ir 6)).mpr q))
    refine vw_X12_goalsEnd hJ (rfl : zi a2 = zi a2) ia2 (fun xr16 r16 Er16 Ir16 hv => ?_) hv
    exact hp _ _ _ Er16 Ir16 hJ hv
  · have hv := hv.2 ((zeq (rfl : zi a3 = zi a3) (by decide : (6 : Int32) = zi 6) ia3 (by decide : ir 6)).mp cq)
    obtain ⟨g17, hv⟩ := hv
    refine ⟨zvp (rfl : zi a2 = zi a2) ia2 g17.1 g17.2, ?_⟩
    exact hp _ _ _ (zrd (rfl : zi a2 = zi a2) ia2 g17.1) (hJ _ _) hJ hv
def v_X12_person (J : mJ) (o : Nat) (a1 : Int) (a2 : Int) (a3 : Int) (post' : Int → mJ → Prop) : Prop := v_X12_isHouse J o a1 (fun b1 J2 => (b1 = false → post' (-2) J2) ∧ (b1 = true → v_X12_isPerson J2 o a2 (fun b3 => (b3 = true → v_X12_isIn a3 0 5 (fun b4 => (b4 = false → v_X12_told J2 o a2 5 (fun r5 => ir (9 + r5) ∧ v_X12_isIn a3 10 (9 + r5) (fun b7 => (b7 = false → v_X12_isIn a3 100 199 (fun b8 => (b8 = false → (a3 = 6 → (v_X12_person_103 o a1 a2 a3 post') J2) ∧ (¬ a3 = 6 → (a3 = 7 → (v_X12_person_103 o a1 a2 a3 post') J2) ∧ (¬ a3 = 7 → post' (-2) J2))) ∧ (b8 = true → ir (a3 - 100) ∧ v_X12_shoeOf J2 o a2 (a3 - 100) (fun r10 => post' r10 J2)))) ∧ (b7 = true → ir (6 + a3) ∧ ir ((6 + a3) - 10) ∧ v_X12_told J2 o a2 ((6 + a3) - 10) (fun r13 => post' r13 J2))))) ∧ (b4 = true → v_X12_told J2 o a2 a3 (fun r14 => post' r14 J2)))) ∧ (b3 = false → post' (-2) J2))))
theorem vw_X12_person {J : mJ} {o : Nat} {xa1 : Int32} {a1 : Int} {xa2 : Int32} {a2 : Int} {xa3 : Int32} {a3 : Int} (hJ : irm J)   (ea1 : xa1 = zi a1) (ia1 : ir a1) (ea2 : xa2 = zi a2) (ia2 : ir a2) (ea3 : xa3 = zi a3) (ia3 : ir a3) {post : Int32 → mI → Prop} {post' : Int → mJ → Prop} (hp : ∀ (x : Int32) (r : Int) (J1 : mJ), x = zi r → ir r → irm J1 → post' r J1 → post x (zz J1)) (hv : v_X12_person J o a1 a2 a3 post') : w_X12_person (zz J) o xa1 xa2 xa3 post := by
  subst ea1
  subst ea2
  subst ea3
  unfold v_X12_person at hv
  unfold w_X12_person
  refine vw_X12_isHouse hJ (rfl : zi a1 = zi a1) ia1 (fun b1 J2 hJ hv => ?_) hv
  refine ⟨fun cq => ?_, fun cq => ?_⟩
  · have hv := hv.1 cq
    exact hp _ _ _ (by decide : ((-2) : Int32) = zi (-2)) (by decide : ir (-2)) hJ hv
  · have hv := hv.2 cq
    refine vw_X12_isPerson hJ (rfl : zi a2 = zi a2) ia2 (fun b3  hv => ?_) hv
    refine ⟨fun cq => ?_, fun cq => ?_⟩
    · have hv := hv.1 cq
      refine vw_X12_isIn (rfl : zi a3 = zi a3) ia3 (by decide : (0 : Int32) = zi 0) (by decide : ir 0) (by decide : (5 : Int32) = zi 5) (by decide : ir 5) (fun b4  hv => ?_) hv
      refine ⟨fun cq => ?_, fun cq => ?_⟩
      · have hv := hv.1 cq
        refine vw_X12_told hJ (rfl : zi a2 = zi a2) ia2 (by decide : (5 : Int32) = zi 5) (by decide : ir 5) (fun xr5 r5 Er5 Ir5 hv => ?_) hv
        obtain ⟨g6, hv⟩ := hv
        refine vw_X12_isIn (rfl : zi a3 = zi a3) ia3 (by decide : (10 : Int32) = zi 10) (by decide : ir 10) (za (by decide : (9 : Int32) = zi 9) Er5) g6 (fun b7  hv => ?_) hv
        refine ⟨fun cq => ?_, fun cq => ?_⟩
        · have hv := hv.1 cq
          refine vw_X12_isIn (rfl : zi a3 = zi a3) ia3 (by decide : (100 : Int32) = zi 100) (by decide : ir 100) (by decide : (199 : Int32) = zi 199) (by decide : ir 199) (fun b8  hv => ?_) hv
          refine ⟨fun cq => ?_, fun cq => ?_⟩
          · have hv := hv.1 cq
            refine ⟨fun cq => ?_, fun cq => ?_⟩
            · have hv := hv.1 ((zeq (rfl : zi a3 = zi a3) (by decide : (6 : Int32) = zi 6) ia3 (by decide : ir 6)).mp cq)
              exact vw_X12_person_103 ia1 ia2 ia3 hp hJ hv
            · have hv := hv.2 (fun q => cq ((zeq (rfl : zi a3 = zi a3) (by decide : (6 : Int32) = zi 6) ia3 (by decide : ir 6)).mpr q))
              refine ⟨fun cq => ?_, fun cq => ?_⟩
              · have hv := hv.1 ((zeq (rfl : zi a3 = zi a3) (by decide : (7 : Int32) = zi 7) ia3 (by decide : ir 7)).mp cq)
                exact vw_X12_person_103 ia1 ia2 ia3 hp hJ hv
              · have hv := hv.2 (fun q => cq ((zeq (rfl : zi a3 = zi a3) (by decide : (7 : Int32) = zi 7) ia3 (by decide : ir 7)).mpr q))
                exact hp _ _ _ (by decide : ((-2) : Int32) = zi (-2)) (by decide : ir (-2)) hJ hv
          · have hv := hv.2 cq
            obtain ⟨g9, hv⟩ := hv
            refine vw_X12_shoeOf hJ (rfl : zi a2 = zi a2) ia2 (zs (rfl : zi a3 = zi a3) (by decide : (100 : Int32) = zi 100)) g9 (fun xr10 r10 Er10 Ir10 hv => ?_) hv
            exact hp _ _ _ Er10 Ir10 hJ hv
        · have hv := hv.2 cq
          obtain ⟨g11, hv⟩ := hv
          obtain ⟨g12, hv⟩ := hv
          refine vw_X12_told hJ (rfl : zi a2 = zi a2) ia2 (zs (za (by decide : (6 : Int32) = zi 6) (rfl : zi a3 = zi a3)) (by decide : (10 : Int32) = zi 10)) g12 (fun xr13 r13 Er13 Ir13 hv => ?_) hv
          exact hp _ _ _ Er13 Ir13 hJ hv
      · have hv := hv.2 cq
        refine vw_X12_told hJ (rfl : zi a2 = zi a2) ia2 (rfl : zi a3 = zi a3) ia3 (fun xr14 r14 Er14 Ir14 hv => ?_) hv
        exact hp _ _ _ Er14 Ir14 hJ hv
    · have hv := hv.2 cq
      exact hp _ _ _ (by decide : ((-2) : Int32) = zi (-2)) (by decide : ir (-2)) hJ hv
def v_X12_tread (J : mJ) (o : Nat) (a1 : Int) (a2 : Int) (a3 : Int) (post' : Int → mJ → Prop) : Prop := v_X12_isHouse J o a1 (fun b1 J2 => (b1 = true → v_X12_runs J2 o (fun J3 => (¬ a2 = (-1) → ir ((J3 o 25) - 1) ∧ v_X12_isIn a2 0 ((J3 o 25) - 1) (fun b5 => (b5 = true → (a3 = 0 → (0 ≤ a2 ∧ a2 < 640) ∧ post' (J3 (o + 4) a2.toNat) J3) ∧ (a3 = 1 → (0 ≤ a2 ∧ a2 < 640) ∧ post' (J3 (o + 5) a2.toNat) J3) ∧ (a3 = 2 → (0 ≤ a2 ∧ a2 < 640) ∧ post' (J3 (o + 6) a2.toNat) J3) ∧ (a3 = 3 → (0 ≤ a2 ∧ a2 < 640) ∧ post' (J3 (o + 7) a2.toNat) J3) ∧ (a3 = 4 → (0 ≤ a2 ∧ a2 < 640) ∧ post' (J3 (o + 8) a2.toNat) J3) ∧ (a3 = 5 → (0 ≤ a2 ∧ a2 < 640) ∧ post' (J3 (o + 9) a2.toNat) J3) ∧ (a3 = 6 → (0 ≤ a2 ∧ a2 < 640) ∧ post' (J3 (o + 10) a2.toNat) J3) ∧ (a3 = 7 → (0 ≤ a2 ∧ a2 < 640) ∧ post' (J3 (o + 11) a2.toNat) J3) ∧ (¬ a3 = 0 → ¬ a3 = 1 → ¬ a3 = 2 → ¬ a3 = 3 → ¬ a3 = 4 → ¬ a3 = 5 → ¬ a3 = 6 → ¬ a3 = 7 → post' (-2) J3)) ∧ (b5 = false → post' (-2) J3))) ∧ (a2 = (-1) → (¬ a3 = 0 → post' (-2) J3) ∧ (a3 = 0 → post' (J3 o 25) J3)))) ∧ (b1 = false → post' (-2) J2))
theorem vw_X12_tread {J : mJ} {o : Nat} {xa1 : Int32} {a1 : Int} {xa2 : Int32} {a2 : Int} {xa3 : Int32} {a3 : Int} (hJ : irm J)   (ea1 : xa1 = zi a1) (ia1 : ir a1) (ea2 : xa2 = zi a2) (ia2 : ir a2) (ea3 : xa3 = zi a3) (ia3 : ir a3) {post : Int32 → mI → Prop} {post' : Int → mJ → Prop} (hp : ∀ (x : Int32) (r : Int) (J1 : mJ), x = zi r → ir r → irm J1 → post' r J1 → post x (zz J1)) (hv : v_X12_tread J o a1 a2 a3 post') : w_X12_tread (zz J) o xa1 xa2 xa3 post := by
  subst ea1
  subst ea2
  subst ea3
  unfold v_X12_tread at hv
  unfold w_X12_tread
  refine vw_X12_isHouse hJ (rfl : zi a1 = zi a1) ia1 (fun b1 J2 hJ hv => ?_) hv
  refine ⟨fun cq => ?_, fun cq => ?_⟩
  · have hv := hv.1 cq
    refine vw_X12_runs hJ  (fun J3 hJ hv => ?_) hv
    refine ⟨fun cq => ?_, fun cq => ?_⟩
    · have hv := hv.1 (fun q => cq ((zeq (rfl : zi a2 = zi a2) (by decide : ((-1) : Int32) = zi (-1)) ia2 (by decide : ir (-1))).mpr q))
      obtain ⟨g4, hv⟩ := hv
      refine vw_X12_isIn (rfl : zi a2 = zi a2) ia2 (by decide : (0 : Int32) = zi 0) (by decide : ir 0) (zs zrf (by decide : (1 : Int32) = zi 1)) g4 (fun b5  hv => ?_) hv
      refine ⟨fun cq => ?_, fun cq => ?_⟩
      · have hv := hv.1 cq
        refine ⟨fun cq => ?_, fun cq => ?_, fun cq => ?_, fun cq => ?_, fun cq => ?_, fun cq => ?_, fun cq => ?_, fun cq => ?_, fun c0 c1 c2 c3 c4 c5 c6 c7 => ?_⟩
        · have hv := hv.1 ((zeq (rfl : zi a3 = zi a3) (by decide : (0 : Int32) = zi 0) ia3 (by decide : ir 0)).mp cq)
          obtain ⟨g6, hv⟩ := hv
          refine ⟨zvp (rfl : zi a2 = zi a2) ia2 g6.1 g6.2, ?_⟩
          exact hp _ _ _ (zrd (rfl : zi a2 = zi a2) ia2 g6.1) (hJ _ _) hJ hv
        · have hv := hv.2.1 ((zeq (rfl : zi a3 = zi a3) (by decide : (1 : Int32) = zi 1) ia3 (by decide : ir 1)).mp cq)
          obtain ⟨g7, hv⟩ := hv
          refine ⟨zvp (rfl : zi a2 = zi a2) ia2 g7.1 g7.2, ?_⟩
          exact hp _ _ _ (zrd (rfl : zi a2 = zi a2) ia2 g7.1) (hJ _ _) hJ hv
        · have hv := hv.2.2.1 ((zeq (rfl : zi a3 = zi a3) (by decide : (2 : Int32) = zi 2) ia3 (by decide : ir 2)).mp cq)
          obtain ⟨g8, hv⟩ := hv
          refine ⟨zvp (rfl : zi a2 = zi a2) ia2 g8.1 g8.2, ?_⟩
          exact hp _ _ _ (zrd (rfl : zi a2 = zi a2) ia2 g8.1) (hJ _ _) hJ hv
        · have hv := hv.2.2.2.1 ((zeq (rfl : zi a3 = zi a3) (by decide : (3 : Int32) = zi 3) ia3 (by decide : ir 3)).mp cq)
          obtain ⟨g9, hv⟩ := hv
          refine ⟨zvp (rfl : zi a2 = zi a2) ia2 g9.1 g9.2, ?_⟩
          exact hp _ _ _ (zrd (rfl : zi a2 = zi a2) ia2 g9.1) (hJ _ _) hJ hv
        · have hv := hv.2.2.2.2.1 ((zeq (rfl : zi a3 = zi a3) (by decide : (4 : Int32) = zi 4) ia3 (by decide : ir 4)).mp cq)
          obtain ⟨g10, hv⟩ := hv
          refine ⟨zvp (rfl : zi a2 = zi a2) ia2 g10.1 g10.2, ?_⟩
          exact hp _ _ _ (zrd (rfl : zi a2 = zi a2) ia2 g10.1) (hJ _ _) hJ hv
        · have hv := hv.2.2.2.2.2.1 ((zeq (rfl : zi a3 = zi a3) (by decide : (5 : Int32) = zi 5) ia3 (by decide : ir 5)).mp cq)
          obtain ⟨g11, hv⟩ := hv
          refine ⟨zvp (rfl : zi a2 = zi a2) ia2 g11.1 g11.2, ?_⟩
          exact hp _ _ _ (zrd (rfl : zi a2 = zi a2) ia2 g11.1) (hJ _ _) hJ hv
        · have hv := hv.2.2.2.2.2.2.1 ((zeq (rfl : zi a3 = zi a3) (by decide : (6 : Int32) = zi 6) ia3 (by decide : ir 6)).mp cq)
          obtain ⟨g12, hv⟩ := hv
          refine ⟨zvp (rfl : zi a2 = zi a2) ia2 g12.1 g12.2, ?_⟩
          exact hp _ _ _ (zrd (rfl : zi a2 = zi a2) ia2 g12.1) (hJ _ _) hJ hv
        · have hv := hv.2.2.2.2.2.2.2.1 ((zeq (rfl : zi a3 = zi a3) (by decide : (7 : Int32) = zi 7) ia3 (by decide : ir 7)).mp cq)
          obtain ⟨g13, hv⟩ := hv
          refine ⟨zvp (rfl : zi a2 = zi a2) ia2 g13.1 g13.2, ?_⟩
          exact hp _ _ _ (zrd (rfl : zi a2 = zi a2) ia2 g13.1) (hJ _ _) hJ hv
        · have hv := hv.2.2.2.2.2.2.2.2 (fun q => c0 ((zeq (rfl : zi a3 = zi a3) (by decide : (0 : Int32) = zi 0) ia3 (by decide : ir 0)).mpr q)) (fun q => c1 ((zeq (rfl : zi a3 = zi a3) (by decide : (1 : Int32) = zi 1) ia3 (by decide : ir 1)).mpr q)) (fun q => c2 ((zeq (rfl : zi a3 = zi a3) (by decide : (2 : Int32) = zi 2) ia3 (by decide : ir 2)).mpr q)) (fun q => c3 ((zeq (rfl : zi a3 = zi a3) (by decide : (3 : Int32) = zi 3) ia3 (by decide : ir 3)).mpr q)) (fun q => c4 ((zeq (rfl : zi a3 = zi a3) (by decide : (4 : Int32) = zi 4) ia3 (by decide : ir 4)).mpr q)) (fun q => c5 ((zeq (rfl : zi a3 = zi a3) (by decide : (5 : Int32) = zi 5) ia3 (by decide : ir 5)).mpr q)) (fun q => c6 ((zeq (rfl : zi a3 = zi a3) (by decide : (6 : Int32) = zi 6) ia3 (by decide : ir 6)).mpr q)) (fun q => c7 ((zeq (rfl : zi a3 = zi a3) (by decide : (7 : Int32) = zi 7) ia3 (by decide : ir 7)).mpr q))
          exact hp _ _ _ (by decide : ((-2) : Int32) = zi (-2)) (by decide : ir (-2)) hJ hv
      · have hv := hv.2 cq
        exact hp _ _ _ (by decide : ((-2) : Int32) = zi (-2)) (by decide : ir (-2)) hJ hv
    · have hv := hv.2 ((zeq (rfl : zi a2 = zi a2) (by decide : ((-1) : Int32) = zi (-1)) ia2 (by decide : ir (-1))).mp cq)
      refine ⟨fun cq => ?_, fun cq => ?_⟩
      · have hv := hv.1 (fun q => cq ((zeq (rfl : zi a3 = zi a3) (by decide : (0 : Int32) = zi 0) ia3 (by decide : ir 0)).mpr q))
        exact hp _ _ _ (by decide : ((-2) : Int32) = zi (-2)) (by decide : ir (-2)) hJ hv
      · have hv := hv.2 ((zeq (rfl : zi a3 = zi a3) (by decide : (0 : Int32) = zi 0) ia3 (by decide : ir 0)).mp cq)
        exact hp _ _ _ zrf (hJ _ _) hJ hv
  · have hv := hv.2 cq
    exact hp _ _ _ (by decide : ((-2) : Int32) = zi (-2)) (by decide : ir (-2)) hJ hv
def v_X12_where (J : mJ) (o : Nat) (a1 : Int) (a2 : Int) (a3 : Int) (post' : Int → mJ → Prop) : Prop := v_X12_isHouse J o a1 (fun b1 J2 => (b1 = false → post' (-2) J2) ∧ (b1 = true → v_X12_isPerson J2 o a2 (fun b3 => (b3 = false → post' (-2) J2) ∧ (b3 = true → v_X12_isMinute o a3 (fun b4 => (b4 = true → v_X12_runs J2 o (fun J5 => ir (100 * a2) ∧ ir ((100 * a2) + a3) ∧ (0 ≤ ((100 * a2) + a3) ∧ ((100 * a2) + a3) < 600) ∧ post' (J5 (o + 12) ((100 * a2) + a3).toNat) J5)) ∧ (b4 = false → post' (-2) J2))))))
theorem vw_X12_where {J : mJ} {o : Nat} {xa1 : Int32} {a1 : Int} {xa2 : Int32} {a2 : Int} {xa3 : Int32} {a3 : Int} (hJ : irm J)   (ea1 : xa1 = zi a1) (ia1 : ir a1) (ea2 : xa2 = zi a2) (ia2 : ir a2) (ea3 : xa3 = zi a3) (ia3 : ir a3) {post : Int32 → mI → Prop} {post' : Int → mJ → Prop} (hp : ∀ (x : Int32) (r : Int) (J1 : mJ), x = zi r → ir r → irm J1 → post' r J1 → post x (zz J1)) (hv : v_X12_where J o a1 a2 a3 post') : w_X12_where (zz J) o xa1 xa2 xa3 post := by
  subst ea1
  subst ea2
  subst ea3
  unfold v_X12_where at hv
  unfold w_X12_where
  refine vw_X12_isHouse hJ (rfl : zi a1 = zi a1) ia1 (fun b1 J2 hJ hv => ?_) hv
  refine ⟨fun cq => ?_, fun cq => ?_⟩
  · have hv := hv.1 cq
    exact hp _ _ _ (by decide : ((-2) : Int32) = zi (-2)) (by decide : ir (-2)) hJ hv
  · have hv := hv.2 cq
    refine vw_X12_isPerson hJ (rfl : zi a2 = zi a2) ia2 (fun b3  hv => ?_) hv
    refine ⟨fun cq => ?_, fun cq => ?_⟩
    · have hv := hv.1 cq
      exact hp _ _ _ (by decide : ((-2) : Int32) = zi (-2)) (by decide : ir (-2)) hJ hv
    · have hv := hv.2 cq
      refine vw_X12_isMinute (rfl : zi a3 = zi a3) ia3 (fun b4  hv => ?_) hv
      refine ⟨fun cq => ?_, fun cq => ?_⟩
      · have hv := hv.1 cq
        refine vw_X12_runs hJ  (fun J5 hJ hv => ?_) hv
        obtain ⟨g6, hv⟩ := hv
        obtain ⟨g7, hv⟩ := hv
        obtain ⟨g8, hv⟩ := hv
        refine ⟨zvp (za (zm (by decide : (100 : Int32) = zi 100) (rfl : zi a2 = zi a2)) (rfl : zi a3 = zi a3)) g7 g8.1 g8.2, ?_⟩
        exact hp _ _ _ (zrd (za (zm (by decide : (100 : Int32) = zi 100) (rfl : zi a2 = zi a2)) (rfl : zi a3 = zi a3)) g7 g8.1) (hJ _ _) hJ hv
      · have hv := hv.2 cq
        exact hp _ _ _ (by decide : ((-2) : Int32) = zi (-2)) (by decide : ir (-2)) hJ hv
def v_X12_isNote (J : mJ) (o : Nat) (a1 : Int) (a2 : Int) (post' : Bool → Prop) : Prop := (0 ≤ a2 ∧ a2 < 640) ∧ (0 ≤ a2 ∧ a2 < 640) ∧ (¬ (andZ (shrZ (orZ (J (o + 10) a2.toNat) (J (o + 11) a2.toNat)) a1) 1) = 1 → post' false) ∧ ((andZ (shrZ (orZ (J (o + 10) a2.toNat) (J (o + 11) a2.toNat)) a1) 1) = 1 → post' true)
theorem vw_X12_isNote {J : mJ} {o : Nat} {xa1 : Int32} {a1 : Int} {xa2 : Int32} {a2 : Int} (hJ : irm J)   (ea1 : xa1 = zi a1) (ia1 : ir a1) (ea2 : xa2 = zi a2) (ia2 : ir a2) {post : Bool → Prop} {post' : Bool → Prop} (hp : ∀ (r : Bool), post' r → post r) (hv : v_X12_isNote J o a1 a2 post') : w_X12_isNote (zz J) o xa1 xa2 post := by
  subst ea1
  subst ea2
  unfold v_X12_isNote at hv
  unfold w_X12_isNote
  obtain ⟨g1, hv⟩ := hv
  refine ⟨zvp (rfl : zi a2 = zi a2) ia2 g1.1 g1.2, ?_⟩
  obtain ⟨g2, hv⟩ := hv
  refine ⟨zvp (rfl : zi a2 = zi a2) ia2 g2.1 g2.2, ?_⟩
  refine ⟨fun cq => ?_, fun cq => ?_⟩
  · have hv := hv.1 (fun q => cq ((zeq (z_and (z_shr (z_or (zrd (rfl : zi a2 = zi a2) ia2 g1.1) (zrd (rfl : zi a2 = zi a2) ia2 g2.1)) (rfl : zi a1 = zi a1)) (by decide : (1 : Int32) = zi 1)) (by decide : (1 : Int32) = zi 1) (ir_toInt _) (by decide : ir 1)).mpr q))
    exact hp _ hv
  · have hv := hv.2 ((zeq (z_and (z_shr (z_or (zrd (rfl : zi a2 = zi a2) ia2 g1.1) (zrd (rfl : zi a2 = zi a2) ia2 g2.1)) (rfl : zi a1 = zi a1)) (by decide : (1 : Int32) = zi 1)) (by decide : (1 : Int32) = zi 1) (ir_toInt _) (by decide : ir 1)).mp cq)
    exact hp _ hv
def v_X12_isGhost (J : mJ) (o : Nat) (a1 : Int) (a2 : Int) (post' : Bool → Prop) : Prop := (0 ≤ a2 ∧ a2 < 640) ∧ (¬ (andZ (shrZ (J (o + 11) a2.toNat) a1) 1) = 1 → post' false) ∧ ((andZ (shrZ (J (o + 11) a2.toNat) a1) 1) = 1 → (0 ≤ a2 ∧ a2 < 640) ∧ (0 ≤ (J (o + 9) a2.toNat) ∧ (J (o + 9) a2.toNat) < 640) ∧ (0 ≤ (J (o + 4) (J (o + 9) a2.toNat).toNat) ∧ (J (o + 4) (J (o + 9) a2.toNat).toNat) < 6) ∧ (0 ≤ a2 ∧ a2 < 640) ∧ ((J (o + 6) a2.toNat) ≤ (J (o + 15) (J (o + 4) (J (o + 9) a2.toNat).toNat).toNat) → post' false) ∧ (¬ (J (o + 6) a2.toNat) ≤ (J (o + 15) (J (o + 4) (J (o + 9) a2.toNat).toNat).toNat) → post' true))
theorem vw_X12_isGhost {J : mJ} {o : Nat} {xa1 : Int32} {a1 : Int} {xa2 : Int32} {a2 : Int} (hJ : irm J)   (ea1 : xa1 = zi a1) (ia1 : ir a1) (ea2 : xa2 = zi a2) (ia2 : ir a2) {post : Bool → Prop} {post' : Bool → Prop} (hp : ∀ (r : Bool), post' r → post r) (hv : v_X12_isGhost J o a1 a2 post') : w_X12_isGhost (zz J) o xa1 xa2 post := by
  subst ea1
  subst ea2
  unfold v_X12_isGhost at hv
  unfold w_X12_isGhost
  obtain ⟨g1, hv⟩ := hv
  refine ⟨zvp (rfl : zi a2 = zi a2) ia2 g1.1 g1.2, ?_⟩
  refine ⟨fun cq => ?_, fun cq => ?_⟩
  · have hv := hv.1 (fun q => cq ((zeq (z_and (z_shr (zrd (rfl : zi a2 = zi a2) ia2 g1.1) (rfl : zi a1 = zi a1)) (by decide : (1 : Int32) = zi 1)) (by decide : (1 : Int32) = zi 1) (ir_toInt _) (by decide : ir 1)).mpr q))
    exact hp _ hv
  · have hv := hv.2 ((zeq (z_and (z_shr (zrd (rfl : zi a2 = zi a2) ia2 g1.1) (rfl : zi a1 = zi a1)) (by decide : (1 : Int32) = zi 1)) (by decide : (1 : Int32) = zi 1) (ir_toInt _) (by decide : ir 1)).mp cq)
    obtain ⟨g2, hv⟩ := hv
    refine ⟨zvp (rfl : zi a2 = zi a2) ia2 g2.1 g2.2, ?_⟩
    obtain ⟨g3, hv⟩ := hv
    refine ⟨zvp (zrd (rfl : zi a2 = zi a2) ia2 g2.1) (hJ _ _) g3.1 g3.2, ?_⟩
    obtain ⟨g4, hv⟩ := hv
    refine ⟨zvp (zrd (zrd (rfl : zi a2 = zi a2) ia2 g2.1) (hJ _ _) g3.1) (hJ _ _) g4.1 g4.2, ?_⟩
    obtain ⟨g5, hv⟩ := hv
    refine ⟨zvp (rfl : zi a2 = zi a2) ia2 g5.1 g5.2, ?_⟩
    refine ⟨fun cq => ?_, fun cq => ?_⟩
    · have hv := hv.1 ((zle (zrd (rfl : zi a2 = zi a2) ia2 g5.1) (zrd (zrd (zrd (rfl : zi a2 = zi a2) ia2 g2.1) (hJ _ _) g3.1) (hJ _ _) g4.1) (hJ _ _) (hJ _ _)).mp cq)
      exact hp _ hv
    · have hv := hv.2 (fun q => cq ((zle (zrd (rfl : zi a2 = zi a2) ia2 g5.1) (zrd (zrd (zrd (rfl : zi a2 = zi a2) ia2 g2.1) (hJ _ _) g3.1) (hJ _ _) g4.1) (hJ _ _) (hJ _ _)).mpr q))
      exact hp _ hv
def v_X12_notesOf_4 (J : mJ) (o : Nat) (a1 : Int) (post' : Int → Prop) (v2 : Int) (v3 : Int) : Prop := ∀ ZZ : (Int → Int → Prop), (∀ (v2 : Int) (v3 : Int), (((J o 25) ≤ v3 → post' v2) ∧ (¬ (J o 25) ≤ v3 → v_X12_isNote J o a1 v3 (fun b1 => (b1 = false → ir (v2 + 0) ∧ ∀ y3, y3 = (v2 + 0) → ir (v3 + 1) ∧ ∀ y5, y5 = v3 + 1 → ZZ y3 y5) ∧ (b1 = true → ir (v2 + 1) ∧ ∀ y7, y7 = (v2 + 1) → ir (v3 + 1) ∧ ∀ y9, y9 = v3 + 1 → ZZ y7 y9)))) → ZZ v2 v3) → ZZ v2 v3
theorem vw_X12_notesOf_4 {J : mJ} {o : Nat} {a1 : Int} (hJ : irm J) (ia1 : ir a1) {post : Int32 → Prop} {post' : Int → Prop} (hp : ∀ (x : Int32) (r : Int), x = zi r → ir r → post' r → post x) {xv2 : Int32} {v2 : Int} {xv3 : Int32} {v3 : Int} (ev2 : xv2 = zi v2) (iv2 : ir v2) (ev3 : xv3 = zi v3) (iv3 : ir v3) (hv : v_X12_notesOf_4 J o a1 post' v2 v3) : w_X12_notesOf_4 (zz J) o (zi a1) post xv2 xv3 := by
  subst ev2
  subst ev3
  unfold v_X12_notesOf_4 at hv
  unfold w_X12_notesOf_4
  intro ZZ hZ
  refine hv (fun v2 v3 => ∀ (xv2 : Int32) (xv3 : Int32), xv2 = zi v2 → ir v2 → xv3 = zi v3 → ir v3 → ZZ xv2 xv3) ?_ _ _ rfl iv2 rfl iv3
  clear hv iv2 iv3
  intro v2 v3 hv xv2 xv3 ev2 iv2 ev3 iv3
  subst ev2
  subst ev3
  refine hZ _ _ ?_
  refine ⟨fun cq => ?_, fun cq => ?_⟩
  · have hv := hv.1 ((zle zrf (rfl : zi v3 = zi v3) (hJ _ _) iv3).mp cq)
    exact hp _ _ (rfl : zi v2 = zi v2) iv2 hv
  · have hv := hv.2 (fun q => cq ((zle zrf (rfl : zi v3 = zi v3) (hJ _ _) iv3).mpr q))
    refine vw_X12_isNote hJ (rfl : zi a1 = zi a1) ia1 (rfl : zi v3 = zi v3) iv3 (fun b1  hv => ?_) hv
    refine ⟨fun cq => ?_, fun cq => ?_⟩
    · have hv := hv.1 cq
      obtain ⟨g2, hv⟩ := hv
      intro xy3 exy3
      obtain ⟨y3, eyy3⟩ : ∃ q9 : Int, q9 = (v2 + 0) := ⟨_, rfl⟩
      have hv := hv y3 eyy3
      have Ey3 : xy3 = zi y3 := exy3.trans (((za (rfl : zi v2 = zi v2) (by decide : (0 : Int32) = zi 0))).trans (congrArg zi eyy3.symm))
      have Iy3 : ir y3 := by rw [eyy3]; exact g2
      clear exy3
      obtain ⟨g4, hv⟩ := hv
      intro xy5 exy5
      obtain ⟨y5, eyy5⟩ : ∃ q9 : Int, q9 = v3 + 1 := ⟨_, rfl⟩
      have hv := hv y5 eyy5
      have Ey5 : xy5 = zi y5 := exy5.trans (((za (rfl : zi v3 = zi v3) (by decide : (1 : Int32) = zi 1))).trans (congrArg zi eyy5.symm))
      have Iy5 : ir y5 := by rw [eyy5]; exact g4
      clear exy5
      exact hv _ _ Ey3 Iy3 Ey5 Iy5
    · have hv := hv.2 cq
      obtain ⟨g6, hv⟩ := hv
      intro xy7 exy7
      obtain ⟨y7, eyy7⟩ : ∃ q9 : Int, q9 = (v2 + 1) := ⟨_, rfl⟩
      have hv := hv y7 eyy7
      have Ey7 : xy7 = zi y7 := exy7.trans (((za (rfl : zi v2 = zi v2) (by decide : (1 : Int32) = zi 1))).trans (congrArg zi eyy7.symm))
      have Iy7 : ir y7 := by rw [eyy7]; exact g6
      clear exy7
      obtain ⟨g8, hv⟩ := hv
      intro xy9 exy9
      obtain ⟨y9, eyy9⟩ : ∃ q9 : Int, q9 = v3 + 1 := ⟨_, rfl⟩
      have hv := hv y9 eyy9
      have Ey9 : xy9 = zi y9 := exy9.trans (((za (rfl : zi v3 = zi v3) (by decide : (1 : Int32) = zi 1))).trans (congrArg zi eyy9.symm))
      have Iy9 : ir y9 := by rw [eyy9]; exact g8
      clear exy9
      exact hv _ _ Ey7 Iy7 Ey9 Iy9
def v_X12_notesOf (J : mJ) (o : Nat) (a1 : Int) (post' : Int → Prop) : Prop := (v_X12_notesOf_4 J o a1 post') 0 0
theorem vw_X12_notesOf {J : mJ} {o : Nat} {xa1 : Int32} {a1 : Int} (hJ : irm J)   (ea1 : xa1 = zi a1) (ia1 : ir a1) {post : Int32 → Prop} {post' : Int → Prop} (hp : ∀ (x : Int32) (r : Int), x = zi r → ir r → post' r → post x) (hv : v_X12_notesOf J o a1 post') : w_X12_notesOf (zz J) o xa1 post := by
  subst ea1
  unfold v_X12_notesOf at hv
  unfold w_X12_notesOf
  exact vw_X12_notesOf_4 hJ ia1 hp (by decide : (0 : Int32) = zi 0) (by decide : ir 0) (by decide : (0 : Int32) = zi 0) (by decide : ir 0) hv
def v_X12_allNotes_4 (J : mJ) (o : Nat) (post' : Int → Prop) (v1 : Int) (v2 : Int) : Prop := ∀ ZZ : (Int → Int → Prop), (∀ (v1 : Int) (v2 : Int), (v_X12_flats J o (fun r1 => (r1 ≤ v2 → post' v1) ∧ (¬ r1 ≤ v2 → v_X12_notesOf J o v2 (fun r2 => ir (v1 + r2) ∧ ∀ y4, y4 = (v1 + r2) → ir (v2 + 1) ∧ ∀ y6, y6 = v2 + 1 → ZZ y4 y6)))) → ZZ v1 v2) → ZZ v1 v2
theorem vw_X12_allNotes_4 {J : mJ} {o : Nat} (hJ : irm J)  {post : Int32 → Prop} {post' : Int → Prop} (hp : ∀ (x : Int32) (r : Int), x = zi r → ir r → post' r → post x) {xv1 : Int32} {v1 : Int} {xv2 : Int32} {v2 : Int} (ev1 : xv1 = zi v1) (iv1 : ir v1) (ev2 : xv2 = zi v2) (iv2 : ir v2) (hv : v_X12_allNotes_4 J o post' v1 v2) : w_X12_allNotes_4 (zz J) o post xv1 xv2 := by
  subst ev1
  subst ev2
  unfold v_X12_allNotes_4 at hv
  unfold w_X12_allNotes_4
  intro ZZ hZ
  refine hv (fun v1 v2 => ∀ (xv1 : Int32) (xv2 : Int32), xv1 = zi v1 → ir v1 → xv2 = zi v2 → ir v2 → ZZ xv1 xv2) ?_ _ _ rfl iv1 rfl iv2
  clear hv iv1 iv2
  intro v1 v2 hv xv1 xv2 ev1 iv1 ev2 iv2
  subst ev1
  subst ev2
  refine hZ _ _ ?_
  refine vw_X12_flats hJ  (fun xr1 r1 Er1 Ir1 hv => ?_) hv
  refine ⟨fun cq => ?_, fun cq => ?_⟩
  · have hv := hv.1 ((zle Er1 (rfl : zi v2 = zi v2) Ir1 iv2).mp cq)
    exact hp _ _ (rfl : zi v1 = zi v1) iv1 hv
  · have hv := hv.2 (fun q => cq ((zle Er1 (rfl : zi v2 = zi v2) Ir1 iv2).mpr q))
    refine vw_X12_notesOf hJ (rfl : zi v2 = zi v2) iv2 (fun xr2 r2 Er2 Ir2 hv => ?_) hv
    obtain ⟨g3, hv⟩ := hv
    intro xy4 exy4
    obtain ⟨y4, eyy4⟩ : ∃ q9 : Int, q9 = (v1 + r2) := ⟨_, rfl⟩
    have hv := hv y4 eyy4
    have Ey4 : xy4 = zi y4 := exy4.trans (((za (rfl : zi v1 = zi v1) Er2)).trans (congrArg zi eyy4.symm))
    have Iy4 : ir y4 := by rw [eyy4]; exact g3
    clear exy4
    obtain ⟨g5, hv⟩ := hv
    intro xy6 exy6
    obtain ⟨y6, eyy6⟩ : ∃ q9 : Int, q9 = v2 + 1 := ⟨_, rfl⟩
    have hv := hv y6 eyy6
    have Ey6 : xy6 = zi y6 := exy6.trans (((za (rfl : zi v2 = zi v2) (by decide : (1 : Int32) = zi 1))).trans (congrArg zi eyy6.symm))
    have Iy6 : ir y6 := by rw [eyy6]; exact g5
    clear exy6
    exact hv _ _ Ey4 Iy4 Ey6 Iy6
def v_X12_allNotes (J : mJ) (o : Nat) (post' : Int → Prop) : Prop := (v_X12_allNotes_4 J o post') 0 0
theorem vw_X12_allNotes {J : mJ} {o : Nat} (hJ : irm J)   {post : Int32 → Prop} {post' : Int → Prop} (hp : ∀ (x : Int32) (r : Int), x = zi r → ir r → post' r → post x) (hv : v_X12_allNotes J o post') : w_X12_allNotes (zz J) o post := by
  unfold v_X12_allNotes at hv
  unfold w_X12_allNotes
  exact vw_X12_allNotes_4 hJ  hp (by decide : (0 : Int32) = zi 0) (by decide : ir 0) (by decide : (0 : Int32) = zi 0) (by decide : ir 0) hv
def v_X12_ghostsOf_4 (J : mJ) (o : Nat) (a1 : Int) (post' : Int → Prop) (v2 : Int) (v3 : Int) : Prop := ∀ ZZ : (Int → Int → Prop), (∀ (v2 : Int) (v3 : Int), (((J o 25) ≤ v3 → post' v2) ∧ (¬ (J o 25) ≤ v3 → v_X12_isGhost J o a1 v3 (fun b1 => (b1 = false → ir (v2 + 0) ∧ ∀ y3, y3 = (v2 + 0) → ir (v3 + 1) ∧ ∀ y5, y5 = v3 + 1 → ZZ y3 y5) ∧ (b1 = true → ir (v2 + 1) ∧ ∀ y7, y7 = (v2 + 1) → ir (v3 + 1) ∧ ∀ y9, y9 = v3 + 1 → ZZ y7 y9)))) → ZZ v2 v3) → ZZ v2 v3
theorem vw_X12_ghostsOf_4 {J : mJ} {o : Nat} {a1 : Int} (hJ : irm J) (ia1 : ir a1) {post : Int32 → Prop} {post' : Int → Prop} (hp : ∀ (x : Int32) (r : Int), x = zi r → ir r → post' r → post x) {xv2 : Int32} {v2 : Int} {xv3 : Int32} {v3 : Int} (ev2 : xv2 = zi v2) (iv2 : ir v2) (ev3 : xv3 = zi v3) (iv3 : ir v3) (hv : v_X12_ghostsOf_4 J o a1 post' v2 v3) : w_X12_ghostsOf_4 (zz J) o (zi a1) post xv2 xv3 := by
  subst ev2
  subst ev3
  unfold v_X12_ghostsOf_4 at hv
  unfold w_X12_ghostsOf_4
  intro ZZ hZ
  refine hv (fun v2 v3 => ∀ (xv2 : Int32) (xv3 : Int32), xv2 = zi v2 → ir v2 → xv3 = zi v3 → ir v3 → ZZ xv2 xv3) ?_ _ _ rfl iv2 rfl iv3
  clear hv iv2 iv3
  intro v2 v3 hv xv2 xv3 ev2 iv2 ev3 iv3
  subst ev2
  subst ev3
  refine hZ _ _ ?_
  refine ⟨fun cq => ?_, fun cq => ?_⟩
  · have hv := hv.1 ((zle zrf (rfl : zi v3 = zi v3) (hJ _ _) iv3).mp cq)
    exact hp _ _ (rfl : zi v2 = zi v2) iv2 hv
  · have hv := hv.2 (fun q => cq ((zle zrf (rfl : zi v3 = zi v3) (hJ _ _) iv3).mpr q))
    refine vw_X12_isGhost hJ (rfl : zi a1 = zi a1) ia1 (rfl : zi v3 = zi v3) iv3 (fun b1  hv => ?_) hv
    refine ⟨fun cq => ?_, fun cq => ?_⟩
    · have hv := hv.1 cq
      obtain ⟨g2, hv⟩ := hv
      intro xy3 exy3
      obtain ⟨y3, eyy3⟩ : ∃ q9 : Int, q9 = (v2 + 0) := ⟨_, rfl⟩
      have hv := hv y3 eyy3
      have Ey3 : xy3 = zi y3 := exy3.trans (((za (rfl : zi v2 = zi v2) (by decide : (0 : Int32) = zi 0))).trans (congrArg zi eyy3.symm))
      have Iy3 : ir y3 := by rw [eyy3]; exact g2
      clear exy3
      obtain ⟨g4, hv⟩ := hv
      intro xy5 exy5
      obtain ⟨y5, eyy5⟩ : ∃ q9 : Int, q9 = v3 + 1 := ⟨_, rfl⟩
      have hv := hv y5 eyy5
      have Ey5 : xy5 = zi y5 := exy5.trans (((za (rfl : zi v3 = zi v3) (by decide : (1 : Int32) = zi 1))).trans (congrArg zi eyy5.symm))
      have Iy5 : ir y5 := by rw [eyy5]; exact g4
      clear exy5
      exact hv _ _ Ey3 Iy3 Ey5 Iy5
    · have hv := hv.2 cq
      obtain ⟨g6, hv⟩ := hv
      intro xy7 exy7
      obtain ⟨y7, eyy7⟩ : ∃ q9 : Int, q9 = (v2 + 1) := ⟨_, rfl⟩
      have hv := hv y7 eyy7
      have Ey7 : xy7 = zi y7 := exy7.trans (((za (rfl : zi v2 = zi v2) (by decide : (1 : Int32) = zi 1))).trans (congrArg zi eyy7.symm))
      have Iy7 : ir y7 := by rw [eyy7]; exact g6
      clear exy7
      obtain ⟨g8, hv⟩ := hv
      intro xy9 exy9
      obtain ⟨y9, eyy9⟩ : ∃ q9 : Int, q9 = v3 + 1 := ⟨_, rfl⟩
      have hv := hv y9 eyy9
      have Ey9 : xy9 = zi y9 := exy9.trans (((za (rfl : zi v3 = zi v3) (by decide : (1 : Int32) = zi 1))).trans (congrArg zi eyy9.symm))
      have Iy9 : ir y9 := by rw [eyy9]; exact g8
      clear exy9
      exact hv _ _ Ey7 Iy7 Ey9 Iy9
def v_X12_ghostsOf (J : mJ) (o : Nat) (a1 : Int) (post' : Int → Prop) : Prop := (v_X12_ghostsOf_4 J o a1 post') 0 0
theorem vw_X12_ghostsOf {J : mJ} {o : Nat} {xa1 : Int32} {a1 : Int} (hJ : irm J)   (ea1 : xa1 = zi a1) (ia1 : ir a1) {post : Int32 → Prop} {post' : Int → Prop} (hp : ∀ (x : Int32) (r : Int), x = zi r → ir r → post' r → post x) (hv : v_X12_ghostsOf J o a1 post') : w_X12_ghostsOf (zz J) o xa1 post := by
  subst ea1
  unfold v_X12_ghostsOf at hv
  unfold w_X12_ghostsOf
  exact vw_X12_ghostsOf_4 hJ ia1 hp (by decide : (0 : Int32) = zi 0) (by decide : ir 0) (by decide : (0 : Int32) = zi 0) (by decide : ir 0) hv
def v_X12_note_107 (o : Nat) (a1 : Int) (a2 : Int) (a3 : Int) (a4 : Int) (post' : Int → mJ → Prop) (k92' : mJ → Int → Int → Prop) (J : mJ) (v5 : Int) (v6 : Int) : Prop := v_X12_isNote J o a2 v6 (fun b18 => (b18 = false → ir (v5 - 0) ∧ ∀ y20, y20 = (v5 - 0) → ir (v6 + 1) ∧ ∀ y22, y22 = v6 + 1 → k92' J y20 y22) ∧ (b18 = true → ir (v5 - 1) ∧ ∀ y24, y24 = (v5 - 1) → ir (v6 + 1) ∧ ∀ y26, y26 = v6 + 1 → k92' J y24 y26))
theorem vw_X12_note_107 {o : Nat} {a1 : Int} {a2 : Int} {a3 : Int} {a4 : Int}  (ia1 : ir a1) (ia2 : ir a2) (ia3 : ir a3) (ia4 : ir a4) {post : Int32 → mI → Prop} {post' : Int → mJ → Prop} {k92' : mJ → Int → Int → Prop} {k92 : mI → Int32 → Int32 → Prop} (hp : ∀ (x : Int32) (r : Int) (J1 : mJ), x = zi r → ir r → irm J1 → post' r J1 → post x (zz J1)) (hk92 : ∀ (J : mJ) (xv5 : Int32) (v5 : Int) (xv6 : Int32) (v6 : Int), irm J → xv5 = zi v5 → ir v5 → xv6 = zi v6 → ir v6 → k92' J v5 v6 → k92 (zz J) xv5 xv6) {J : mJ} {xv5 : Int32} {v5 : Int} {xv6 : Int32} {v6 : Int} (hJ : irm J) (ev5 : xv5 = zi v5) (iv5 : ir v5) (ev6 : xv6 = zi v6) (iv6 : ir v6) (hv : v_X12_note_107 o a1 a2 a3 a4 post' k92' J v5 v6) : w_X12_note_107 o (zi a1) (zi a2) (zi a3) (zi a4) post k92 (zz J) xv5 xv6 := by
  subst ev5
  subst ev6
  unfold v_X12_note_107 at hv
  unfold w_X12_note_107
  refine vw_X12_isNote hJ (rfl : zi a2 = zi a2) ia2 (rfl : zi v6 = zi v6) iv6 (fun b18  hv => ?_) hv
  refine ⟨fun cq => ?_, fun cq => ?_⟩
  · have hv := hv.1 cq
    obtain ⟨g19, hv⟩ := hv
    intro xy20 exy20
    obtain ⟨y20, eyy20⟩ : ∃ q9 : Int, q9 = (v5 - 0) := ⟨_, rfl⟩
    have hv := hv y20 eyy20
    have Ey20 : xy20 = zi y20 := exy20.trans (((zs (rfl : zi v5 = zi v5) (by decide : (0 : Int32) = zi 0))).trans (congrArg zi eyy20.symm))
    have Iy20 : ir y20 := by rw [eyy20]; exact g19
    clear exy20
    obtain ⟨g21, hv⟩ := hv
    intro xy22 exy22
    obtain ⟨y22, eyy22⟩ : ∃ q9 : Int, q9 = v6 + 1 := ⟨_, rfl⟩
    have hv := hv y22 eyy22
    have Ey22 : xy22 = zi y22 := exy22.trans (((za (rfl : zi v6 = zi v6) (by decide : (1 : Int32) = zi 1))).trans (congrArg zi eyy22.symm))
    have Iy22 : ir y22 := by rw [eyy22]; exact g21
    clear exy22
    exact hk92 _ _ _ _ _ hJ Ey20 Iy20 Ey22 Iy22 hv
  · have hv := hv.2 cq
    obtain ⟨g23, hv⟩ := hv
    intro xy24 exy24
    obtain ⟨y24, eyy24⟩ : ∃ q9 : Int, q9 = (v5 - 1) := ⟨_, rfl⟩
    have hv := hv y24 eyy24
    have Ey24 : xy24 = zi y24 := exy24.trans (((zs (rfl : zi v5 = zi v5) (by decide : (1 : Int32) = zi 1))).trans (congrArg zi eyy24.symm))
    have Iy24 : ir y24 := by rw [eyy24]; exact g23
    clear exy24
    obtain ⟨g25, hv⟩ := hv
    intro xy26 exy26
    obtain ⟨y26, eyy26⟩ : ∃ q9 : Int, q9 = v6 + 1 := ⟨_, rfl⟩
    have hv := hv y26 eyy26
    have Ey26 : xy26 = zi y26 := exy26.trans (((za (rfl : zi v6 = zi v6) (by decide : (1 : Int32) = zi 1))).trans (congrArg zi eyy26.symm))
    have Iy26 : ir y26 := by rw [eyy26]; exact g25
    clear exy26
    exact hk92 _ _ _ _ _ hJ Ey24 Iy24 Ey26 Iy26 hv
def v_X12_note_92 (o : Nat) (a1 : Int) (a2 : Int) (a3 : Int) (a4 : Int) (post' : Int → mJ → Prop) (k133' : mJ → Int → Prop) (J : mJ) (v5 : Int) (v6 : Int) : Prop := ∀ ZZ : (mJ → Int → Int → Prop), (∀ (J : mJ) (v5 : Int) (v6 : Int), (v_X12_isNote J o a2 v6 (fun b11 => (b11 = false → (v_X12_note_107 o a1 a2 a3 a4 post' ZZ) J v5 v6) ∧ (b11 = true → (v5 ≤ 0 → k133' J v6) ∧ (¬ v5 ≤ 0 → (v_X12_note_107 o a1 a2 a3 a4 post' ZZ) J v5 v6)))) → ZZ J v5 v6) → ZZ J v5 v6
theorem vw_X12_note_92 {o : Nat} {a1 : Int} {a2 : Int} {a3 : Int} {a4 : Int}  (ia1 : ir a1) (ia2 : ir a2) (ia3 : ir a3) (ia4 : ir a4) {post : Int32 → mI → Prop} {post' : Int → mJ → Prop} {k133' : mJ → Int → Prop} {k133 : mI → Int32 → Prop} (hp : ∀ (x : Int32) (r : Int) (J1 : mJ), x = zi r → ir r → irm J1 → post' r J1 → post x (zz J1)) (hk133 : ∀ (J : mJ) (xv6 : Int32) (v6 : Int), irm J → xv6 = zi v6 → ir v6 → k133' J v6 → k133 (zz J) xv6) {J : mJ} {xv5 : Int32} {v5 : Int} {xv6 : Int32} {v6 : Int} (hJ : irm J) (ev5 : xv5 = zi v5) (iv5 : ir v5) (ev6 : xv6 = zi v6) (iv6 : ir v6) (hv : v_X12_note_92 o a1 a2 a3 a4 post' k133' J v5 v6) : w_X12_note_92 o (zi a1) (zi a2) (zi a3) (zi a4) post k133 (zz J) xv5 xv6 := by
  subst ev5
  subst ev6
  unfold v_X12_note_92 at hv
  unfold w_X12_note_92
  intro ZZ hZ
  refine hv (fun J v5 v6 => ∀ (xv5 : Int32) (xv6 : Int32), irm J → xv5 = zi v5 → ir v5 → xv6 = zi v6 → ir v6 → ZZ (zz J) xv5 xv6) ?_ _ _ hJ rfl iv5 rfl iv6
  clear hv hJ iv5 iv6
  intro J v5 v6 hv xv5 xv6 hJ ev5 iv5 ev6 iv6
  subst ev5
  subst ev6
  refine hZ _ _ _ ?_
  refine vw_X12_isNote hJ (rfl : zi a2 = zi a2) ia2 (rfl : zi v6 = zi v6) iv6 (fun b11  hv => ?_) hv
  refine ⟨fun cq => ?_, fun cq => ?_⟩
  · have hv := hv.1 cq
    refine vw_X12_note_107 ia1 ia2 ia3 ia4 hp ?_ hJ (rfl : zi v5 = zi v5) iv5 (rfl : zi v6 = zi v6) iv6 hv
    · intro qq xx vv xx vv hJ ev5 iv5 ev6 iv6 hv
      exact hv _ _ hJ ev5 iv5 ev6 iv6
  · have hv := hv.2 cq
    refine ⟨fun cq => ?_, fun cq => ?_⟩
    · have hv := hv.1 ((zle (rfl : zi v5 = zi v5) (by decide : (0 : Int32) = zi 0) iv5 (by decide : ir 0)).mp cq)
      exact hk133 _ _ _ hJ (rfl : zi v6 = zi v6) iv6 hv
    · have hv := hv.2 (fun q => cq ((zle (rfl : zi v5 = zi v5) (by decide : (0 : Int32) = zi 0) iv5 (by decide : ir 0)).mpr q))
      refine vw_X12_note_107 ia1 ia2 ia3 ia4 hp ?_ hJ (rfl : zi v5 = zi v5) iv5 (rfl : zi v6 = zi v6) iv6 hv
      · intro qq xx vv xx vv hJ ev5 iv5 ev6 iv6 hv
        exact hv _ _ hJ ev5 iv5 ev6 iv6
def v_X12_note_133 (o : Nat) (a1 : Int) (a2 : Int) (a3 : Int) (a4 : Int) (post' : Int → mJ → Prop) (J : mJ) (v6 : Int) : Prop := (¬ a4 = 0 → (¬ a4 = 1 → (¬ a4 = 2 → v_X12_isGhost J o a2 v6 (fun b12 => (b12 = false → post' 0 J) ∧ (b12 = true → post' 1 J))) ∧ (a4 = 2 → (0 ≤ v6 ∧ v6 < 640) ∧ (¬ (andZ (shrZ (J (o + 11) v6.toNat) a2) 1) = 1 → post' (-1) J) ∧ ((andZ (shrZ (J (o + 11) v6.toNat) a2) 1) = 1 → (0 ≤ v6 ∧ v6 < 640) ∧ (0 ≤ (J (o + 9) v6.toNat) ∧ (J (o + 9) v6.toNat) < 640) ∧ post' (J (o + 7) (J (o + 9) v6.toNat).toNat) J))) ∧ (a4 = 1 → (0 ≤ v6 ∧ v6 < 640) ∧ (¬ (andZ (shrZ (J (o + 10) v6.toNat) a2) 1) = 1 → post' (-1) J) ∧ ((andZ (shrZ (J (o + 10) v6.toNat) a2) 1) = 1 → (0 ≤ v6 ∧ v6 < 640) ∧ post' (J (o + 7) v6.toNat) J))) ∧ (a4 = 0 → post' v6 J)
theorem vw_X12_note_133 {o : Nat} {a1 : Int} {a2 : Int} {a3 : Int} {a4 : Int}  (ia1 : ir a1) (ia2 : ir a2) (ia3 : ir a3) (ia4 : ir a4) {post : Int32 → mI → Prop} {post' : Int → mJ → Prop} (hp : ∀ (x : Int32) (r : Int) (J1 : mJ), x = zi r → ir r → irm J1 → post' r J1 → post x (zz J1)) {J : mJ} {xv6 : Int32} {v6 : Int} (hJ : irm J) (ev6 : xv6 = zi v6) (iv6 : ir v6) (hv : v_X12_note_133 o a1 a2 a3 a4 post' J v6) : w_X12_note_133 o (zi a1) (zi a2) (zi a3) (zi a4) post (zz J) xv6 := by
  subst ev6
  unfold v_X12_note_133 at hv
  unfold w_X12_note_133
  refine ⟨fun cq => ?_, fun cq => ?_⟩
  · have hv := hv.1 (fun q => cq ((zeq (rfl : zi a4 = zi a4) (by decide : (0 : Int32) = zi 0) ia4 (by decide : ir 0)).mpr q))
    refine ⟨fun cq => ?_, fun cq => ?_⟩
    · have hv := hv.1 (fun q => cq ((zeq (rfl : zi a4 = zi a4) (by decide : (1 : Int32) = zi 1) ia4 (by decide : ir 1)).mpr q))
      refine ⟨fun cq => ?_, fun cq => ?_⟩
      · have hv := hv.1 (fun q => cq ((zeq (rfl : zi a4 = zi a4) (by decide : (2 : Int32) = zi 2) ia4 (by decide : ir 2)).mpr q))
        refine vw_X12_isGhost hJ (rfl : zi a2 = zi a2) ia2 (rfl : zi v6 = zi v6) iv6 (fun b12  hv => ?_) hv
        refine ⟨fun cq => ?_, fun cq => ?_⟩
        · have hv := hv.1 cq
          exact hp _ _ _ (by decide : (0 : Int32) = zi 0) (by decide : ir 0) hJ hv
        · have hv := hv.2 cq
          exact hp _ _ _ (by decide : (1 : Int32) = zi 1) (by decide : ir 1) hJ hv
      · have hv := hv.2 ((zeq (rfl : zi a4 = zi a4) (by decide : (2 : Int32) = zi 2) ia4 (by decide : ir 2)).mp cq)
        obtain ⟨g13, hv⟩ := hv
        refine ⟨zvp (rfl : zi v6 = zi v6) iv6 g13.1 g13.2, ?_⟩
        refine ⟨fun cq => ?_, fun cq => ?_⟩
        · have hv := hv.1 (fun q => cq ((zeq (z_and (z_shr (zrd (rfl : zi v6 = zi v6) iv6 g13.1) (rfl : zi a2 = zi a2)) (by decide : (1 : Int32) = zi 1)) (by decide : (1 : Int32) = zi 1) (ir_toInt _) (by decide : ir 1)).mpr q))
          exact hp _ _ _ (by decide : ((-1) : Int32) = zi (-1)) (by decide : ir (-1)) hJ hv
        · have hv := hv.2 ((zeq (z_and (z_shr (zrd (rfl : zi v6 = zi v6) iv6 g13.1) (rfl : zi a2 = zi a2)) (by decide : (1 : Int32) = zi 1)) (by decide : (1 : Int32) = zi 1) (ir_toInt _) (by decide : ir 1)).mp cq)
          obtain ⟨g14, hv⟩ := hv
          refine ⟨zvp (rfl : zi v6 = zi v6) iv6 g14.1 g14.2, ?_⟩
          obtain ⟨g15, hv⟩ := hv
          refine ⟨zvp (zrd (rfl : zi v6 = zi v6) iv6 g14.1) (hJ _ _) g15.1 g15.2, ?_⟩
          exact hp _ _ _ (zrd (zrd (rfl : zi v6 = zi v6) iv6 g14.1) (hJ _ _) g15.1) (hJ _ _) hJ hv
    · have hv := hv.2 ((zeq (rfl : zi a4 = zi a4) (by decide : (1 : Int32) = zi 1) ia4 (by decide : ir 1)).mp cq)
      obtain ⟨g16, hv⟩ := hv
      refine ⟨zvp (rfl : zi v6 = zi v6) iv6 g16.1 g16.2, ?_⟩
      refine ⟨fun cq => ?_, fun cq => ?_⟩
      · have hv := hv.1 (fun q => cq ((zeq (z_and (z_shr (zrd (rfl : zi v6 = zi v6) iv6 g16.1) (rfl : zi a2 = zi a2)) (by decide : (1 : Int32) = zi 1)) (by decide : (1 : Int32) = zi 1) (ir_toInt _) (by decide : ir 1)).mpr q))
        exact hp _ _ _ (by decide : ((-1) : Int32) = zi (-1)) (by decide : ir (-1)) hJ hv
      · have hv := hv.2 ((zeq (z_and (z_shr (zrd (rfl : zi v6 = zi v6) iv6 g16.1) (rfl : zi a2 = zi a2)) (by decide : (1 : Int32) = zi 1)) (by decide : (1 : Int32) = zi 1) (ir_toInt _) (by decide : ir 1)).mp cq)
        obtain ⟨g17, hv⟩ := hv
        refine ⟨zvp (rfl : zi v6 = zi v6) iv6 g17.1 g17.2, ?_⟩
        exact hp _ _ _ (zrd (rfl : zi v6 = zi v6) iv6 g17.1) (hJ _ _) hJ hv
  · have hv := hv.2 ((zeq (rfl : zi a4 = zi a4) (by decide : (0 : Int32) = zi 0) ia4 (by decide : ir 0)).mp cq)
    exact hp _ _ _ (rfl : zi v6 = zi v6) iv6 hJ hv
def v_X12_note (J : mJ) (o : Nat) (a1 : Int) (a2 : Int) (a3 : Int) (a4 : Int) (post' : Int → mJ → Prop) : Prop := v_X12_isHouse J o a1 (fun b1 J2 => (b1 = false → post' (-2) J2) ∧ (b1 = true → v_X12_isFlat J2 o a2 (fun b3 => (b3 = true → v_X12_runs J2 o (fun J4 => (¬ a3 = (-1) → v_X12_notesOf J4 o a2 (fun r5 => ir (r5 - 1) ∧ v_X12_isIn a3 0 (r5 - 1) (fun b7 => (b7 = false → post' (-2) J4) ∧ (b7 = true → v_X12_isIn a4 0 3 (fun b8 => (b8 = true → (v_X12_note_92 o a1 a2 a3 a4 post' (v_X12_note_133 o a1 a2 a3 a4 post')) J4 a3 0) ∧ (b8 = false → post' (-2) J4)))))) ∧ (a3 = (-1) → (¬ a4 = 0 → (¬ a4 = 1 → post' (-2) J4) ∧ (a4 = 1 → v_X12_ghostsOf J4 o a2 (fun r9 => post' r9 J4))) ∧ (a4 = 0 → v_X12_notesOf J4 o a2 (fun r10 => post' r10 J4))))) ∧ (b3 = false → post' (-2) J2))))
theorem vw_X12_note {J : mJ} {o : Nat} {xa1 : Int32} {a1 : Int} {xa2 : Int32} {a2 : Int} {xa3 : Int32} {a3 : Int} {xa4 : Int32} {a4 : Int} (hJ : irm J)   (ea1 : xa1 = zi a1) (ia1 : ir a1) (ea2 : xa2 = zi a2) (ia2 : ir a2) (ea3 : xa3 = zi a3) (ia3 : ir a3) (ea4 : xa4 = zi a4) (ia4 : ir a4) {post : Int32 → mI → Prop} {post' : Int → mJ → Prop} (hp : ∀ (x : Int32) (r : Int) (J1 : mJ), x = zi r → ir r → irm J1 → post' r J1 → post x (zz J1)) (hv : v_X12_note J o a1 a2 a3 a4 post') : w_X12_note (zz J) o xa1 xa2 xa3 xa4 post := by
  subst ea1
  subst ea2
  subst ea3
  subst ea4
  unfold v_X12_note at hv
  unfold w_X12_note
  refine vw_X12_isHouse hJ (rfl : zi a1 = zi a1) ia1 (fun b1 J2 hJ hv => ?_) hv
  refine ⟨fun cq => ?_, fun cq => ?_⟩
  · have hv := hv.1 cq
    exact hp _ _ _ (by decide : ((-2) : Int32) = zi (-2)) (by decide : ir (-2)) hJ hv
  · have hv := hv.2 cq
    refine vw_X12_isFlat hJ (rfl : zi a2 = zi a2) ia2 (fun b3  hv => ?_) hv
    refine ⟨fun cq => ?_, fun cq => ?_⟩
    · have hv := hv.1 cq
      refine vw_X12_runs hJ  (fun J4 hJ hv => ?_) hv
      refine ⟨fun cq => ?_, fun cq => ?_⟩
      · have hv := hv.1 (fun q => cq ((zeq (rfl : zi a3 = zi a3) (by decide : ((-1) : Int32) = zi (-1)) ia3 (by decide : ir (-1))).mpr q))
        refine vw_X12_notesOf hJ (rfl : zi a2 = zi a2) ia2 (fun xr5 r5 Er5 Ir5 hv => ?_) hv
        obtain ⟨g6, hv⟩ := hv
        refine vw_X12_isIn (rfl : zi a3 = zi a3) ia3 (by decide : (0 : Int32) = zi 0) (by decide : ir 0) (zs Er5 (by decide : (1 : Int32) = zi 1)) g6 (fun b7  hv => ?_) hv
        refine ⟨fun cq => ?_, fun cq => ?_⟩
        · have hv := hv.1 cq
          exact hp _ _ _ (by decide : ((-2) : Int32) = zi (-2)) (by decide : ir (-2)) hJ hv
        · have hv := hv.2 cq
          refine vw_X12_isIn (rfl : zi a4 = zi a4) ia4 (by decide : (0 : Int32) = zi 0) (by decide : ir 0) (by decide : (3 : Int32) = zi 3) (by decide : ir 3) (fun b8  hv => ?_) hv
          refine ⟨fun cq => ?_, fun cq => ?_⟩
          · have hv := hv.1 cq
            refine vw_X12_note_92 ia1 ia2 ia3 ia4 hp ?_ hJ (rfl : zi a3 = zi a3) ia3 (by decide : (0 : Int32) = zi 0) (by decide : ir 0) hv
            · intro qq xx vv hJ ev6 iv6 hv
              exact vw_X12_note_133 ia1 ia2 ia3 ia4 hp hJ ev6 iv6 hv
          · have hv := hv.2 cq
            exact hp _ _ _ (by decide : ((-2) : Int32) = zi (-2)) (by decide : ir (-2)) hJ hv
      · have hv := hv.2 ((zeq (rfl : zi a3 = zi a3) (by decide : ((-1) : Int32) = zi (-1)) ia3 (by decide : ir (-1))).mp cq)
        refine ⟨fun cq => ?_, fun cq => ?_⟩
        · have hv := hv.1 (fun q => cq ((zeq (rfl : zi a4 = zi a4) (by decide : (0 : Int32) = zi 0) ia4 (by decide : ir 0)).mpr q))
          refine ⟨fun cq => ?_, fun cq => ?_⟩
          · have hv := hv.1 (fun q => cq ((zeq (rfl : zi a4 = zi a4) (by decide : (1 : Int32) = zi 1) ia4 (by decide : ir 1)).mpr q))
            exact hp _ _ _ (by decide : ((-2) : Int32) = zi (-2)) (by decide : ir (-2)) hJ hv
          · have hv := hv.2 ((zeq (rfl : zi a4 = zi a4) (by decide : (1 : Int32) = zi 1) ia4 (by decide : ir 1)).mp cq)
            refine vw_X12_ghostsOf hJ (rfl : zi a2 = zi a2) ia2 (fun xr9 r9 Er9 Ir9 hv => ?_) hv
            exact hp _ _ _ Er9 Ir9 hJ hv
        · have hv := hv.2 ((zeq (rfl : zi a4 = zi a4) (by decide : (0 : Int32) = zi 0) ia4 (by decide : ir 0)).mp cq)
          refine vw_X12_notesOf hJ (rfl : zi a2 = zi a2) ia2 (fun xr10 r10 Er10 Ir10 hv => ?_) hv
          exact hp _ _ _ Er10 Ir10 hJ hv
    · have hv := hv.2 cq
      exact hp _ _ _ (by decide : ((-2) : Int32) = zi (-2)) (by decide : ir (-2)) hJ hv
def v_X12_heardOf_4 (J : mJ) (o : Nat) (a1 : Int) (post' : Int → Prop) (v2 : Int) (v3 : Int) : Prop := ∀ ZZ : (Int → Int → Prop), (∀ (v2 : Int) (v3 : Int), (((J o 25) ≤ v3 → post' v2) ∧ (¬ (J o 25) ≤ v3 → (0 ≤ v3 ∧ v3 < 640) ∧ (¬ (J (o + 4) v3.toNat) = a1 → ∀ y2, y2 = (orZ v2 0) → ir (v3 + 1) ∧ ∀ y4, y4 = v3 + 1 → ZZ y2 y4) ∧ ((J (o + 4) v3.toNat) = a1 → (0 ≤ v3 ∧ v3 < 640) ∧ ∀ y6, y6 = (orZ v2 (J (o + 10) v3.toNat)) → ir (v3 + 1) ∧ ∀ y8, y8 = v3 + 1 → ZZ y6 y8))) → ZZ v2 v3) → ZZ v2 v3
theorem vw_X12_heardOf_4 {J : mJ} {o : Nat} {a1 : Int} (hJ : irm J) (ia1 : ir a1) {post : Int32 → Prop} {post' : Int → Prop} (hp : ∀ (x : Int32) (r : Int), x = zi r → ir r → post' r → post x) {xv2 : Int32} {v2 : Int} {xv3 : Int32} {v3 : Int} (ev2 : xv2 = zi v2) (iv2 : ir v2) (ev3 : xv3 = zi v3) (iv3 : ir v3) (hv : v_X12_heardOf_4 J o a1 post' v2 v3) : w_X12_heardOf_4 (zz J) o (zi a1) post xv2 xv3 := by
  subst ev2
  subst ev3
  unfold v_X12_heardOf_4 at hv
  unfold w_X12_heardOf_4
  intro ZZ hZ
  refine hv (fun v2 v3 => ∀ (xv2 : Int32) (xv3 : Int32), xv2 = zi v2 → ir v2 → xv3 = zi v3 → ir v3 → ZZ xv2 xv3) ?_ _ _ rfl iv2 rfl iv3
  clear hv iv2 iv3
  intro v2 v3 hv xv2 xv3 ev2 iv2 ev3 iv3
  subst ev2
  subst ev3
  refine hZ _ _ ?_
  refine ⟨fun cq => ?_, fun cq => ?_⟩
  · have hv := hv.1 ((zle zrf (rfl : zi v3 = zi v3) (hJ _ _) iv3).mp cq)
    exact hp _ _ (rfl : zi v2 = zi v2) iv2 hv
  · have hv := hv.2 (fun q => cq ((zle zrf (rfl : zi v3 = zi v3) (hJ _ _) iv3).mpr q))
    obtain ⟨g1, hv⟩ := hv
    refine ⟨zvp (rfl : zi v3 = zi v3) iv3 g1.1 g1.2, ?_⟩
    refine ⟨fun cq => ?_, fun cq => ?_⟩
    · have hv := hv.1 (fun q => cq ((zeq (zrd (rfl : zi v3 = zi v3) iv3 g1.1) (rfl : zi a1 = zi a1) (hJ _ _) ia1).mpr q))
      intro xy2 exy2
      obtain ⟨y2, eyy2⟩ : ∃ q9 : Int, q9 = (orZ v2 0) := ⟨_, rfl⟩
      have hv := hv y2 eyy2
      have Ey2 : xy2 = zi y2 := exy2.trans (((z_or (rfl : zi v2 = zi v2) (by decide : (0 : Int32) = zi 0))).trans (congrArg zi eyy2.symm))
      have Iy2 : ir y2 := by rw [eyy2]; exact (ir_toInt _)
      clear exy2
      obtain ⟨g3, hv⟩ := hv
      intro xy4 exy4
      obtain ⟨y4, eyy4⟩ : ∃ q9 : Int, q9 = v3 + 1 := ⟨_, rfl⟩
      have hv := hv y4 eyy4
      have Ey4 : xy4 = zi y4 := exy4.trans (((za (rfl : zi v3 = zi v3) (by decide : (1 : Int32) = zi 1))).trans (congrArg zi eyy4.symm))
      have Iy4 : ir y4 := by rw [eyy4]; exact g3
      clear exy4
      exact hv _ _ Ey2 Iy2 Ey4 Iy4
    · have hv := hv.2 ((zeq (zrd (rfl : zi v3 = zi v3) iv3 g1.1) (rfl : zi a1 = zi a1) (hJ _ _) ia1).mp cq)
      obtain ⟨g5, hv⟩ := hv
      refine ⟨zvp (rfl : zi v3 = zi v3) iv3 g5.1 g5.2, ?_⟩
      intro xy6 exy6
      obtain ⟨y6, eyy6⟩ : ∃ q9 : Int, q9 = (orZ v2 (J (o + 10) v3.toNat)) := ⟨_, rfl⟩
      have hv := hv y6 eyy6
      have Ey6 : xy6 = zi y6 := exy6.trans (((z_or (rfl : zi v2 = zi v2) (zrd (rfl : zi v3 = zi v3) iv3 g5.1))).trans (congrArg zi eyy6.symm))
      have Iy6 : ir y6 := by rw [eyy6]; exact (ir_toInt _)
      clear exy6
      obtain ⟨g7, hv⟩ := hv
      intro xy8 exy8
      obtain ⟨y8, eyy8⟩ : ∃ q9 : Int, q9 = v3 + 1 := ⟨_, rfl⟩
      have hv := hv y8 eyy8
      have Ey8 : xy8 = zi y8 := exy8.trans (((za (rfl : zi v3 = zi v3) (by decide : (1 : Int32) = zi 1))).trans (congrArg zi eyy8.symm))
      have Iy8 : ir y8 := by rw [eyy8]; exact g7
      clear exy8
      exact hv _ _ Ey6 Iy6 Ey8 Iy8
def v_X12_heardOf (J : mJ) (o : Nat) (a1 : Int) (post' : Int → Prop) : Prop := (v_X12_heardOf_4 J o a1 post') 0 0
theorem vw_X12_heardOf {J : mJ} {o : Nat} {xa1 : Int32} {a1 : Int} (hJ : irm J)   (ea1 : xa1 = zi a1) (ia1 : ir a1) {post : Int32 → Prop} {post' : Int → Prop} (hp : ∀ (x : Int32) (r : Int), x = zi r → ir r → post' r → post x) (hv : v_X12_heardOf J o a1 post') : w_X12_heardOf (zz J) o xa1 post := by
  subst ea1
  unfold v_X12_heardOf at hv
  unfold w_X12_heardOf
  exact vw_X12_heardOf_4 hJ ia1 hp (by decide : (0 : Int32) = zi 0) (by decide : ir 0) (by decide : (0 : Int32) = zi 0) (by decide : ir 0) hv
