def v_X5_blame (J : mJ) (o : Nat) (otp : Nat) (a1 : Int) (a2 : Int) (post' : mJ → Prop) : Prop := (¬ (J o 2) = 0 → post' J) ∧ ((J o 2) = 0 → ∀ J1, J1 = up2 J o 2 a1 → ∀ J2, J2 = up2 J1 o 3 a2 → post' J2)
theorem vw_X5_blame {J : mJ} {o : Nat} {otp : Nat} {xa1 : Int32} {a1 : Int} {xa2 : Int32} {a2 : Int} (hJ : irm J)    (ea1 : xa1 = zi a1) (ia1 : ir a1) (ea2 : xa2 = zi a2) (ia2 : ir a2) {post : mI → Prop} {post' : mJ → Prop} (hp : ∀ (J1 : mJ), irm J1 → post' J1 → post (zz J1)) (hv : v_X5_blame J o otp a1 a2 post') : w_X5_blame (zz J) o otp xa1 xa2 post := by
  subst ea1
  subst ea2
  unfold v_X5_blame at hv
  unfold w_X5_blame
  refine ⟨fun cq => ?_, fun cq => ?_⟩
  · have hv := hv.1 (fun q => cq ((zeq zrf (by decide : (0 : Int32) = zi 0) (hJ _ _) (by decide : ir 0)).mpr q))
    exact hp _ hJ hv
  · have hv := hv.2 ((zeq zrf (by decide : (0 : Int32) = zi 0) (hJ _ _) (by decide : ir 0)).mp cq)
    intro I1 eI1
    obtain ⟨J1, eJ1⟩ : ∃ q9 : mJ, q9 = up2 J o 2 a1 := ⟨_, rfl⟩
    have eI1 : I1 = zz J1 := by rw [eI1, eJ1]; exact zup (rfl : zi a1 = zi a1)
    subst eI1
    have hv := hv J1 eJ1
    have hJ : irm J1 := by rw [eJ1]; exact irm_up hJ ia1
    intro I1 eI1
    obtain ⟨J2, eJ2⟩ : ∃ q9 : mJ, q9 = up2 J1 o 3 a2 := ⟨_, rfl⟩
    have eI1 : I1 = zz J2 := by rw [eI1, eJ2]; exact zup (rfl : zi a2 = zi a2)
    subst eI1
    have hv := hv J2 eJ2
    have hJ : irm J2 := by rw [eJ2]; exact irm_up hJ ia2
    exact hp _ hJ hv
def v_X5_weigh_30 (o : Nat) (otp : Nat) (a1 : Int) (a2 : Int) (post' : mJ → Prop) (J : mJ) : Prop := v_X5_blame J o otp 2 (J o 8) (fun J6 => post' J6)
theorem vw_X5_weigh_30 {o : Nat} {otp : Nat} {a1 : Int} {a2 : Int}  (ia1 : ir a1) (ia2 : ir a2) {post : mI → Prop} {post' : mJ → Prop} (hp : ∀ (J1 : mJ), irm J1 → post' J1 → post (zz J1)) {J : mJ} (hJ : irm J) (hv : v_X5_weigh_30 o otp a1 a2 post' J) : w_X5_weigh_30 o otp (zi a1) (zi a2) post (zz J) := by
  unfold v_X5_weigh_30 at hv
  unfold w_X5_weigh_30
  refine vw_X5_blame hJ (by decide : (2 : Int32) = zi 2) (by decide : ir 2) zrf (hJ _ _) (fun J6 hJ hv => ?_) hv
  exact hp _ hJ hv
def v_X5_weigh (J : mJ) (o : Nat) (otp : Nat) (a1 : Int) (a2 : Int) (post' : mJ → Prop) : Prop := ir (a1 * 4) ∧ ir ((a1 * 4) + a2) ∧ ∀ y3, y3 = ((a1 * 4) + a2) → (0 ≤ y3 ∧ y3 < 32) ∧ ((J o 9) < ((tb_least y3.toNat).toInt) → (v_X5_weigh_30 o otp a1 a2 post') J) ∧ (¬ (J o 9) < ((tb_least y3.toNat).toInt) → (0 ≤ y3 ∧ y3 < 32) ∧ ((J o 9) ≤ ((tb_most y3.toNat).toInt) → post' J) ∧ (¬ (J o 9) ≤ ((tb_most y3.toNat).toInt) → (v_X5_weigh_30 o otp a1 a2 post') J))
theorem vw_X5_weigh {J : mJ} {o : Nat} {otp : Nat} {xa1 : Int32} {a1 : Int} {xa2 : Int32} {a2 : Int} (hJ : irm J)    (ea1 : xa1 = zi a1) (ia1 : ir a1) (ea2 : xa2 = zi a2) (ia2 : ir a2) {post : mI → Prop} {post' : mJ → Prop} (hp : ∀ (J1 : mJ), irm J1 → post' J1 → post (zz J1)) (hv : v_X5_weigh J o otp a1 a2 post') : w_X5_weigh (zz J) o otp xa1 xa2 post := by
  subst ea1
  subst ea2
  unfold v_X5_weigh at hv
  unfold w_X5_weigh
  obtain ⟨g1, hv⟩ := hv
  obtain ⟨g2, hv⟩ := hv
  intro xy3 exy3
  obtain ⟨y3, eyy3⟩ : ∃ q9 : Int, q9 = ((a1 * 4) + a2) := ⟨_, rfl⟩
  have hv := hv y3 eyy3
  have Ey3 : xy3 = zi y3 := exy3.trans (((za (zm (rfl : zi a1 = zi a1) (by decide : (4 : Int32) = zi 4)) (rfl : zi a2 = zi a2))).trans (congrArg zi eyy3.symm))
  have Iy3 : ir y3 := by rw [eyy3]; exact g2
  clear exy3
  obtain ⟨g4, hv⟩ := hv
  refine ⟨zvp Ey3 Iy3 g4.1 g4.2, ?_⟩
  refine ⟨fun cq => ?_, fun cq => ?_⟩
  · have hv := hv.1 ((zlt zrf ((congrArg tb_least (zcl Ey3 Iy3 g4.1)).trans (z_num _)) (hJ _ _) (ir_toInt _)).mp cq)
    exact vw_X5_weigh_30 ia1 ia2 hp hJ hv
  · have hv := hv.2 (fun q => cq ((zlt zrf ((congrArg tb_least (zcl Ey3 Iy3 g4.1)).trans (z_num _)) (hJ _ _) (ir_toInt _)).mpr q))
    obtain ⟨g5, hv⟩ := hv
    refine ⟨zvp Ey3 Iy3 g5.1 g5.2, ?_⟩
    refine ⟨fun cq => ?_, fun cq => ?_⟩
    · have hv := hv.1 ((zle zrf ((congrArg tb_most (zcl Ey3 Iy3 g5.1)).trans (z_num _)) (hJ _ _) (ir_toInt _)).mp cq)
      exact hp _ hJ hv
    · have hv := hv.2 (fun q => cq ((zle zrf ((congrArg tb_most (zcl Ey3 Iy3 g5.1)).trans (z_num _)) (hJ _ _) (ir_toInt _)).mpr q))
      exact vw_X5_weigh_30 ia1 ia2 hp hJ hv
def v_X5_readValue_58 (o : Nat) (otp : Nat) (a1 : Int) (a2 : Int) (post' : Bool → mJ → Prop) (J : mJ) : Prop := v_X5_nextToken J o otp (fun J3 => post' true J3)
theorem vw_X5_readValue_58 {o : Nat} {otp : Nat} {a1 : Int} {a2 : Int}  (ia1 : ir a1) (ia2 : ir a2) {post : Bool → mI → Prop} {post' : Bool → mJ → Prop} (hp : ∀ (r : Bool) (J1 : mJ), irm J1 → post' r J1 → post r (zz J1)) {J : mJ} (hJ : irm J) (hv : v_X5_readValue_58 o otp a1 a2 post' J) : w_X5_readValue_58 o otp (zi a1) (zi a2) post (zz J) := by
  unfold v_X5_readValue_58 at hv
  unfold w_X5_readValue_58
  refine vw_X5_nextToken hJ  (fun J3 hJ hv => ?_) hv
  exact hp _ _ hJ hv
def v_X5_readValue_29 (o : Nat) (otp : Nat) (a1 : Int) (a2 : Int) (post' : Bool → mJ → Prop) (J : mJ) : Prop := (¬ (J o 7) = 2 → post' false J) ∧ ((J o 7) = 2 → v_X5_weigh J o otp a1 a2 (fun J4 => (0 ≤ a2 ∧ a2 < 11) ∧ ∀ J6, J6 = up2 J4 (o + 20) a2.toNat (J4 o 9) → (v_X5_readValue_58 o otp a1 a2 post') J6))
theorem vw_X5_readValue_29 {o : Nat} {otp : Nat} {a1 : Int} {a2 : Int}  (ia1 : ir a1) (ia2 : ir a2) {post : Bool → mI → Prop} {post' : Bool → mJ → Prop} (hp : ∀ (r : Bool) (J1 : mJ), irm J1 → post' r J1 → post r (zz J1)) {J : mJ} (hJ : irm J) (hv : v_X5_readValue_29 o otp a1 a2 post' J) : w_X5_readValue_29 o otp (zi a1) (zi a2) post (zz J) := by
  unfold v_X5_readValue_29 at hv
  unfold w_X5_readValue_29
  refine ⟨fun cq => ?_, fun cq => ?_⟩
  · have hv := hv.1 (fun q => cq ((zeq zrf (by decide : (2 : Int32) = zi 2) (hJ _ _) (by decide : ir 2)).mpr q))
    exact hp _ _ hJ hv
  · have hv := hv.2 ((zeq zrf (by decide : (2 : Int32) = zi 2) (hJ _ _) (by decide : ir 2)).mp cq)
    refine vw_X5_weigh hJ (rfl : zi a1 = zi a1) ia1 (rfl : zi a2 = zi a2) ia2 (fun J4 hJ hv => ?_) hv
    obtain ⟨g5, hv⟩ := hv
    refine ⟨zvp (rfl : zi a2 = zi a2) ia2 g5.1 g5.2, ?_⟩
    intro I1 eI1
    obtain ⟨J6, eJ6⟩ : ∃ q9 : mJ, q9 = up2 J4 (o + 20) a2.toNat (J4 o 9) := ⟨_, rfl⟩
    have eI1 : I1 = zz J6 := by rw [eI1, eJ6]; exact zupa (rfl : zi a2 = zi a2) ia2 g5.1 zrf
    subst eI1
    have hv := hv J6 eJ6
    have hJ : irm J6 := by rw [eJ6]; exact irm_up hJ (hJ _ _)
    exact vw_X5_readValue_58 ia1 ia2 hp hJ hv
def v_X5_readValue (J : mJ) (o : Nat) (otp : Nat) (a1 : Int) (a2 : Int) (post' : Bool → mJ → Prop) : Prop := (¬ a1 = 7 → (v_X5_readValue_29 o otp a1 a2 post') J) ∧ (a1 = 7 → (¬ a2 = 3 → (v_X5_readValue_29 o otp a1 a2 post') J) ∧ (a2 = 3 → (¬ (J o 7) = 3 → (v_X5_readValue_29 o otp a1 a2 post') J) ∧ ((J o 7) = 3 → (0 ≤ a2 ∧ a2 < 11) ∧ ∀ J2, J2 = up2 J (o + 20) a2.toNat (-1) → (v_X5_readValue_58 o otp a1 a2 post') J2)))
theorem vw_X5_readValue {J : mJ} {o : Nat} {otp : Nat} {xa1 : Int32} {a1 : Int} {xa2 : Int32} {a2 : Int} (hJ : irm J)    (ea1 : xa1 = zi a1) (ia1 : ir a1) (ea2 : xa2 = zi a2) (ia2 : ir a2) {post : Bool → mI → Prop} {post' : Bool → mJ → Prop} (hp : ∀ (r : Bool) (J1 : mJ), irm J1 → post' r J1 → post r (zz J1)) (hv : v_X5_readValue J o otp a1 a2 post') : w_X5_readValue (zz J) o otp xa1 xa2 post := by
  subst ea1
  subst ea2
  unfold v_X5_readValue at hv
  unfold w_X5_readValue
  refine ⟨fun cq => ?_, fun cq => ?_⟩
  · have hv := hv.1 (fun q => cq ((zeq (rfl : zi a1 = zi a1) (by decide : (7 : Int32) = zi 7) ia1 (by decide : ir 7)).mpr q))
    exact vw_X5_readValue_29 ia1 ia2 hp hJ hv
  · have hv := hv.2 ((zeq (rfl : zi a1 = zi a1) (by decide : (7 : Int32) = zi 7) ia1 (by decide : ir 7)).mp cq)
    refine ⟨fun cq => ?_, fun cq => ?_⟩
    · have hv := hv.1 (fun q => cq ((zeq (rfl : zi a2 = zi a2) (by decide : (3 : Int32) = zi 3) ia2 (by decide : ir 3)).mpr q))
      exact vw_X5_readValue_29 ia1 ia2 hp hJ hv
    · have hv := hv.2 ((zeq (rfl : zi a2 = zi a2) (by decide : (3 : Int32) = zi 3) ia2 (by decide : ir 3)).mp cq)
      refine ⟨fun cq => ?_, fun cq => ?_⟩
      · have hv := hv.1 (fun q => cq ((zeq zrf (by decide : (3 : Int32) = zi 3) (hJ _ _) (by decide : ir 3)).mpr q))
        exact vw_X5_readValue_29 ia1 ia2 hp hJ hv
      · have hv := hv.2 ((zeq zrf (by decide : (3 : Int32) = zi 3) (hJ _ _) (by decide : ir 3)).mp cq)
        obtain ⟨g1, hv⟩ := hv
        refine ⟨zvp (rfl : zi a2 = zi a2) ia2 g1.1 g1.2, ?_⟩
        intro I1 eI1
        obtain ⟨J2, eJ2⟩ : ∃ q9 : mJ, q9 = up2 J (o + 20) a2.toNat (-1) := ⟨_, rfl⟩
        have eI1 : I1 = zz J2 := by rw [eI1, eJ2]; exact zupa (rfl : zi a2 = zi a2) ia2 g1.1 (by decide : ((-1) : Int32) = zi (-1))
        subst eI1
        have hv := hv J2 eJ2
        have hJ : irm J2 := by rw [eJ2]; exact irm_up hJ (by decide : ir (-1))
        exact vw_X5_readValue_58 ia1 ia2 hp hJ hv
def v_X5_readFurtherGoals_75 (o : Nat) (otp : Nat) (post' : mJ → Prop) (k7' : mJ → Int → Prop) (J : mJ) (v1 : Int) : Prop := v_X5_nextToken J o otp (fun J9 => ir (v1 + 1) ∧ ∀ y11, y11 = v1 + 1 → k7' J9 y11)
theorem vw_X5_readFurtherGoals_75 {o : Nat} {otp : Nat}   {post : mI → Prop} {post' : mJ → Prop} {k7' : mJ → Int → Prop} {k7 : mI → Int32 → Prop} (hp : ∀ (J1 : mJ), irm J1 → post' J1 → post (zz J1)) (hk7 : ∀ (J : mJ) (xv1 : Int32) (v1 : Int), irm J → xv1 = zi v1 → ir v1 → k7' J v1 → k7 (zz J) xv1) {J : mJ} {xv1 : Int32} {v1 : Int} (hJ : irm J) (ev1 : xv1 = zi v1) (iv1 : ir v1) (hv : v_X5_readFurtherGoals_75 o otp post' k7' J v1) : w_X5_readFurtherGoals_75 o otp post k7 (zz J) xv1 := by
  subst ev1
  unfold v_X5_readFurtherGoals_75 at hv
  unfold w_X5_readFurtherGoals_75
  refine vw_X5_nextToken hJ  (fun J9 hJ hv => ?_) hv
  obtain ⟨g10, hv⟩ := hv
  intro xy11 exy11
  obtain ⟨y11, eyy11⟩ : ∃ q9 : Int, q9 = v1 + 1 := ⟨_, rfl⟩
  have hv := hv y11 eyy11
  have Ey11 : xy11 = zi y11 := exy11.trans (((za (rfl : zi v1 = zi v1) (by decide : (1 : Int32) = zi 1))).trans (congrArg zi eyy11.symm))
  have Iy11 : ir y11 := by rw [eyy11]; exact g10
  clear exy11
  exact hk7 _ _ _ hJ Ey11 Iy11 hv
def v_X5_readFurtherGoals_7 (o : Nat) (otp : Nat) (post' : mJ → Prop) (J : mJ) (v1 : Int) : Prop := ∀ ZZ : (mJ → Int → Prop), (∀ (J : mJ) (v1 : Int), (((J o 5) ≤ v1 → post' J) ∧ (¬ (J o 5) ≤ v1 → (¬ (J o 7) = 2 → post' J) ∧ ((J o 7) = 2 → v_X5_weigh J o otp 5 3 (fun J2 => (8 ≤ (J2 o 11) → v_X5_blame J2 o otp 3 (J2 o 8) (fun J3 => (v_X5_readFurtherGoals_75 o otp post' ZZ) J3 v1)) ∧ (¬ 8 ≤ (J2 o 11) → ir (3 + (J2 o 11)) ∧ (0 ≤ (3 + (J2 o 11)) ∧ (3 + (J2 o 11)) < 11) ∧ ∀ J6, J6 = up2 J2 (o + 20) ((3 + (J2 o 11)).toNat) (J2 o 9) → ir ((J6 o 11) + 1) ∧ ∀ J8, J8 = up2 J6 o 11 ((J6 o 11) + 1) → (v_X5_readFurtherGoals_75 o otp post' ZZ) J8 v1))))) → ZZ J v1) → ZZ J v1
theorem vw_X5_readFurtherGoals_7 {o : Nat} {otp : Nat}   {post : mI → Prop} {post' : mJ → Prop} (hp : ∀ (J1 : mJ), irm J1 → post' J1 → post (zz J1)) {J : mJ} {xv1 : Int32} {v1 : Int} (hJ : irm J) (ev1 : xv1 = zi v1) (iv1 : ir v1) (hv : v_X5_readFurtherGoals_7 o otp post' J v1) : w_X5_readFurtherGoals_7 o otp post (zz J) xv1 := by
  subst ev1
  unfold v_X5_readFurtherGoals_7 at hv
  unfold w_X5_readFurtherGoals_7
  intro ZZ hZ
  refine hv (fun J v1 => ∀ (xv1 : Int32), irm J → xv1 = zi v1 → ir v1 → ZZ (zz J) xv1) ?_ _ hJ rfl iv1
  clear hv hJ iv1
  intro J v1 hv xv1 hJ ev1 iv1
  subst ev1
  refine hZ _ _ ?_
  refine ⟨fun cq => ?_, fun cq => ?_⟩
  · have hv := hv.1 ((zle zrf (rfl : zi v1 = zi v1) (hJ _ _) iv1).mp cq)
    exact hp _ hJ hv
  · have hv := hv.2 (fun q => cq ((zle zrf (rfl : zi v1 = zi v1) (hJ _ _) iv1).mpr q))
    refine ⟨fun cq => ?_, fun cq => ?_⟩
    · have hv := hv.1 (fun q => cq ((zeq zrf (by decide : (2 : Int32) = zi 2) (hJ _ _) (by decide : ir 2)).mpr q))
      exact hp _ hJ hv
    · have hv := hv.2 ((zeq zrf (by decide : (2 : Int32) = zi 2) (hJ _ _) (by decide : ir 2)).mp cq)
      refine vw_X5_weigh hJ (by decide : (5 : Int32) = zi 5) (by decide : ir 5) (by decide : (3 : Int32) = zi 3) (by decide : ir 3) (fun J2 hJ hv => ?_) hv
      refine ⟨fun cq => ?_, fun cq => ?_⟩
      · have hv := hv.1 ((zle (by decide : (8 : Int32) = zi 8) zrf (by decide : ir 8) (hJ _ _)).mp cq)
        refine vw_X5_blame hJ (by decide : (3 : Int32) = zi 3) (by decide : ir 3) zrf (hJ _ _) (fun J3 hJ hv => ?_) hv
        refine vw_X5_readFurtherGoals_75  hp ?_ hJ (rfl : zi v1 = zi v1) iv1 hv
        · intro qq xx vv hJ ev1 iv1 hv
          exact hv _ hJ ev1 iv1
      · have hv := hv.2 (fun q => cq ((zle (by decide : (8 : Int32) = zi 8) zrf (by decide : ir 8) (hJ _ _)).mpr q))
        obtain ⟨g4, hv⟩ := hv
        obtain ⟨g5, hv⟩ := hv
        refine ⟨zvp (za (by decide : (3 : Int32) = zi 3) zrf) g4 g5.1 g5.2, ?_⟩
        intro I1 eI1
        obtain ⟨J6, eJ6⟩ : ∃ q9 : mJ, q9 = up2 J2 (o + 20) ((3 + (J2 o 11)).toNat) (J2 o 9) := ⟨_, rfl⟩
        have eI1 : I1 = zz J6 := by rw [eI1, eJ6]; exact zupa (za (by decide : (3 : Int32) = zi 3) zrf) g4 g5.1 zrf
        subst eI1
        have hv := hv J6 eJ6
        have hJ : irm J6 := by rw [eJ6]; exact irm_up hJ (hJ _ _)
        obtain ⟨g7, hv⟩ := hv
        intro I1 eI1
        obtain ⟨J8, eJ8⟩ : ∃ q9 : mJ, q9 = up2 J6 o 11 ((J6 o 11) + 1) := ⟨_, rfl⟩
        have eI1 : I1 = zz J8 := by rw [eI1, eJ8]; exact zup (za zrf (by decide : (1 : Int32) = zi 1))
        subst eI1
        have hv := hv J8 eJ8
        have hJ : irm J8 := by rw [eJ8]; exact irm_up hJ g7
        refine vw_X5_readFurtherGoals_75  hp ?_ hJ (rfl : zi v1 = zi v1) iv1 hv
        · intro qq xx vv hJ ev1 iv1 hv
          exact hv _ hJ ev1 iv1
def v_X5_readFurtherGoals (J : mJ) (o : Nat) (otp : Nat) (post' : mJ → Prop) : Prop := ∀ J1, J1 = up2 J o 11 1 → (v_X5_readFurtherGoals_7 o otp post') J1 0
theorem vw_X5_readFurtherGoals {J : mJ} {o : Nat} {otp : Nat} (hJ : irm J)    {post : mI → Prop} {post' : mJ → Prop} (hp : ∀ (J1 : mJ), irm J1 → post' J1 → post (zz J1)) (hv : v_X5_readFurtherGoals J o otp post') : w_X5_readFurtherGoals (zz J) o otp post := by
  unfold v_X5_readFurtherGoals at hv
  unfold w_X5_readFurtherGoals
  intro I1 eI1
  obtain ⟨J1, eJ1⟩ : ∃ q9 : mJ, q9 = up2 J o 11 1 := ⟨_, rfl⟩
  have eI1 : I1 = zz J1 := by rw [eI1, eJ1]; exact zup (by decide : (1 : Int32) = zi 1)
  subst eI1
  have hv := hv J1 eJ1
  have hJ : irm J1 := by rw [eJ1]; exact irm_up hJ (by decide : ir 1)
  exact vw_X5_readFurtherGoals_7  hp hJ (by decide : (0 : Int32) = zi 0) (by decide : ir 0) hv
def v_X5_tellCarpet (J : mJ) (o : Nat) (otp : Nat) (post' : mJ → Prop) : Prop := (0 ≤ (J (o + 20) 0) ∧ (J (o + 20) 0) < 24) ∧ ∀ J4, J4 = up2 J ((o + 1) + 1) ((J (o + 20) 0).toNat) (J (o + 20) 1) → ∀ J6, J6 = up2 J4 o 12 (maxZ (J4 o 12) (J4 (o + 20) 0)) → post' J6
theorem vw_X5_tellCarpet {J : mJ} {o : Nat} {otp : Nat} (hJ : irm J)    {post : mI → Prop} {post' : mJ → Prop} (hp : ∀ (J1 : mJ), irm J1 → post' J1 → post (zz J1)) (hv : v_X5_tellCarpet J o otp post') : w_X5_tellCarpet (zz J) o otp post := by
  unfold v_X5_tellCarpet at hv
  unfold w_X5_tellCarpet
  obtain ⟨g3, hv⟩ := hv
  refine ⟨zvp (zrd (by decide : (0 : Int32) = zi 0) (by decide : ir 0) (by decide)) (hJ _ _) g3.1 g3.2, ?_⟩
  intro I1 eI1
  obtain ⟨J4, eJ4⟩ : ∃ q9 : mJ, q9 = up2 J ((o + 1) + 1) ((J (o + 20) 0).toNat) (J (o + 20) 1) := ⟨_, rfl⟩
  have eI1 : I1 = zz J4 := by rw [eI1, eJ4]; exact zupa (zrd (by decide : (0 : Int32) = zi 0) (by decide : ir 0) (by decide)) (hJ _ _) g3.1 (zrd (by decide : (1 : Int32) = zi 1) (by decide : ir 1) (by decide))
  subst eI1
  have hv := hv J4 eJ4
  have hJ : irm J4 := by rw [eJ4]; exact irm_up hJ (hJ _ _)
  intro I1 eI1
  obtain ⟨J6, eJ6⟩ : ∃ q9 : mJ, q9 = up2 J4 o 12 (maxZ (J4 o 12) (J4 (o + 20) 0)) := ⟨_, rfl⟩
  have eI1 : I1 = zz J6 := by rw [eI1, eJ6]; exact zup (z_max zrf (zrd (by decide : (0 : Int32) = zi 0) (by decide : ir 0) (by decide)) (hJ _ _) (hJ _ _))
  subst eI1
  have hv := hv J6 eJ6
  have hJ : irm J6 := by rw [eJ6]; exact irm_up hJ (ir_max (hJ _ _) (hJ _ _))
  exact hp _ hJ hv
def v_X5_tellFlat (J : mJ) (o : Nat) (otp : Nat) (post' : mJ → Prop) : Prop := (0 ≤ (J (o + 1) 2) ∧ (J (o + 1) 2) < 6) ∧ ∀ J3, J3 = up2 J ((o + 1) + 2) ((J (o + 1) 2).toNat) (J (o + 20) 0) → (0 ≤ (J3 (o + 1) 2) ∧ (J3 (o + 1) 2) < 6) ∧ ∀ J6, J6 = up2 J3 ((o + 1) + 3) ((J3 (o + 1) 2).toNat) (J3 (o + 20) 1) → ir ((J6 (o + 1) 2) + 1) ∧ ∀ J8, J8 = up2 J6 (o + 1) 2 ((J6 (o + 1) 2) + 1) → ∀ J10, J10 = up2 J8 o 12 (maxZ (J8 o 12) (J8 (o + 20) 0)) → post' J10
theorem vw_X5_tellFlat {J : mJ} {o : Nat} {otp : Nat} (hJ : irm J)    {post : mI → Prop} {post' : mJ → Prop} (hp : ∀ (J1 : mJ), irm J1 → post' J1 → post (zz J1)) (hv : v_X5_tellFlat J o otp post') : w_X5_tellFlat (zz J) o otp post := by
  unfold v_X5_tellFlat at hv
  unfold w_X5_tellFlat
  obtain ⟨g2, hv⟩ := hv
  refine ⟨zvp zrf (hJ _ _) g2.1 g2.2, ?_⟩
  intro I1 eI1
  obtain ⟨J3, eJ3⟩ : ∃ q9 : mJ, q9 = up2 J ((o + 1) + 2) ((J (o + 1) 2).toNat) (J (o + 20) 0) := ⟨_, rfl⟩
  have eI1 : I1 = zz J3 := by rw [eI1, eJ3]; exact zupa zrf (hJ _ _) g2.1 (zrd (by decide : (0 : Int32) = zi 0) (by decide : ir 0) (by decide))
  subst eI1
  have hv := hv J3 eJ3
  have hJ : irm J3 := by rw [eJ3]; exact irm_up hJ (hJ _ _)
  obtain ⟨g5, hv⟩ := hv
  refine ⟨zvp zrf (hJ _ _) g5.1 g5.2, ?_⟩
  intro I1 eI1
  obtain ⟨J6, eJ6⟩ : ∃ q9 : mJ, q9 = up2 J3 ((o + 1) + 3) ((J3 (o + 1) 2).toNat) (J3 (o + 20) 1) := ⟨_, rfl⟩
  have eI1 : I1 = zz J6 := by rw [eI1, eJ6]; exact zupa zrf (hJ _ _) g5.1 (zrd (by decide : (1 : Int32) = zi 1) (by decide : ir 1) (by decide))
  subst eI1
  have hv := hv J6 eJ6
  have hJ : irm J6 := by rw [eJ6]; exact irm_up hJ (hJ _ _)
  obtain ⟨g7, hv⟩ := hv
  intro I1 eI1
  obtain ⟨J8, eJ8⟩ : ∃ q9 : mJ, q9 = up2 J6 (o + 1) 2 ((J6 (o + 1) 2) + 1) := ⟨_, rfl⟩
  have eI1 : I1 = zz J8 := by rw [eI1, eJ8]; exact zup (za zrf (by decide : (1 : Int32) = zi 1))
  subst eI1
  have hv := hv J8 eJ8
  have hJ : irm J8 := by rw [eJ8]; exact irm_up hJ g7
  intro I1 eI1
  obtain ⟨J10, eJ10⟩ : ∃ q9 : mJ, q9 = up2 J8 o 12 (maxZ (J8 o 12) (J8 (o + 20) 0)) := ⟨_, rfl⟩
  have eI1 : I1 = zz J10 := by rw [eI1, eJ10]; exact zup (z_max zrf (zrd (by decide : (0 : Int32) = zi 0) (by decide : ir 0) (by decide)) (hJ _ _) (hJ _ _))
  subst eI1
  have hv := hv J10 eJ10
  have hJ : irm J10 := by rw [eJ10]; exact irm_up hJ (ir_max (hJ _ _) (hJ _ _))
  exact hp _ hJ hv
def v_X5_tellPerson (J : mJ) (o : Nat) (otp : Nat) (post' : mJ → Prop) : Prop := (0 ≤ (J (o + 1) 3) ∧ (J (o + 1) 3) < 6) ∧ ∀ J3, J3 = up2 J ((o + 1) + 4) ((J (o + 1) 3).toNat) (J (o + 20) 0) → (0 ≤ (J3 (o + 1) 3) ∧ (J3 (o + 1) 3) < 6) ∧ ∀ J6, J6 = up2 J3 ((o + 1) + 5) ((J3 (o + 1) 3).toNat) (J3 (o + 20) 1) → (0 ≤ (J6 (o + 1) 3) ∧ (J6 (o + 1) 3) < 6) ∧ ∀ J9, J9 = up2 J6 ((o + 1) + 6) ((J6 (o + 1) 3).toNat) (J6 (o + 20) 2) → ir ((J9 (o + 1) 3) + 1) ∧ ∀ J11, J11 = up2 J9 (o + 1) 3 ((J9 (o + 1) 3) + 1) → post' J11
theorem vw_X5_tellPerson {J : mJ} {o : Nat} {otp : Nat} (hJ : irm J)    {post : mI → Prop} {post' : mJ → Prop} (hp : ∀ (J1 : mJ), irm J1 → post' J1 → post (zz J1)) (hv : v_X5_tellPerson J o otp post') : w_X5_tellPerson (zz J) o otp post := by
  unfold v_X5_tellPerson at hv
  unfold w_X5_tellPerson
  obtain ⟨g2, hv⟩ := hv
  refine ⟨zvp zrf (hJ _ _) g2.1 g2.2, ?_⟩
  intro I1 eI1
  obtain ⟨J3, eJ3⟩ : ∃ q9 : mJ, q9 = up2 J ((o + 1) + 4) ((J (o + 1) 3).toNat) (J (o + 20) 0) := ⟨_, rfl⟩
  have eI1 : I1 = zz J3 := by rw [eI1, eJ3]; exact zupa zrf (hJ _ _) g2.1 (zrd (by decide : (0 : Int32) = zi 0) (by decide : ir 0) (by decide))
  subst eI1
  have hv := hv J3 eJ3
  have hJ : irm J3 := by rw [eJ3]; exact irm_up hJ (hJ _ _)
  obtain ⟨g5, hv⟩ := hv
  refine ⟨zvp zrf (hJ _ _) g5.1 g5.2, ?_⟩
  intro I1 eI1
  obtain ⟨J6, eJ6⟩ : ∃ q9 : mJ, q9 = up2 J3 ((o + 1) + 5) ((J3 (o + 1) 3).toNat) (J3 (o + 20) 1) := ⟨_, rfl⟩
  have eI1 : I1 = zz J6 := by rw [eI1, eJ6]; exact zupa zrf (hJ _ _) g5.1 (zrd (by decide : (1 : Int32) = zi 1) (by decide : ir 1) (by decide))
  subst eI1
  have hv := hv J6 eJ6
  have hJ : irm J6 := by rw [eJ6]; exact irm_up hJ (hJ _ _)
  obtain ⟨g8, hv⟩ := hv
  refine ⟨zvp zrf (hJ _ _) g8.1 g8.2, ?_⟩
  intro I1 eI1
  obtain ⟨J9, eJ9⟩ : ∃ q9 : mJ, q9 = up2 J6 ((o + 1) + 6) ((J6 (o + 1) 3).toNat) (J6 (o + 20) 2) := ⟨_, rfl⟩
  have eI1 : I1 = zz J9 := by rw [eI1, eJ9]; exact zupa zrf (hJ _ _) g8.1 (zrd (by decide : (2 : Int32) = zi 2) (by decide : ir 2) (by decide))
  subst eI1
  have hv := hv J9 eJ9
  have hJ : irm J9 := by rw [eJ9]; exact irm_up hJ (hJ _ _)
  obtain ⟨g10, hv⟩ := hv
  intro I1 eI1
  obtain ⟨J11, eJ11⟩ : ∃ q9 : mJ, q9 = up2 J9 (o + 1) 3 ((J9 (o + 1) 3) + 1) := ⟨_, rfl⟩
  have eI1 : I1 = zz J11 := by rw [eI1, eJ11]; exact zup (za zrf (by decide : (1 : Int32) = zi 1))
  subst eI1
  have hv := hv J11 eJ11
  have hJ : irm J11 := by rw [eJ11]; exact irm_up hJ g10
  exact hp _ hJ hv
def v_X5_tellWalk_81 (o : Nat) (otp : Nat) (post' : mJ → Prop) (J : mJ) (v1 : Int) (v2 : Int) : Prop := ∀ ZZ : (mJ → Int → Int → Prop), (∀ (J : mJ) (v1 : Int) (v2 : Int), (((J o 11) ≤ v2 → post' J) ∧ (¬ (J o 11) ≤ v2 → ir (v1 * 8) ∧ ir ((v1 * 8) + v2) ∧ ir (3 + v2) ∧ (0 ≤ (3 + v2) ∧ (3 + v2) < 11) ∧ (0 ≤ ((v1 * 8) + v2) ∧ ((v1 * 8) + v2) < 48) ∧ ∀ J19, J19 = up2 J ((o + 1) + 10) (((v1 * 8) + v2).toNat) (J (o + 20) (3 + v2).toNat) → ir (3 + v2) ∧ (0 ≤ (3 + v2) ∧ (3 + v2) < 11) ∧ ∀ J22, J22 = up2 J19 o 12 (maxZ (J19 o 12) (J19 (o + 20) (3 + v2).toNat)) → ir (v2 + 1) ∧ ∀ y24, y24 = v2 + 1 → ZZ J22 v1 y24)) → ZZ J v1 v2) → ZZ J v1 v2
theorem vw_X5_tellWalk_81 {o : Nat} {otp : Nat}   {post : mI → Prop} {post' : mJ → Prop} (hp : ∀ (J1 : mJ), irm J1 → post' J1 → post (zz J1)) {J : mJ} {xv1 : Int32} {v1 : Int} {xv2 : Int32} {v2 : Int} (hJ : irm J) (ev1 : xv1 = zi v1) (iv1 : ir v1) (ev2 : xv2 = zi v2) (iv2 : ir v2) (hv : v_X5_tellWalk_81 o otp post' J v1 v2) : w_X5_tellWalk_81 o otp post (zz J) xv1 xv2 := by
  subst ev1
  subst ev2
  unfold v_X5_tellWalk_81 at hv
  unfold w_X5_tellWalk_81
  intro ZZ hZ
  refine hv (fun J v1 v2 => ∀ (xv1 : Int32) (xv2 : Int32), irm J → xv1 = zi v1 → ir v1 → xv2 = zi v2 → ir v2 → ZZ (zz J) xv1 xv2) ?_ _ _ hJ rfl iv1 rfl iv2
  clear hv hJ iv1 iv2
  intro J v1 v2 hv xv1 xv2 hJ ev1 iv1 ev2 iv2
  subst ev1
  subst ev2
  refine hZ _ _ _ ?_
  refine ⟨fun cq => ?_, fun cq => ?_⟩
  · have hv := hv.1 ((zle zrf (rfl : zi v2 = zi v2) (hJ _ _) iv2).mp cq)
    exact hp _ hJ hv
  · have hv := hv.2 (fun q => cq ((zle zrf (rfl : zi v2 = zi v2) (hJ _ _) iv2).mpr q))
    obtain ⟨g14, hv⟩ := hv
    obtain ⟨g15, hv⟩ := hv
    obtain ⟨g16, hv⟩ := hv
    obtain ⟨g17, hv⟩ := hv
    refine ⟨zvp (za (by decide : (3 : Int32) = zi 3) (rfl : zi v2 = zi v2)) g16 g17.1 g17.2, ?_⟩
    obtain ⟨g18, hv⟩ := hv
    refine ⟨zvp (za (zm (rfl : zi v1 = zi v1) (by decide : (8 : Int32) = zi 8)) (rfl : zi v2 = zi v2)) g15 g18.1 g18.2, ?_⟩
    intro I1 eI1
    obtain ⟨J19, eJ19⟩ : ∃ q9 : mJ, q9 = up2 J ((o + 1) + 10) (((v1 * 8) + v2).toNat) (J (o + 20) (3 + v2).toNat) := ⟨_, rfl⟩
    have eI1 : I1 = zz J19 := by rw [eI1, eJ19]; exact zupa (za (zm (rfl : zi v1 = zi v1) (by decide : (8 : Int32) = zi 8)) (rfl : zi v2 = zi v2)) g15 g18.1 (zrd (za (by decide : (3 : Int32) = zi 3) (rfl : zi v2 = zi v2)) g16 g17.1)
    subst eI1
    have hv := hv J19 eJ19
    have hJ : irm J19 := by rw [eJ19]; exact irm_up hJ (hJ _ _)
    obtain ⟨g20, hv⟩ := hv
    obtain ⟨g21, hv⟩ := hv
    refine ⟨zvp (za (by decide : (3 : Int32) = zi 3) (rfl : zi v2 = zi v2)) g20 g21.1 g21.2, ?_⟩
    intro I1 eI1
    obtain ⟨J22, eJ22⟩ : ∃ q9 : mJ, q9 = up2 J19 o 12 (maxZ (J19 o 12) (J19 (o + 20) (3 + v2).toNat)) := ⟨_, rfl⟩
    have eI1 : I1 = zz J22 := by rw [eI1, eJ22]; exact zup (z_max zrf (zrd (za (by decide : (3 : Int32) = zi 3) (rfl : zi v2 = zi v2)) g20 g21.1) (hJ _ _) (hJ _ _))
    subst eI1
    have hv := hv J22 eJ22
    have hJ : irm J22 := by rw [eJ22]; exact irm_up hJ (ir_max (hJ _ _) (hJ _ _))
    obtain ⟨g23, hv⟩ := hv
    intro xy24 exy24
    obtain ⟨y24, eyy24⟩ : ∃ q9 : Int, q9 = v2 + 1 := ⟨_, rfl⟩
    have hv := hv y24 eyy24
    have Ey24 : xy24 = zi y24 := exy24.trans (((za (rfl : zi v2 = zi v2) (by decide : (1 : Int32) = zi 1))).trans (congrArg zi eyy24.symm))
    have Iy24 : ir y24 := by rw [eyy24]; exact g23
    clear exy24
    exact hv _ _ hJ (rfl : zi v1 = zi v1) iv1 Ey24 Iy24
def v_X5_tellWalk (J : mJ) (o : Nat) (otp : Nat) (post' : mJ → Prop) : Prop := ∀ y2, y2 = (J (o + 20) 0) → (0 ≤ y2 ∧ y2 < 6) ∧ ∀ J5, J5 = up2 J ((o + 1) + 7) y2.toNat (J (o + 20) 1) → (0 ≤ y2 ∧ y2 < 6) ∧ ∀ J8, J8 = up2 J5 ((o + 1) + 8) y2.toNat (J5 (o + 20) 2) → (0 ≤ y2 ∧ y2 < 6) ∧ ∀ J10, J10 = up2 J8 ((o + 1) + 9) y2.toNat (J8 o 11) → ∀ J11, J11 = up2 J10 o 13 (maxZ (J10 o 13) y2) → ∀ J13, J13 = up2 J11 o 12 (maxZ (J11 o 12) (J11 (o + 20) 2)) → (v_X5_tellWalk_81 o otp post') J13 y2 0
theorem vw_X5_tellWalk {J : mJ} {o : Nat} {otp : Nat} (hJ : irm J)    {post : mI → Prop} {post' : mJ → Prop} (hp : ∀ (J1 : mJ), irm J1 → post' J1 → post (zz J1)) (hv : v_X5_tellWalk J o otp post') : w_X5_tellWalk (zz J) o otp post := by
  unfold v_X5_tellWalk at hv
  unfold w_X5_tellWalk
  intro xy2 exy2
  obtain ⟨y2, eyy2⟩ : ∃ q9 : Int, q9 = (J (o + 20) 0) := ⟨_, rfl⟩
  have hv := hv y2 eyy2
  have Ey2 : xy2 = zi y2 := exy2.trans (((zrd (by decide : (0 : Int32) = zi 0) (by decide : ir 0) (by decide))).trans (congrArg zi eyy2.symm))
  have Iy2 : ir y2 := by rw [eyy2]; exact (hJ _ _)
  clear exy2
  obtain ⟨g4, hv⟩ := hv
  refine ⟨zvp Ey2 Iy2 g4.1 g4.2, ?_⟩
  intro I1 eI1
  obtain ⟨J5, eJ5⟩ : ∃ q9 : mJ, q9 = up2 J ((o + 1) + 7) y2.toNat (J (o + 20) 1) := ⟨_, rfl⟩
  have eI1 : I1 = zz J5 := by rw [eI1, eJ5]; exact zupa Ey2 Iy2 g4.1 (zrd (by decide : (1 : Int32) = zi 1) (by decide : ir 1) (by decide))
  subst eI1
  have hv := hv J5 eJ5
  have hJ : irm J5 := by rw [eJ5]; exact irm_up hJ (hJ _ _)
  obtain ⟨g7, hv⟩ := hv
  refine ⟨zvp Ey2 Iy2 g7.1 g7.2, ?_⟩
  intro I1 eI1
  obtain ⟨J8, eJ8⟩ : ∃ q9 : mJ, q9 = up2 J5 ((o + 1) + 8) y2.toNat (J5 (o + 20) 2) := ⟨_, rfl⟩
  have eI1 : I1 = zz J8 := by rw [eI1, eJ8]; exact zupa Ey2 Iy2 g7.1 (zrd (by decide : (2 : Int32) = zi 2) (by decide : ir 2) (by decide))
  subst eI1
  have hv := hv J8 eJ8
  have hJ : irm J8 := by rw [eJ8]; exact irm_up hJ (hJ _ _)
  obtain ⟨g9, hv⟩ := hv
  refine ⟨zvp Ey2 Iy2 g9.1 g9.2, ?_⟩
  intro I1 eI1
  obtain ⟨J10, eJ10⟩ : ∃ q9 : mJ, q9 = up2 J8 ((o + 1) + 9) y2.toNat (J8 o 11) := ⟨_, rfl⟩
  have eI1 : I1 = zz J10 := by rw [eI1, eJ10]; exact zupa Ey2 Iy2 g9.1 zrf
  subst eI1
  have hv := hv J10 eJ10
  have hJ : irm J10 := by rw [eJ10]; exact irm_up hJ (hJ _ _)
  intro I1 eI1
  obtain ⟨J11, eJ11⟩ : ∃ q9 : mJ, q9 = up2 J10 o 13 (maxZ (J10 o 13) y2) := ⟨_, rfl⟩
  have eI1 : I1 = zz J11 := by rw [eI1, eJ11]; exact zup (z_max zrf Ey2 (hJ _ _) Iy2)
  subst eI1
  have hv := hv J11 eJ11
  have hJ : irm J11 := by rw [eJ11]; exact irm_up hJ (ir_max (hJ _ _) Iy2)
  intro I1 eI1
  obtain ⟨J13, eJ13⟩ : ∃ q9 : mJ, q9 = up2 J11 o 12 (maxZ (J11 o 12) (J11 (o + 20) 2)) := ⟨_, rfl⟩
  have eI1 : I1 = zz J13 := by rw [eI1, eJ13]; exact zup (z_max zrf (zrd (by decide : (2 : Int32) = zi 2) (by decide : ir 2) (by decide)) (hJ _ _) (hJ _ _))
  subst eI1
  have hv := hv J13 eJ13
  have hJ : irm J13 := by rw [eJ13]; exact irm_up hJ (ir_max (hJ _ _) (hJ _ _))
  exact vw_X5_tellWalk_81  hp hJ Ey2 Iy2 (by decide : (0 : Int32) = zi 0) (by decide : ir 0) hv
def v_X5_tellChange (J : mJ) (o : Nat) (otp : Nat) (post' : mJ → Prop) : Prop := (0 ≤ (J (o + 1) 4) ∧ (J (o + 1) 4) < 8) ∧ ∀ J3, J3 = up2 J ((o + 1) + 11) ((J (o + 1) 4).toNat) (J (o + 20) 0) → (0 ≤ (J3 (o + 1) 4) ∧ (J3 (o + 1) 4) < 8) ∧ ∀ J6, J6 = up2 J3 ((o + 1) + 12) ((J3 (o + 1) 4).toNat) (J3 (o + 20) 1) → (0 ≤ (J6 (o + 1) 4) ∧ (J6 (o + 1) 4) < 8) ∧ ∀ J9, J9 = up2 J6 ((o + 1) + 13) ((J6 (o + 1) 4).toNat) (J6 (o + 20) 2) → ir ((J9 (o + 1) 4) + 1) ∧ ∀ J11, J11 = up2 J9 (o + 1) 4 ((J9 (o + 1) 4) + 1) → ∀ J13, J13 = up2 J11 o 13 (maxZ (J11 o 13) (J11 (o + 20) 0)) → post' J13
theorem vw_X5_tellChange {J : mJ} {o : Nat} {otp : Nat} (hJ : irm J)    {post : mI → Prop} {post' : mJ → Prop} (hp : ∀ (J1 : mJ), irm J1 → post' J1 → post (zz J1)) (hv : v_X5_tellChange J o otp post') : w_X5_tellChange (zz J) o otp post := by
  unfold v_X5_tellChange at hv
  unfold w_X5_tellChange
  obtain ⟨g2, hv⟩ := hv
  refine ⟨zvp zrf (hJ _ _) g2.1 g2.2, ?_⟩
  intro I1 eI1
  obtain ⟨J3, eJ3⟩ : ∃ q9 : mJ, q9 = up2 J ((o + 1) + 11) ((J (o + 1) 4).toNat) (J (o + 20) 0) := ⟨_, rfl⟩
  have eI1 : I1 = zz J3 := by rw [eI1, eJ3]; exact zupa zrf (hJ _ _) g2.1 (zrd (by decide : (0 : Int32) = zi 0) (by decide : ir 0) (by decide))
  subst eI1
  have hv := hv J3 eJ3
  have hJ : irm J3 := by rw [eJ3]; exact irm_up hJ (hJ _ _)
  obtain ⟨g5, hv⟩ := hv
  refine ⟨zvp zrf (hJ _ _) g5.1 g5.2, ?_⟩
  intro I1 eI1
  obtain ⟨J6, eJ6⟩ : ∃ q9 : mJ, q9 = up2 J3 ((o + 1) + 12) ((J3 (o + 1) 4).toNat) (J3 (o + 20) 1) := ⟨_, rfl⟩
  have eI1 : I1 = zz J6 := by rw [eI1, eJ6]; exact zupa zrf (hJ _ _) g5.1 (zrd (by decide : (1 : Int32) = zi 1) (by decide : ir 1) (by decide))
  subst eI1
  have hv := hv J6 eJ6
  have hJ : irm J6 := by rw [eJ6]; exact irm_up hJ (hJ _ _)
  obtain ⟨g8, hv⟩ := hv
  refine ⟨zvp zrf (hJ _ _) g8.1 g8.2, ?_⟩
  intro I1 eI1
  obtain ⟨J9, eJ9⟩ : ∃ q9 : mJ, q9 = up2 J6 ((o + 1) + 13) ((J6 (o + 1) 4).toNat) (J6 (o + 20) 2) := ⟨_, rfl⟩
  have eI1 : I1 = zz J9 := by rw [eI1, eJ9]; exact zupa zrf (hJ _ _) g8.1 (zrd (by decide : (2 : Int32) = zi 2) (by decide : ir 2) (by decide))
  subst eI1
  have hv := hv J9 eJ9
  have hJ : irm J9 := by rw [eJ9]; exact irm_up hJ (hJ _ _)
  obtain ⟨g10, hv⟩ := hv
  intro I1 eI1
  obtain ⟨J11, eJ11⟩ : ∃ q9 : mJ, q9 = up2 J9 (o + 1) 4 ((J9 (o + 1) 4) + 1) := ⟨_, rfl⟩
  have eI1 : I1 = zz J11 := by rw [eI1, eJ11]; exact zup (za zrf (by decide : (1 : Int32) = zi 1))
  subst eI1
  have hv := hv J11 eJ11
  have hJ : irm J11 := by rw [eJ11]; exact irm_up hJ g10
  intro I1 eI1
  obtain ⟨J13, eJ13⟩ : ∃ q9 : mJ, q9 = up2 J11 o 13 (maxZ (J11 o 13) (J11 (o + 20) 0)) := ⟨_, rfl⟩
  have eI1 : I1 = zz J13 := by rw [eI1, eJ13]; exact zup (z_max zrf (zrd (by decide : (0 : Int32) = zi 0) (by decide : ir 0) (by decide)) (hJ _ _) (hJ _ _))
  subst eI1
  have hv := hv J13 eJ13
  have hJ : irm J13 := by rw [eJ13]; exact irm_up hJ (ir_max (hJ _ _) (hJ _ _))
  exact hp _ hJ hv
def v_X5_tellSound (J : mJ) (o : Nat) (otp : Nat) (post' : mJ → Prop) : Prop := (0 ≤ (J (o + 15) 0) ∧ (J (o + 15) 0) < 10) ∧ ∀ J3, J3 = up2 J ((o + 15) + 1) ((J (o + 15) 0).toNat) (J (o + 20) 0) → (0 ≤ (J3 (o + 15) 0) ∧ (J3 (o + 15) 0) < 10) ∧ ∀ J6, J6 = up2 J3 ((o + 15) + 2) ((J3 (o + 15) 0).toNat) (J3 (o + 20) 1) → (0 ≤ (J6 (o + 15) 0) ∧ (J6 (o + 15) 0) < 10) ∧ ∀ J9, J9 = up2 J6 ((o + 15) + 3) ((J6 (o + 15) 0).toNat) (J6 (o + 20) 2) → (0 ≤ (J9 (o + 15) 0) ∧ (J9 (o + 15) 0) < 10) ∧ ∀ J12, J12 = up2 J9 ((o + 15) + 4) ((J9 (o + 15) 0).toNat) (J9 (o + 20) 3) → ir ((J12 (o + 15) 0) + 1) ∧ ∀ J14, J14 = up2 J12 (o + 15) 0 ((J12 (o + 15) 0) + 1) → post' J14
theorem vw_X5_tellSound {J : mJ} {o : Nat} {otp : Nat} (hJ : irm J)    {post : mI → Prop} {post' : mJ → Prop} (hp : ∀ (J1 : mJ), irm J1 → post' J1 → post (zz J1)) (hv : v_X5_tellSound J o otp post') : w_X5_tellSound (zz J) o otp post := by
  unfold v_X5_tellSound at hv
  unfold w_X5_tellSound
  obtain ⟨g2, hv⟩ := hv
  refine ⟨zvp zrf (hJ _ _) g2.1 g2.2, ?_⟩
  intro I1 eI1
  obtain ⟨J3, eJ3⟩ : ∃ q9 : mJ, q9 = up2 J ((o + 15) + 1) ((J (o + 15) 0).toNat) (J (o + 20) 0) := ⟨_, rfl⟩
  have eI1 : I1 = zz J3 := by rw [eI1, eJ3]; exact zupa zrf (hJ _ _) g2.1 (zrd (by decide : (0 : Int32) = zi 0) (by decide : ir 0) (by decide))
  subst eI1
  have hv := hv J3 eJ3
  have hJ : irm J3 := by rw [eJ3]; exact irm_up hJ (hJ _ _)
  obtain ⟨g5, hv⟩ := hv
  refine ⟨zvp zrf (hJ _ _) g5.1 g5.2, ?_⟩
  intro I1 eI1
  obtain ⟨J6, eJ6⟩ : ∃ q9 : mJ, q9 = up2 J3 ((o + 15) + 2) ((J3 (o + 15) 0).toNat) (J3 (o + 20) 1) := ⟨_, rfl⟩
  have eI1 : I1 = zz J6 := by rw [eI1, eJ6]; exact zupa zrf (hJ _ _) g5.1 (zrd (by decide : (1 : Int32) = zi 1) (by decide : ir 1) (by decide))
  subst eI1
  have hv := hv J6 eJ6
  have hJ : irm J6 := by rw [eJ6]; exact irm_up hJ (hJ _ _)
  obtain ⟨g8, hv⟩ := hv
  refine ⟨zvp zrf (hJ _ _) g8.1 g8.2, ?_⟩
  intro I1 eI1
  obtain ⟨J9, eJ9⟩ : ∃ q9 : mJ, q9 = up2 J6 ((o + 15) + 3) ((J6 (o + 15) 0).toNat) (J6 (o + 20) 2) := ⟨_, rfl⟩
  have eI1 : I1 = zz J9 := by rw [eI1, eJ9]; exact zupa zrf (hJ _ _) g8.1 (zrd (by decide : (2 : Int32) = zi 2) (by decide : ir 2) (by decide))
  subst eI1
  have hv := hv J9 eJ9
  have hJ : irm J9 := by rw [eJ9]; exact irm_up hJ (hJ _ _)
  obtain ⟨g11, hv⟩ := hv
  refine ⟨zvp zrf (hJ _ _) g11.1 g11.2, ?_⟩
  intro I1 eI1
  obtain ⟨J12, eJ12⟩ : ∃ q9 : mJ, q9 = up2 J9 ((o + 15) + 4) ((J9 (o + 15) 0).toNat) (J9 (o + 20) 3) := ⟨_, rfl⟩
  have eI1 : I1 = zz J12 := by rw [eI1, eJ12]; exact zupa zrf (hJ _ _) g11.1 (zrd (by decide : (3 : Int32) = zi 3) (by decide : ir 3) (by decide))
  subst eI1
  have hv := hv J12 eJ12
  have hJ : irm J12 := by rw [eJ12]; exact irm_up hJ (hJ _ _)
  obtain ⟨g13, hv⟩ := hv
  intro I1 eI1
  obtain ⟨J14, eJ14⟩ : ∃ q9 : mJ, q9 = up2 J12 (o + 15) 0 ((J12 (o + 15) 0) + 1) := ⟨_, rfl⟩
  have eI1 : I1 = zz J14 := by rw [eI1, eJ14]; exact zup (za zrf (by decide : (1 : Int32) = zi 1))
  subst eI1
  have hv := hv J14 eJ14
  have hJ : irm J14 := by rw [eJ14]; exact irm_up hJ g13
  exact hp _ hJ hv
def v_X5_tell (J : mJ) (o : Nat) (otp : Nat) (a1 : Int) (post' : mJ → Prop) : Prop := (a1 = 0 → ∀ J2, J2 = up2 J (o + 1) 0 (J (o + 20) 0) → post' J2) ∧ (a1 = 1 → ∀ J4, J4 = up2 J (o + 1) 1 (J (o + 20) 0) → post' J4) ∧ (a1 = 2 → v_X5_tellCarpet J o otp (fun J5 => post' J5)) ∧ (a1 = 3 → v_X5_tellFlat J o otp (fun J6 => post' J6)) ∧ (a1 = 4 → v_X5_tellPerson J o otp (fun J7 => post' J7)) ∧ (a1 = 5 → v_X5_tellWalk J o otp (fun J8 => post' J8)) ∧ (a1 = 6 → v_X5_tellChange J o otp (fun J9 => post' J9)) ∧ (¬ a1 = 0 → ¬ a1 = 1 → ¬ a1 = 2 → ¬ a1 = 3 → ¬ a1 = 4 → ¬ a1 = 5 → ¬ a1 = 6 → v_X5_tellSound J o otp (fun J10 => post' J10))
theorem vw_X5_tell {J : mJ} {o : Nat} {otp : Nat} {xa1 : Int32} {a1 : Int} (hJ : irm J)    (ea1 : xa1 = zi a1) (ia1 : ir a1) {post : mI → Prop} {post' : mJ → Prop} (hp : ∀ (J1 : mJ), irm J1 → post' J1 → post (zz J1)) (hv : v_X5_tell J o otp a1 post') : w_X5_tell (zz J) o otp xa1 post := by
  subst ea1
  unfold v_X5_tell at hv
  unfold w_X5_tell
  refine ⟨fun cq => ?_, fun cq => ?_, fun cq => ?_, fun cq => ?_, fun cq => ?_, fun cq => ?_, fun cq => ?_, fun c0 c1 c2 c3 c4 c5 c6 => ?_⟩
  · have hv := hv.1 ((zeq (rfl : zi a1 = zi a1) (by decide : (0 : Int32) = zi 0) ia1 (by decide : ir 0)).mp cq)
    intro I1 eI1
    obtain ⟨J2, eJ2⟩ : ∃ q9 : mJ, q9 = up2 J (o + 1) 0 (J (o + 20) 0) := ⟨_, rfl⟩
    have eI1 : I1 = zz J2 := by rw [eI1, eJ2]; exact zup (zrd (by decide : (0 : Int32) = zi 0) (by decide : ir 0) (by decide))
    subst eI1
    have hv := hv J2 eJ2
    have hJ : irm J2 := by rw [eJ2]; exact irm_up hJ (hJ _ _)
    exact hp _ hJ hv
  · have hv := hv.2.1 ((zeq (rfl : zi a1 = zi a1) (by decide : (1 : Int32) = zi 1) ia1 (by decide : ir 1)).mp cq)
    intro I1 eI1
    obtain ⟨J4, eJ4⟩ : ∃ q9 : mJ, q9 = up2 J (o + 1) 1 (J (o + 20) 0) := ⟨_, rfl⟩
    have eI1 : I1 = zz J4 := by rw [eI1, eJ4]; exact zup (zrd (by decide : (0 : Int32) = zi 0) (by decide : ir 0) (by decide))
    subst eI1
    have hv := hv J4 eJ4
    have hJ : irm J4 := by rw [eJ4]; exact irm_up hJ (hJ _ _)
    exact hp _ hJ hv
  · have hv := hv.2.2.1 ((zeq (rfl : zi a1 = zi a1) (by decide : (2 : Int32) = zi 2) ia1 (by decide : ir 2)).mp cq)
    refine vw_X5_tellCarpet hJ  (fun J5 hJ hv => ?_) hv
    exact hp _ hJ hv
  · have hv := hv.2.2.2.1 ((zeq (rfl : zi a1 = zi a1) (by decide : (3 : Int32) = zi 3) ia1 (by decide : ir 3)).mp cq)
    refine vw_X5_tellFlat hJ  (fun J6 hJ hv => ?_) hv
    exact hp _ hJ hv
  · have hv := hv.2.2.2.2.1 ((zeq (rfl : zi a1 = zi a1) (by decide : (4 : Int32) = zi 4) ia1 (by decide : ir 4)).mp cq)
    refine vw_X5_tellPerson hJ  (fun J7 hJ hv => ?_) hv
    exact hp _ hJ hv
  · have hv := hv.2.2.2.2.2.1 ((zeq (rfl : zi a1 = zi a1) (by decide : (5 : Int32) = zi 5) ia1 (by decide : ir 5)).mp cq)
    refine vw_X5_tellWalk hJ  (fun J8 hJ hv => ?_) hv
    exact hp _ hJ hv
  · have hv := hv.2.2.2.2.2.2.1 ((zeq (rfl : zi a1 = zi a1) (by decide : (6 : Int32) = zi 6) ia1 (by decide : ir 6)).mp cq)
    refine vw_X5_tellChange hJ  (fun J9 hJ hv => ?_) hv
    exact hp _ hJ hv
  · have hv := hv.2.2.2.2.2.2.2 (fun q => c0 ((zeq (rfl : zi a1 = zi a1) (by decide : (0 : Int32) = zi 0) ia1 (by decide : ir 0)).mpr q)) (fun q => c1 ((zeq (rfl : zi a1 = zi a1) (by decide : (1 : Int32) = zi 1) ia1 (by decide : ir 1)).mpr q)) (fun q => c2 ((zeq (rfl : zi a1 = zi a1) (by decide : (2 : Int32) = zi 2) ia1 (by decide : ir 2)).mpr q)) (fun q => c3 ((zeq (rfl : zi a1 = zi a1) (by decide : (3 : Int32) = zi 3) ia1 (by decide : ir 3)).mpr q)) (fun q => c4 ((zeq (rfl : zi a1 = zi a1) (by decide : (4 : Int32) = zi 4) ia1 (by decide : ir 4)).mpr q)) (fun q => c5 ((zeq (rfl : zi a1 = zi a1) (by decide : (5 : Int32) = zi 5) ia1 (by decide : ir 5)).mpr q)) (fun q => c6 ((zeq (rfl : zi a1 = zi a1) (by decide : (6 : Int32) = zi 6) ia1 (by decide : ir 6)).mpr q))
    refine vw_X5_tellSound hJ  (fun J10 hJ hv => ?_) hv
    exact hp _ hJ hv
def v_X5_readLine_39 (o : Nat) (otp : Nat) (a1 : Int) (post' : mJ → Prop) (k57' : mJ → Prop) (k68' : mJ → Int → Prop) (J : mJ) (v2 : Int) (v3 : Int) : Prop := ∀ ZZ : (mJ → Int → Int → Prop), (∀ (J : mJ) (v2 : Int) (v3 : Int), ((0 ≤ v2 ∧ v2 < 8) ∧ (((tb_slots v2.toNat).toInt) ≤ v3 → k68' J v2) ∧ (¬ ((tb_slots v2.toNat).toInt) ≤ v3 → v_X5_readValue J o otp v2 v3 (fun b7 J8 => (b7 = true → ir (v3 + 1) ∧ ∀ y10, y10 = v3 + 1 → ZZ J8 v2 y10) ∧ (b7 = false → k57' J8)))) → ZZ J v2 v3) → ZZ J v2 v3
theorem vw_X5_readLine_39 {o : Nat} {otp : Nat} {a1 : Int}  (ia1 : ir a1) {post : mI → Prop} {post' : mJ → Prop} {k57' : mJ → Prop} {k57 : mI → Prop} {k68' : mJ → Int → Prop} {k68 : mI → Int32 → Prop} (hp : ∀ (J1 : mJ), irm J1 → post' J1 → post (zz J1)) (hk57 : ∀ (J : mJ), irm J → k57' J → k57 (zz J)) (hk68 : ∀ (J : mJ) (xv2 : Int32) (v2 : Int), irm J → xv2 = zi v2 → ir v2 → k68' J v2 → k68 (zz J) xv2) {J : mJ} {xv2 : Int32} {v2 : Int} {xv3 : Int32} {v3 : Int} (hJ : irm J) (ev2 : xv2 = zi v2) (iv2 : ir v2) (ev3 : xv3 = zi v3) (iv3 : ir v3) (hv : v_X5_readLine_39 o otp a1 post' k57' k68' J v2 v3) : w_X5_readLine_39 o otp (zi a1) post k57 k68 (zz J) xv2 xv3 := by
  subst ev2
  subst ev3
  unfold v_X5_readLine_39 at hv
  unfold w_X5_readLine_39
  intro ZZ hZ
  refine hv (fun J v2 v3 => ∀ (xv2 : Int32) (xv3 : Int32), irm J → xv2 = zi v2 → ir v2 → xv3 = zi v3 → ir v3 → ZZ (zz J) xv2 xv3) ?_ _ _ hJ rfl iv2 rfl iv3
  clear hv hJ iv2 iv3
  intro J v2 v3 hv xv2 xv3 hJ ev2 iv2 ev3 iv3
  subst ev2
  subst ev3
  refine hZ _ _ _ ?_
  obtain ⟨g6, hv⟩ := hv
  refine ⟨zvp (rfl : zi v2 = zi v2) iv2 g6.1 g6.2, ?_⟩
  refine ⟨fun cq => ?_, fun cq => ?_⟩
  · have hv := hv.1 ((zle ((congrArg tb_slots (zcl (rfl : zi v2 = zi v2) iv2 g6.1)).trans (z_num _)) (rfl : zi v3 = zi v3) (ir_toInt _) iv3).mp cq)
    exact hk68 _ _ _ hJ (rfl : zi v2 = zi v2) iv2 hv
  · have hv := hv.2 (fun q => cq ((zle ((congrArg tb_slots (zcl (rfl : zi v2 = zi v2) iv2 g6.1)).trans (z_num _)) (rfl : zi v3 = zi v3) (ir_toInt _) iv3).mpr q))
    refine vw_X5_readValue hJ (rfl : zi v2 = zi v2) iv2 (rfl : zi v3 = zi v3) iv3 (fun b7 J8 hJ hv => ?_) hv
    refine ⟨fun cq => ?_, fun cq => ?_⟩
    · have hv := hv.1 cq
      obtain ⟨g9, hv⟩ := hv
      intro xy10 exy10
      obtain ⟨y10, eyy10⟩ : ∃ q9 : Int, q9 = v3 + 1 := ⟨_, rfl⟩
      have hv := hv y10 eyy10
      have Ey10 : xy10 = zi y10 := exy10.trans (((za (rfl : zi v3 = zi v3) (by decide : (1 : Int32) = zi 1))).trans (congrArg zi eyy10.symm))
      have Iy10 : ir y10 := by rw [eyy10]; exact g9
      clear exy10
      exact hv _ _ hJ (rfl : zi v2 = zi v2) iv2 Ey10 Iy10
    · have hv := hv.2 cq
      exact hk57 _ hJ hv
def v_X5_readLine_57 (o : Nat) (otp : Nat) (a1 : Int) (post' : mJ → Prop) (J : mJ) : Prop := v_X5_breakOff J o otp (fun J11 => post' J11)
theorem vw_X5_readLine_57 {o : Nat} {otp : Nat} {a1 : Int}  (ia1 : ir a1) {post : mI → Prop} {post' : mJ → Prop} (hp : ∀ (J1 : mJ), irm J1 → post' J1 → post (zz J1)) {J : mJ} (hJ : irm J) (hv : v_X5_readLine_57 o otp a1 post' J) : w_X5_readLine_57 o otp (zi a1) post (zz J) := by
  unfold v_X5_readLine_57 at hv
  unfold w_X5_readLine_57
  refine vw_X5_breakOff hJ  (fun J11 hJ hv => ?_) hv
  exact hp _ hJ hv
def v_X5_readLine_77 (o : Nat) (otp : Nat) (a1 : Int) (post' : mJ → Prop) (J : mJ) (v2 : Int) : Prop := ((J o 7) = 4 → v_X5_nextToken J o otp (fun J13 => (¬ (J13 o 2) = 0 → post' J13) ∧ ((J13 o 2) = 0 → v_X5_tell J13 o otp v2 (fun J14 => post' J14)))) ∧ (¬ (J o 7) = 4 → v_X5_breakOff J o otp (fun J15 => post' J15))
theorem vw_X5_readLine_77 {o : Nat} {otp : Nat} {a1 : Int}  (ia1 : ir a1) {post : mI → Prop} {post' : mJ → Prop} (hp : ∀ (J1 : mJ), irm J1 → post' J1 → post (zz J1)) {J : mJ} {xv2 : Int32} {v2 : Int} (hJ : irm J) (ev2 : xv2 = zi v2) (iv2 : ir v2) (hv : v_X5_readLine_77 o otp a1 post' J v2) : w_X5_readLine_77 o otp (zi a1) post (zz J) xv2 := by
  subst ev2
  unfold v_X5_readLine_77 at hv
  unfold w_X5_readLine_77
  refine ⟨fun cq => ?_, fun cq => ?_⟩
  · have hv := hv.1 ((zeq zrf (by decide : (4 : Int32) = zi 4) (hJ _ _) (by decide : ir 4)).mp cq)
    refine vw_X5_nextToken hJ  (fun J13 hJ hv => ?_) hv
    refine ⟨fun cq => ?_, fun cq => ?_⟩
    · have hv := hv.1 (fun q => cq ((zeq zrf (by decide : (0 : Int32) = zi 0) (hJ _ _) (by decide : ir 0)).mpr q))
      exact hp _ hJ hv
    · have hv := hv.2 ((zeq zrf (by decide : (0 : Int32) = zi 0) (hJ _ _) (by decide : ir 0)).mp cq)
      refine vw_X5_tell hJ (rfl : zi v2 = zi v2) iv2 (fun J14 hJ hv => ?_) hv
      exact hp _ hJ hv
  · have hv := hv.2 (fun q => cq ((zeq zrf (by decide : (4 : Int32) = zi 4) (hJ _ _) (by decide : ir 4)).mpr q))
    refine vw_X5_breakOff hJ  (fun J15 hJ hv => ?_) hv
    exact hp _ hJ hv
def v_X5_readLine_68 (o : Nat) (otp : Nat) (a1 : Int) (post' : mJ → Prop) (J : mJ) (v2 : Int) : Prop := (¬ v2 = 5 → (v_X5_readLine_77 o otp a1 post') J v2) ∧ (v2 = 5 → v_X5_readFurtherGoals J o otp (fun J12 => (v_X5_readLine_77 o otp a1 post') J12 v2))
theorem vw_X5_readLine_68 {o : Nat} {otp : Nat} {a1 : Int}  (ia1 : ir a1) {post : mI → Prop} {post' : mJ → Prop} (hp : ∀ (J1 : mJ), irm J1 → post' J1 → post (zz J1)) {J : mJ} {xv2 : Int32} {v2 : Int} (hJ : irm J) (ev2 : xv2 = zi v2) (iv2 : ir v2) (hv : v_X5_readLine_68 o otp a1 post' J v2) : w_X5_readLine_68 o otp (zi a1) post (zz J) xv2 := by
  subst ev2
  unfold v_X5_readLine_68 at hv
  unfold w_X5_readLine_68
  refine ⟨fun cq => ?_, fun cq => ?_⟩
  · have hv := hv.1 (fun q => cq ((zeq (rfl : zi v2 = zi v2) (by decide : (5 : Int32) = zi 5) iv2 (by decide : ir 5)).mpr q))
    exact vw_X5_readLine_77 ia1 hp hJ (rfl : zi v2 = zi v2) iv2 hv
  · have hv := hv.2 ((zeq (rfl : zi v2 = zi v2) (by decide : (5 : Int32) = zi 5) iv2 (by decide : ir 5)).mp cq)
    refine vw_X5_readFurtherGoals hJ  (fun J12 hJ hv => ?_) hv
    exact vw_X5_readLine_77 ia1 hp hJ (rfl : zi v2 = zi v2) iv2 hv
def v_X5_readLine_33 (o : Nat) (otp : Nat) (a1 : Int) (post' : mJ → Prop) (J : mJ) (v2 : Int) : Prop := v_X5_nextToken J o otp (fun J5 => (v_X5_readLine_39 o otp a1 post' (v_X5_readLine_57 o otp a1 post') (v_X5_readLine_68 o otp a1 post')) J5 v2 0)
theorem vw_X5_readLine_33 {o : Nat} {otp : Nat} {a1 : Int}  (ia1 : ir a1) {post : mI → Prop} {post' : mJ → Prop} (hp : ∀ (J1 : mJ), irm J1 → post' J1 → post (zz J1)) {J : mJ} {xv2 : Int32} {v2 : Int} (hJ : irm J) (ev2 : xv2 = zi v2) (iv2 : ir v2) (hv : v_X5_readLine_33 o otp a1 post' J v2) : w_X5_readLine_33 o otp (zi a1) post (zz J) xv2 := by
  subst ev2
  unfold v_X5_readLine_33 at hv
  unfold w_X5_readLine_33
  refine vw_X5_nextToken hJ  (fun J5 hJ hv => ?_) hv
  refine vw_X5_readLine_39 ia1 hp ?_ ?_ hJ (rfl : zi v2 = zi v2) iv2 (by decide : (0 : Int32) = zi 0) (by decide : ir 0) hv
  · intro qq hJ hv
    exact vw_X5_readLine_57 ia1 hp hJ hv
  · intro qq xx vv hJ ev2 iv2 hv
    exact vw_X5_readLine_68 ia1 hp hJ ev2 iv2 hv
def v_X5_readLine (J : mJ) (o : Nat) (otp : Nat) (a1 : Int) (post' : mJ → Prop) : Prop := v_X5_lineAtToken J o otp a1 (fun r1 => (¬ r1 = (-1) → v_X5_isFull J o otp r1 (fun b2 => (b2 = false → (v_X5_readLine_33 o otp a1 post') J r1) ∧ (b2 = true → v_X5_blame J o otp 3 (J o 8) (fun J3 => (v_X5_readLine_33 o otp a1 post') J3 r1)))) ∧ (r1 = (-1) → v_X5_breakOff J o otp (fun J4 => post' J4)))
theorem vw_X5_readLine {J : mJ} {o : Nat} {otp : Nat} {xa1 : Int32} {a1 : Int} (hJ : irm J)    (ea1 : xa1 = zi a1) (ia1 : ir a1) {post : mI → Prop} {post' : mJ → Prop} (hp : ∀ (J1 : mJ), irm J1 → post' J1 → post (zz J1)) (hv : v_X5_readLine J o otp a1 post') : w_X5_readLine (zz J) o otp xa1 post := by
  subst ea1
  unfold v_X5_readLine at hv
  unfold w_X5_readLine
  refine vw_X5_lineAtToken hJ (rfl : zi a1 = zi a1) ia1 (fun xr1 r1 Er1 Ir1 hv => ?_) hv
  refine ⟨fun cq => ?_, fun cq => ?_⟩
  · have hv := hv.1 (fun q => cq ((zeq Er1 (by decide : ((-1) : Int32) = zi (-1)) Ir1 (by decide : ir (-1))).mpr q))
    refine vw_X5_isFull hJ Er1 Ir1 (fun b2  hv => ?_) hv
    refine ⟨fun cq => ?_, fun cq => ?_⟩
    · have hv := hv.1 cq
      exact vw_X5_readLine_33 ia1 hp hJ Er1 Ir1 hv
    · have hv := hv.2 cq
      refine vw_X5_blame hJ (by decide : (3 : Int32) = zi 3) (by decide : ir 3) zrf (hJ _ _) (fun J3 hJ hv => ?_) hv
      exact vw_X5_readLine_33 ia1 hp hJ Er1 Ir1 hv
  · have hv := hv.2 ((zeq Er1 (by decide : ((-1) : Int32) = zi (-1)) Ir1 (by decide : ir (-1))).mp cq)
    refine vw_X5_breakOff hJ  (fun J4 hJ hv => ?_) hv
    exact hp _ hJ hv
def v_X5_read_59 (o : Nat) (otp : Nat) (a1 : Int) (a2 : Int) (post' : mJ → Prop) (k93' : mJ → Prop) (J : mJ) (v3 : Int) : Prop := ∀ ZZ : (mJ → Int → Prop), (∀ (J : mJ) (v3 : Int), (((J o 5) < v3 → k93' J) ∧ (¬ (J o 5) < v3 → ((J o 7) = 0 → k93' J) ∧ (¬ (J o 7) = 0 → ((J o 2) = 1 → k93' J) ∧ (¬ (J o 2) = 1 → v_X5_readLine J o otp a1 (fun J10 => ir (v3 + 1) ∧ ∀ y12, y12 = v3 + 1 → ZZ J10 y12))))) → ZZ J v3) → ZZ J v3
theorem vw_X5_read_59 {o : Nat} {otp : Nat} {a1 : Int} {a2 : Int}  (ia1 : ir a1) (ia2 : ir a2) {post : mI → Prop} {post' : mJ → Prop} {k93' : mJ → Prop} {k93 : mI → Prop} (hp : ∀ (J1 : mJ), irm J1 → post' J1 → post (zz J1)) (hk93 : ∀ (J : mJ), irm J → k93' J → k93 (zz J)) {J : mJ} {xv3 : Int32} {v3 : Int} (hJ : irm J) (ev3 : xv3 = zi v3) (iv3 : ir v3) (hv : v_X5_read_59 o otp a1 a2 post' k93' J v3) : w_X5_read_59 o otp (zi a1) (zi a2) post k93 (zz J) xv3 := by
  subst ev3
  unfold v_X5_read_59 at hv
  unfold w_X5_read_59
  intro ZZ hZ
  refine hv (fun J v3 => ∀ (xv3 : Int32), irm J → xv3 = zi v3 → ir v3 → ZZ (zz J) xv3) ?_ _ hJ rfl iv3
  clear hv hJ iv3
  intro J v3 hv xv3 hJ ev3 iv3
  subst ev3
  refine hZ _ _ ?_
  refine ⟨fun cq => ?_, fun cq => ?_⟩
  · have hv := hv.1 ((zlt zrf (rfl : zi v3 = zi v3) (hJ _ _) iv3).mp cq)
    exact hk93 _ hJ hv
  · have hv := hv.2 (fun q => cq ((zlt zrf (rfl : zi v3 = zi v3) (hJ _ _) iv3).mpr q))
    refine ⟨fun cq => ?_, fun cq => ?_⟩
    · have hv := hv.1 ((zeq zrf (by decide : (0 : Int32) = zi 0) (hJ _ _) (by decide : ir 0)).mp cq)
      exact hk93 _ hJ hv
    · have hv := hv.2 (fun q => cq ((zeq zrf (by decide : (0 : Int32) = zi 0) (hJ _ _) (by decide : ir 0)).mpr q))
      refine ⟨fun cq => ?_, fun cq => ?_⟩
      · have hv := hv.1 ((zeq zrf (by decide : (1 : Int32) = zi 1) (hJ _ _) (by decide : ir 1)).mp cq)
        exact hk93 _ hJ hv
      · have hv := hv.2 (fun q => cq ((zeq zrf (by decide : (1 : Int32) = zi 1) (hJ _ _) (by decide : ir 1)).mpr q))
        refine vw_X5_readLine hJ (rfl : zi a1 = zi a1) ia1 (fun J10 hJ hv => ?_) hv
        obtain ⟨g11, hv⟩ := hv
        intro xy12 exy12
        obtain ⟨y12, eyy12⟩ : ∃ q9 : Int, q9 = v3 + 1 := ⟨_, rfl⟩
        have hv := hv y12 eyy12
        have Ey12 : xy12 = zi y12 := exy12.trans (((za (rfl : zi v3 = zi v3) (by decide : (1 : Int32) = zi 1))).trans (congrArg zi eyy12.symm))
        have Iy12 : ir y12 := by rw [eyy12]; exact g11
        clear exy12
        exact hv _ hJ Ey12 Iy12
def v_X5_read_126 (o : Nat) (otp : Nat) (a1 : Int) (a2 : Int) (post' : mJ → Prop) (J : mJ) (s0 : Int) : Prop := (¬ a1 = 0 → post' J) ∧ (a1 = 0 → (s0 = 0 → post' J) ∧ (¬ s0 = 0 → v_X5_blame J o otp 4 (J o 5) (fun J13 => post' J13)))
theorem vw_X5_read_126 {o : Nat} {otp : Nat} {a1 : Int} {a2 : Int}  (ia1 : ir a1) (ia2 : ir a2) {post : mI → Prop} {post' : mJ → Prop} (hp : ∀ (J1 : mJ), irm J1 → post' J1 → post (zz J1)) {J : mJ} {xs0 : Int32} {s0 : Int} (hJ : irm J) (es0 : xs0 = zi s0) (is0 : ir s0) (hv : v_X5_read_126 o otp a1 a2 post' J s0) : w_X5_read_126 o otp (zi a1) (zi a2) post (zz J) xs0 := by
  subst es0
  unfold v_X5_read_126 at hv
  unfold w_X5_read_126
  refine ⟨fun cq => ?_, fun cq => ?_⟩
  · have hv := hv.1 (fun q => cq ((zeq (rfl : zi a1 = zi a1) (by decide : (0 : Int32) = zi 0) ia1 (by decide : ir 0)).mpr q))
    exact hp _ hJ hv
  · have hv := hv.2 ((zeq (rfl : zi a1 = zi a1) (by decide : (0 : Int32) = zi 0) ia1 (by decide : ir 0)).mp cq)
    refine ⟨fun cq => ?_, fun cq => ?_⟩
    · have hv := hv.1 ((zeq (rfl : zi s0 = zi s0) (by decide : (0 : Int32) = zi 0) is0 (by decide : ir 0)).mp cq)
      exact hp _ hJ hv
    · have hv := hv.2 (fun q => cq ((zeq (rfl : zi s0 = zi s0) (by decide : (0 : Int32) = zi 0) is0 (by decide : ir 0)).mpr q))
      refine vw_X5_blame hJ (by decide : (4 : Int32) = zi 4) (by decide : ir 4) zrf (hJ _ _) (fun J13 hJ hv => ?_) hv
      exact hp _ hJ hv
def v_X5_read_121 (o : Nat) (otp : Nat) (a1 : Int) (a2 : Int) (post' : mJ → Prop) (J : mJ) : Prop := (v_X5_read_126 o otp a1 a2 post') J 1
theorem vw_X5_read_121 {o : Nat} {otp : Nat} {a1 : Int} {a2 : Int}  (ia1 : ir a1) (ia2 : ir a2) {post : mI → Prop} {post' : mJ → Prop} (hp : ∀ (J1 : mJ), irm J1 → post' J1 → post (zz J1)) {J : mJ} (hJ : irm J) (hv : v_X5_read_121 o otp a1 a2 post' J) : w_X5_read_121 o otp (zi a1) (zi a2) post (zz J) := by
  unfold v_X5_read_121 at hv
  unfold w_X5_read_121
  exact vw_X5_read_126 ia1 ia2 hp hJ (by decide : (1 : Int32) = zi 1) (by decide : ir 1) hv
def v_X5_read_93 (o : Nat) (otp : Nat) (a1 : Int) (a2 : Int) (post' : mJ → Prop) (J : mJ) : Prop := ((J (o + 1) 0) ≤ (J o 12) → (v_X5_read_121 o otp a1 a2 post') J) ∧ (¬ (J (o + 1) 0) ≤ (J o 12) → ((J o 13) < (J (o + 1) 3) → (v_X5_read_126 o otp a1 a2 post') J 0) ∧ (¬ (J o 13) < (J (o + 1) 3) → (v_X5_read_121 o otp a1 a2 post') J))
theorem vw_X5_read_93 {o : Nat} {otp : Nat} {a1 : Int} {a2 : Int}  (ia1 : ir a1) (ia2 : ir a2) {post : mI → Prop} {post' : mJ → Prop} (hp : ∀ (J1 : mJ), irm J1 → post' J1 → post (zz J1)) {J : mJ} (hJ : irm J) (hv : v_X5_read_93 o otp a1 a2 post' J) : w_X5_read_93 o otp (zi a1) (zi a2) post (zz J) := by
  unfold v_X5_read_93 at hv
  unfold w_X5_read_93
  refine ⟨fun cq => ?_, fun cq => ?_⟩
  · have hv := hv.1 ((zle zrf zrf (hJ _ _) (hJ _ _)).mp cq)
    exact vw_X5_read_121 ia1 ia2 hp hJ hv
  · have hv := hv.2 (fun q => cq ((zle zrf zrf (hJ _ _) (hJ _ _)).mpr q))
    refine ⟨fun cq => ?_, fun cq => ?_⟩
    · have hv := hv.1 ((zlt zrf zrf (hJ _ _) (hJ _ _)).mp cq)
      exact vw_X5_read_126 ia1 ia2 hp hJ (by decide : (0 : Int32) = zi 0) (by decide : ir 0) hv
    · have hv := hv.2 (fun q => cq ((zlt zrf zrf (hJ _ _) (hJ _ _)).mpr q))
      exact vw_X5_read_121 ia1 ia2 hp hJ hv
def v_X5_read (J : mJ) (o : Nat) (otp : Nat) (a1 : Int) (a2 : Int) (post' : mJ → Prop) : Prop := ∀ J1, J1 = up2 J o 5 (minZ a2 600) → ∀ J2, J2 = up2 J1 o 6 0 → ∀ J3, J3 = up2 J2 o 2 0 → ∀ J4, J4 = up2 J3 o 3 (-1) → ∀ J5, J5 = up2 J4 o 12 (-1) → ∀ J6, J6 = up2 J5 o 13 (-1) → v_X3_clear J6 (o + 1) (fun J7 => ∀ J8, J8 = up2 J7 (o + 15) 0 0 → v_X5_nextToken J8 o otp (fun J9 => (v_X5_read_59 o otp a1 a2 post' (v_X5_read_93 o otp a1 a2 post')) J9 0))
theorem vw_X5_read {J : mJ} {o : Nat} {otp : Nat} {xa1 : Int32} {a1 : Int} {xa2 : Int32} {a2 : Int} (hJ : irm J)    (ea1 : xa1 = zi a1) (ia1 : ir a1) (ea2 : xa2 = zi a2) (ia2 : ir a2) {post : mI → Prop} {post' : mJ → Prop} (hp : ∀ (J1 : mJ), irm J1 → post' J1 → post (zz J1)) (hv : v_X5_read J o otp a1 a2 post') : w_X5_read (zz J) o otp xa1 xa2 post := by
  subst ea1
  subst ea2
  unfold v_X5_read at hv
  unfold w_X5_read
  intro I1 eI1
  obtain ⟨J1, eJ1⟩ : ∃ q9 : mJ, q9 = up2 J o 5 (minZ a2 600) := ⟨_, rfl⟩
  have eI1 : I1 = zz J1 := by rw [eI1, eJ1]; exact zup (z_min (rfl : zi a2 = zi a2) (z_len (N := 600)) ia2 (by decide : ir (600 : Int)))
  subst eI1
  have hv := hv J1 eJ1
  have hJ : irm J1 := by rw [eJ1]; exact irm_up hJ (ir_min ia2 (by decide : ir (600 : Int)))
  intro I1 eI1
  obtain ⟨J2, eJ2⟩ : ∃ q9 : mJ, q9 = up2 J1 o 6 0 := ⟨_, rfl⟩
  have eI1 : I1 = zz J2 := by rw [eI1, eJ2]; exact zup (by decide : (0 : Int32) = zi 0)
  subst eI1
  have hv := hv J2 eJ2
  have hJ : irm J2 := by rw [eJ2]; exact irm_up hJ (by decide : ir 0)
  intro I1 eI1
  obtain ⟨J3, eJ3⟩ : ∃ q9 : mJ, q9 = up2 J2 o 2 0 := ⟨_, rfl⟩
  have eI1 : I1 = zz J3 := by rw [eI1, eJ3]; exact zup (by decide : (0 : Int32) = zi 0)
  subst eI1
  have hv := hv J3 eJ3
  have hJ : irm J3 := by rw [eJ3]; exact irm_up hJ (by decide : ir 0)
  intro I1 eI1
  obtain ⟨J4, eJ4⟩ : ∃ q9 : mJ, q9 = up2 J3 o 3 (-1) := ⟨_, rfl⟩
  have eI1 : I1 = zz J4 := by rw [eI1, eJ4]; exact zup (by decide : ((-1) : Int32) = zi (-1))
  subst eI1
  have hv := hv J4 eJ4
  have hJ : irm J4 := by rw [eJ4]; exact irm_up hJ (by decide : ir (-1))
  intro I1 eI1
  obtain ⟨J5, eJ5⟩ : ∃ q9 : mJ, q9 = up2 J4 o 12 (-1) := ⟨_, rfl⟩
  have eI1 : I1 = zz J5 := by rw [eI1, eJ5]; exact zup (by decide : ((-1) : Int32) = zi (-1))
  subst eI1
  have hv := hv J5 eJ5
  have hJ : irm J5 := by rw [eJ5]; exact irm_up hJ (by decide : ir (-1))
  intro I1 eI1
  obtain ⟨J6, eJ6⟩ : ∃ q9 : mJ, q9 = up2 J5 o 13 (-1) := ⟨_, rfl⟩
  have eI1 : I1 = zz J6 := by rw [eI1, eJ6]; exact zup (by decide : ((-1) : Int32) = zi (-1))
  subst eI1
  have hv := hv J6 eJ6
  have hJ : irm J6 := by rw [eJ6]; exact irm_up hJ (by decide : ir (-1))
  refine vw_X3_clear hJ  (fun J7 hJ hv => ?_) hv
  intro I1 eI1
  obtain ⟨J8, eJ8⟩ : ∃ q9 : mJ, q9 = up2 J7 (o + 15) 0 0 := ⟨_, rfl⟩
  have eI1 : I1 = zz J8 := by rw [eI1, eJ8]; exact zup (by decide : (0 : Int32) = zi 0)
  subst eI1
  have hv := hv J8 eJ8
  have hJ : irm J8 := by rw [eJ8]; exact irm_up hJ (by decide : ir 0)
  refine vw_X5_nextToken hJ  (fun J9 hJ hv => ?_) hv
  refine vw_X5_read_59 ia1 ia2 hp ?_ hJ (by decide : (0 : Int32) = zi 0) (by decide : ir 0) hv
  · intro qq hJ hv
    exact vw_X5_read_93 ia1 ia2 hp hJ hv
def v_X6_copyFrom (J : mJ) (o : Nat) (a1 : Nat) (post' : mJ → Prop) : Prop := ∀ J1, J1 = up2 J o 0 (J a1 0) → ((a1 + 1) ≠ (o + 1) ∧ (0 : Int) ≤ 0 ∧ (0 : Int) ≤ 0 ∧ (0 : Int) ≤ 10 ∧ 0 + 10 ≤ 10 ∧ 0 + 10 ≤ 10) ∧ ∀ J3, J3 = cpyZ J1 (a1 + 1) (o + 1) 0 0 10 → ((a1 + 2) ≠ (o + 2) ∧ (0 : Int) ≤ 0 ∧ (0 : Int) ≤ 0 ∧ (0 : Int) ≤ 10 ∧ 0 + 10 ≤ 10 ∧ 0 + 10 ≤ 10) ∧ ∀ J5, J5 = cpyZ J3 (a1 + 2) (o + 2) 0 0 10 → ((a1 + 3) ≠ (o + 3) ∧ (0 : Int) ≤ 0 ∧ (0 : Int) ≤ 0 ∧ (0 : Int) ≤ 10 ∧ 0 + 10 ≤ 10 ∧ 0 + 10 ≤ 10) ∧ ∀ J7, J7 = cpyZ J5 (a1 + 3) (o + 3) 0 0 10 → ((a1 + 4) ≠ (o + 4) ∧ (0 : Int) ≤ 0 ∧ (0 : Int) ≤ 0 ∧ (0 : Int) ≤ 10 ∧ 0 + 10 ≤ 10 ∧ 0 + 10 ≤ 10) ∧ ∀ J9, J9 = cpyZ J7 (a1 + 4) (o + 4) 0 0 10 → post' J9
theorem vw_X6_copyFrom {J : mJ} {o : Nat} {a1 : Nat} (hJ : irm J)    {post : mI → Prop} {post' : mJ → Prop} (hp : ∀ (J1 : mJ), irm J1 → post' J1 → post (zz J1)) (hv : v_X6_copyFrom J o a1 post') : w_X6_copyFrom (zz J) o a1 post := by
  unfold v_X6_copyFrom at hv
  unfold w_X6_copyFrom
  intro I1 eI1
  obtain ⟨J1, eJ1⟩ : ∃ q9 : mJ, q9 = up2 J o 0 (J a1 0) := ⟨_, rfl⟩
  have eI1 : I1 = zz J1 := by rw [eI1, eJ1]; exact zup zrf
  subst eI1
  have hv := hv J1 eJ1
  have hJ : irm J1 := by rw [eJ1]; exact irm_up hJ (hJ _ _)
  obtain ⟨⟨hz0, hz1, hz2, hz3, hz4, hz5⟩, hv⟩ := hv
  refine ⟨hz0, z_nn (by decide : (0 : Int32) = zi 0) (by decide : ir 0) hz1, z_nn (by decide : (0 : Int32) = zi 0) (by decide : ir 0) hz2, z_nn (by decide : (10 : Int32) = zi 10) (by decide : ir 10) hz3, z_sum (by decide : (0 : Int32) = zi 0) (by decide : ir 0) hz1 (by decide : (10 : Int32) = zi 10) (by decide : ir 10) hz3 hz4, z_sum (by decide : (0 : Int32) = zi 0) (by decide : ir 0) hz2 (by decide : (10 : Int32) = zi 10) (by decide : ir 10) hz3 hz5, ?_⟩
  intro I1 eI1
  obtain ⟨J3, eJ3⟩ : ∃ q9 : mJ, q9 = cpyZ J1 (a1 + 1) (o + 1) 0 0 10 := ⟨_, rfl⟩
  have eI1 : I1 = zz J3 := by rw [eI1, eJ3]; exact z_cp (by decide : (0 : Int32) = zi 0) (by decide : ir 0) hz1 (by decide : (0 : Int32) = zi 0) (by decide : ir 0) hz2 (by decide : (10 : Int32) = zi 10) (by decide : ir 10) hz3
  subst eI1
  have hv := hv J3 eJ3
  have hJ : irm J3 := by rw [eJ3]; exact irm_cpy hJ
  obtain ⟨⟨hz0, hz1, hz2, hz3, hz4, hz5⟩, hv⟩ := hv
  refine ⟨hz0, z_nn (by decide : (0 : Int32) = zi 0) (by decide : ir 0) hz1, z_nn (by decide : (0 : Int32) = zi 0) (by decide : ir 0) hz2, z_nn (by decide : (10 : Int32) = zi 10) (by decide : ir 10) hz3, z_sum (by decide : (0 : Int32) = zi 0) (by decide : ir 0) hz1 (by decide : (10 : Int32) = zi 10) (by decide : ir 10) hz3 hz4, z_sum (by decide : (0 : Int32) = zi 0) (by decide : ir 0) hz2 (by decide : (10 : Int32) = zi 10) (by decide : ir 10) hz3 hz5, ?_⟩
  intro I1 eI1
  obtain ⟨J5, eJ5⟩ : ∃ q9 : mJ, q9 = cpyZ J3 (a1 + 2) (o + 2) 0 0 10 := ⟨_, rfl⟩
  have eI1 : I1 = zz J5 := by rw [eI1, eJ5]; exact z_cp (by decide : (0 : Int32) = zi 0) (by decide : ir 0) hz1 (by decide : (0 : Int32) = zi 0) (by decide : ir 0) hz2 (by decide : (10 : Int32) = zi 10) (by decide : ir 10) hz3
  subst eI1
  have hv := hv J5 eJ5
  have hJ : irm J5 := by rw [eJ5]; exact irm_cpy hJ
  obtain ⟨⟨hz0, hz1, hz2, hz3, hz4, hz5⟩, hv⟩ := hv
  refine ⟨hz0, z_nn (by decide : (0 : Int32) = zi 0) (by decide : ir 0) hz1, z_nn (by decide : (0 : Int32) = zi 0) (by decide : ir 0) hz2, z_nn (by decide : (10 : Int32) = zi 10) (by decide : ir 10) hz3, z_sum (by decide : (0 : Int32) = zi 0) (by decide : ir 0) hz1 (by decide : (10 : Int32) = zi 10) (by decide : ir 10) hz3 hz4, z_sum (by decide : (0 : Int32) = zi 0) (by decide : ir 0) hz2 (by decide : (10 : Int32) = zi 10) (by decide : ir 10) hz3 hz5, ?_⟩
  intro I1 eI1
  obtain ⟨J7, eJ7⟩ : ∃ q9 : mJ, q9 = cpyZ J5 (a1 + 3) (o + 3) 0 0 10 := ⟨_, rfl⟩
  have eI1 : I1 = zz J7 := by rw [eI1, eJ7]; exact z_cp (by decide : (0 : Int32) = zi 0) (by decide : ir 0) hz1 (by decide : (0 : Int32) = zi 0) (by decide : ir 0) hz2 (by decide : (10 : Int32) = zi 10) (by decide : ir 10) hz3
  subst eI1
  have hv := hv J7 eJ7
  have hJ : irm J7 := by rw [eJ7]; exact irm_cpy hJ
  obtain ⟨⟨hz0, hz1, hz2, hz3, hz4, hz5⟩, hv⟩ := hv
  refine ⟨hz0, z_nn (by decide : (0 : Int32) = zi 0) (by decide : ir 0) hz1, z_nn (by decide : (0 : Int32) = zi 0) (by decide : ir 0) hz2, z_nn (by decide : (10 : Int32) = zi 10) (by decide : ir 10) hz3, z_sum (by decide : (0 : Int32) = zi 0) (by decide : ir 0) hz1 (by decide : (10 : Int32) = zi 10) (by decide : ir 10) hz3 hz4, z_sum (by decide : (0 : Int32) = zi 0) (by decide : ir 0) hz2 (by decide : (10 : Int32) = zi 10) (by decide : ir 10) hz3 hz5, ?_⟩
  intro I1 eI1
  obtain ⟨J9, eJ9⟩ : ∃ q9 : mJ, q9 = cpyZ J7 (a1 + 4) (o + 4) 0 0 10 := ⟨_, rfl⟩
  have eI1 : I1 = zz J9 := by rw [eI1, eJ9]; exact z_cp (by decide : (0 : Int32) = zi 0) (by decide : ir 0) hz1 (by decide : (0 : Int32) = zi 0) (by decide : ir 0) hz2 (by decide : (10 : Int32) = zi 10) (by decide : ir 10) hz3
  subst eI1
  have hv := hv J9 eJ9
  have hJ : irm J9 := by rw [eJ9]; exact irm_cpy hJ
  exact hp _ hJ hv
def v_X6_hasSound (J : mJ) (o : Nat) (a1 : Int) (post' : Bool → Prop) : Prop := (a1 < 0 → post' false) ∧ (¬ a1 < 0 → ((J o 0) ≤ a1 → post' false) ∧ (¬ (J o 0) ≤ a1 → post' true))
theorem vw_X6_hasSound {J : mJ} {o : Nat} {xa1 : Int32} {a1 : Int} (hJ : irm J)   (ea1 : xa1 = zi a1) (ia1 : ir a1) {post : Bool → Prop} {post' : Bool → Prop} (hp : ∀ (r : Bool), post' r → post r) (hv : v_X6_hasSound J o a1 post') : w_X6_hasSound (zz J) o xa1 post := by
  subst ea1
  unfold v_X6_hasSound at hv
  unfold w_X6_hasSound
  refine ⟨fun cq => ?_, fun cq => ?_⟩
  · have hv := hv.1 ((zlt (rfl : zi a1 = zi a1) (by decide : (0 : Int32) = zi 0) ia1 (by decide : ir 0)).mp cq)
    exact hp _ hv
  · have hv := hv.2 (fun q => cq ((zlt (rfl : zi a1 = zi a1) (by decide : (0 : Int32) = zi 0) ia1 (by decide : ir 0)).mpr q))
    refine ⟨fun cq => ?_, fun cq => ?_⟩
    · have hv := hv.1 ((zle zrf (rfl : zi a1 = zi a1) (hJ _ _) ia1).mp cq)
      exact hp _ hv
    · have hv := hv.2 (fun q => cq ((zle zrf (rfl : zi a1 = zi a1) (hJ _ _) ia1).mpr q))
      exact hp _ hv
def v_X7_forget (J : mJ) (o : Nat) (post' : mJ → Prop) : Prop := ∀ J1, J1 = up2 J o 3 (-1) → post' J1
theorem vw_X7_forget {J : mJ} {o : Nat} (hJ : irm J)   {post : mI → Prop} {post' : mJ → Prop} (hp : ∀ (J1 : mJ), irm J1 → post' J1 → post (zz J1)) (hv : v_X7_forget J o post') : w_X7_forget (zz J) o post := by
  unfold v_X7_forget at hv
  unfold w_X7_forget
  intro I1 eI1
  obtain ⟨J1, eJ1⟩ : ∃ q9 : mJ, q9 = up2 J o 3 (-1) := ⟨_, rfl⟩
  have eI1 : I1 = zz J1 := by rw [eI1, eJ1]; exact zup (by decide : ((-1) : Int32) = zi (-1))
  subst eI1
  have hv := hv J1 eJ1
  have hJ : irm J1 := by rw [eJ1]; exact irm_up hJ (by decide : ir (-1))
  exact hp _ hJ hv
def v_X7_isNew_56 (o : Nat) (a1 : Int) (a2 : Int) (a3 : Int) (a4 : Int) (a5 : Int) (a6 : Int) (post' : Bool → mJ → Prop) (J : mJ) (s0 : Int) : Prop := ∀ J1, J1 = up2 J o 3 a1 → ∀ J2, J2 = up2 J1 o 4 a2 → ∀ J3, J3 = up2 J2 o 5 a3 → ∀ J4, J4 = up2 J3 o 6 a4 → ∀ J5, J5 = up2 J4 o 7 a5 → ∀ J6, J6 = up2 J5 o 8 a6 → (¬ s0 = 0 → post' false J6) ∧ (s0 = 0 → post' true J6)
theorem vw_X7_isNew_56 {o : Nat} {a1 : Int} {a2 : Int} {a3 : Int} {a4 : Int} {a5 : Int} {a6 : Int}  (ia1 : ir a1) (ia2 : ir a2) (ia3 : ir a3) (ia4 : ir a4) (ia5 : ir a5) (ia6 : ir a6) {post : Bool → mI → Prop} {post' : Bool → mJ → Prop} (hp : ∀ (r : Bool) (J1 : mJ), irm J1 → post' r J1 → post r (zz J1)) {J : mJ} {xs0 : Int32} {s0 : Int} (hJ : irm J) (es0 : xs0 = zi s0) (is0 : ir s0) (hv : v_X7_isNew_56 o a1 a2 a3 a4 a5 a6 post' J s0) : w_X7_isNew_56 o (zi a1) (zi a2) (zi a3) (zi a4) (zi a5) (zi a6) post (zz J) xs0 := by
  subst es0
  unfold v_X7_isNew_56 at hv
  unfold w_X7_isNew_56
  intro I1 eI1
  obtain ⟨J1, eJ1⟩ : ∃ q9 : mJ, q9 = up2 J o 3 a1 := ⟨_, rfl⟩
  have eI1 : I1 = zz J1 := by rw [eI1, eJ1]; exact zup (rfl : zi a1 = zi a1)
  subst eI1
  have hv := hv J1 eJ1
  have hJ : irm J1 := by rw [eJ1]; exact irm_up hJ ia1
  intro I1 eI1
  obtain ⟨J2, eJ2⟩ : ∃ q9 : mJ, q9 = up2 J1 o 4 a2 := ⟨_, rfl⟩
  have eI1 : I1 = zz J2 := by rw [eI1, eJ2]; exact zup (rfl : zi a2 = zi a2)
  subst eI1
  have hv := hv J2 eJ2
  have hJ : irm J2 := by rw [eJ2]; exact irm_up hJ ia2
  intro I1 eI1
  obtain ⟨J3, eJ3⟩ : ∃ q9 : mJ, q9 = up2 J2 o 5 a3 := ⟨_, rfl⟩
  have eI1 : I1 = zz J3 := by rw [eI1, eJ3]; exact zup (rfl : zi a3 = zi a3)
  subst eI1
  have hv := hv J3 eJ3
  have hJ : irm J3 := by rw [eJ3]; exact irm_up hJ ia3
  intro I1 eI1
  obtain ⟨J4, eJ4⟩ : ∃ q9 : mJ, q9 = up2 J3 o 6 a4 := ⟨_, rfl⟩
  have eI1 : I1 = zz J4 := by rw [eI1, eJ4]; exact zup (rfl : zi a4 = zi a4)
  subst eI1
  have hv := hv J4 eJ4
  have hJ : irm J4 := by rw [eJ4]; exact irm_up hJ ia4
  intro I1 eI1
  obtain ⟨J5, eJ5⟩ : ∃ q9 : mJ, q9 = up2 J4 o 7 a5 := ⟨_, rfl⟩
  have eI1 : I1 = zz J5 := by rw [eI1, eJ5]; exact zup (rfl : zi a5 = zi a5)
  subst eI1
  have hv := hv J5 eJ5
  have hJ : irm J5 := by rw [eJ5]; exact irm_up hJ ia5
  intro I1 eI1
  obtain ⟨J6, eJ6⟩ : ∃ q9 : mJ, q9 = up2 J5 o 8 a6 := ⟨_, rfl⟩
  have eI1 : I1 = zz J6 := by rw [eI1, eJ6]; exact zup (rfl : zi a6 = zi a6)
  subst eI1
  have hv := hv J6 eJ6
  have hJ : irm J6 := by rw [eJ6]; exact irm_up hJ ia6
  refine ⟨fun cq => ?_, fun cq => ?_⟩
  · have hv := hv.1 (fun q => cq ((zeq (rfl : zi s0 = zi s0) (by decide : (0 : Int32) = zi 0) is0 (by decide : ir 0)).mpr q))
    exact hp _ _ hJ hv
  · have hv := hv.2 ((zeq (rfl : zi s0 = zi s0) (by decide : (0 : Int32) = zi 0) is0 (by decide : ir 0)).mp cq)
    exact hp _ _ hJ hv
def v_X7_isNew_55 (o : Nat) (a1 : Int) (a2 : Int) (a3 : Int) (a4 : Int) (a5 : Int) (a6 : Int) (post' : Bool → mJ → Prop) (J : mJ) : Prop := (v_X7_isNew_56 o a1 a2 a3 a4 a5 a6 post') J 0
theorem vw_X7_isNew_55 {o : Nat} {a1 : Int} {a2 : Int} {a3 : Int} {a4 : Int} {a5 : Int} {a6 : Int}  (ia1 : ir a1) (ia2 : ir a2) (ia3 : ir a3) (ia4 : ir a4) (ia5 : ir a5) (ia6 : ir a6) {post : Bool → mI → Prop} {post' : Bool → mJ → Prop} (hp : ∀ (r : Bool) (J1 : mJ), irm J1 → post' r J1 → post r (zz J1)) {J : mJ} (hJ : irm J) (hv : v_X7_isNew_55 o a1 a2 a3 a4 a5 a6 post' J) : w_X7_isNew_55 o (zi a1) (zi a2) (zi a3) (zi a4) (zi a5) (zi a6) post (zz J) := by
  unfold v_X7_isNew_55 at hv
  unfold w_X7_isNew_55
  exact vw_X7_isNew_56 ia1 ia2 ia3 ia4 ia5 ia6 hp hJ (by decide : (0 : Int32) = zi 0) (by decide : ir 0) hv
def v_X7_isNew (J : mJ) (o : Nat) (a1 : Int) (a2 : Int) (a3 : Int) (a4 : Int) (a5 : Int) (a6 : Int) (post' : Bool → mJ → Prop) : Prop := (¬ (J o 3) = a1 → (v_X7_isNew_55 o a1 a2 a3 a4 a5 a6 post') J) ∧ ((J o 3) = a1 → (¬ (J o 4) = a2 → (v_X7_isNew_55 o a1 a2 a3 a4 a5 a6 post') J) ∧ ((J o 4) = a2 → (¬ (J o 5) = a3 → (v_X7_isNew_55 o a1 a2 a3 a4 a5 a6 post') J) ∧ ((J o 5) = a3 → (¬ (J o 6) = a4 → (v_X7_isNew_55 o a1 a2 a3 a4 a5 a6 post') J) ∧ ((J o 6) = a4 → (¬ (J o 7) = a5 → (v_X7_isNew_55 o a1 a2 a3 a4 a5 a6 post') J) ∧ ((J o 7) = a5 → (¬ (J o 8) = a6 → (v_X7_isNew_55 o a1 a2 a3 a4 a5 a6 post') J) ∧ ((J o 8) = a6 → (v_X7_isNew_56 o a1 a2 a3 a4 a5 a6 post') J 1))))))
theorem vw_X7_isNew {J : mJ} {o : Nat} {xa1 : Int32} {a1 : Int} {xa2 : Int32} {a2 : Int} {xa3 : Int32} {a3 : Int} {xa4 : Int32} {a4 : Int} {xa5 : Int32} {a5 : Int} {xa6 : Int32} {a6 : Int} (hJ : irm J)   (ea1 : xa1 = zi a1) (ia1 : ir a1) (ea2 : xa2 = zi a2) (ia2 : ir a2) (ea3 : xa3 = zi a3) (ia3 : ir a3) (ea4 : xa4 = zi a4) (ia4 : ir a4) (ea5 : xa5 = zi a5) (ia5 : ir a5) (ea6 : xa6 = zi a6) (ia6 : ir a6) {post : Bool → mI → Prop} {post' : Bool → mJ → Prop} (hp : ∀ (r : Bool) (J1 : mJ), irm J1 → post' r J1 → post r (zz J1)) (hv : v_X7_isNew J o a1 a2 a3 a4 a5 a6 post') : w_X7_isNew (zz J) o xa1 xa2 xa3 xa4 xa5 xa6 post := by
  subst ea1
  subst ea2
  subst ea3
  subst ea4
  subst ea5
  subst ea6
  unfold v_X7_isNew at hv
  unfold w_X7_isNew
  refine ⟨fun cq => ?_, fun cq => ?_⟩
  · have hv := hv.1 (fun q => cq ((zeq zrf (rfl : zi a1 = zi a1) (hJ _ _) ia1).mpr q))
    exact vw_X7_isNew_55 ia1 ia2 ia3 ia4 ia5 ia6 hp hJ hv
  · have hv := hv.2 ((zeq zrf (rfl : zi a1 = zi a1) (hJ _ _) ia1).mp cq)
    refine ⟨fun cq => ?_, fun cq => ?_⟩
    · have hv := hv.1 (fun q => cq ((zeq zrf (rfl : zi a2 = zi a2) (hJ _ _) ia2).mpr q))
      exact vw_X7_isNew_55 ia1 ia2 ia3 ia4 ia5 ia6 hp hJ hv
    · have hv := hv.2 ((zeq zrf (rfl : zi a2 = zi a2) (hJ _ _) ia2).mp cq)
      refine ⟨fun cq => ?_, fun cq => ?_⟩
      · have hv := hv.1 (fun q => cq ((zeq zrf (rfl : zi a3 = zi a3) (hJ _ _) ia3).mpr q))
        exact vw_X7_isNew_55 ia1 ia2 ia3 ia4 ia5 ia6 hp hJ hv
      · have hv := hv.2 ((zeq zrf (rfl : zi a3 = zi a3) (hJ _ _) ia3).mp cq)
        refine ⟨fun cq => ?_, fun cq => ?_⟩
        · have hv := hv.1 (fun q => cq ((zeq zrf (rfl : zi a4 = zi a4) (hJ _ _) ia4).mpr q))
          exact vw_X7_isNew_55 ia1 ia2 ia3 ia4 ia5 ia6 hp hJ hv
        · have hv := hv.2 ((zeq zrf (rfl : zi a4 = zi a4) (hJ _ _) ia4).mp cq)
          refine ⟨fun cq => ?_, fun cq => ?_⟩
          · have hv := hv.1 (fun q => cq ((zeq zrf (rfl : zi a5 = zi a5) (hJ _ _) ia5).mpr q))
            exact vw_X7_isNew_55 ia1 ia2 ia3 ia4 ia5 ia6 hp hJ hv
          · have hv := hv.2 ((zeq zrf (rfl : zi a5 = zi a5) (hJ _ _) ia5).mp cq)
            refine ⟨fun cq => ?_, fun cq => ?_⟩
            · have hv := hv.1 (fun q => cq ((zeq zrf (rfl : zi a6 = zi a6) (hJ _ _) ia6).mpr q))
              exact vw_X7_isNew_55 ia1 ia2 ia3 ia4 ia5 ia6 hp hJ hv
            · have hv := hv.2 ((zeq zrf (rfl : zi a6 = zi a6) (hJ _ _) ia6).mp cq)
              exact vw_X7_isNew_56 ia1 ia2 ia3 ia4 ia5 ia6 hp hJ (by decide : (1 : Int32) = zi 1) (by decide : ir 1) hv
def v_X7_priceOf (J : mJ) (o : Nat) (a1 : Int) (a2 : Int) (post' : Int → Prop) : Prop := (¬ (J o 8) = (-1) → ((andZ a1 (J o 8)) = 0 → post' 0) ∧ (¬ (andZ a1 (J o 8)) = 0 → post' 1000)) ∧ ((J o 8) = (-1) → (a1 = 0 → post' 0) ∧ (¬ a1 = 0 → (¬ a2 = 0 → post' 0) ∧ (a2 = 0 → post' 1)))
theorem vw_X7_priceOf {J : mJ} {o : Nat} {xa1 : Int32} {a1 : Int} {xa2 : Int32} {a2 : Int} (hJ : irm J)   (ea1 : xa1 = zi a1) (ia1 : ir a1) (ea2 : xa2 = zi a2) (ia2 : ir a2) {post : Int32 → Prop} {post' : Int → Prop} (hp : ∀ (x : Int32) (r : Int), x = zi r → ir r → post' r → post x) (hv : v_X7_priceOf J o a1 a2 post') : w_X7_priceOf (zz J) o xa1 xa2 post := by
  subst ea1
  subst ea2
  unfold v_X7_priceOf at hv
  unfold w_X7_priceOf
  refine ⟨fun cq => ?_, fun cq => ?_⟩
  · have hv := hv.1 (fun q => cq ((zeq zrf (by decide : ((-1) : Int32) = zi (-1)) (hJ _ _) (by decide : ir (-1))).mpr q))
    refine ⟨fun cq => ?_, fun cq => ?_⟩
    · have hv := hv.1 ((zeq (z_and (rfl : zi a1 = zi a1) zrf) (by decide : (0 : Int32) = zi 0) (ir_toInt _) (by decide : ir 0)).mp cq)
      exact hp _ _ (by decide : (0 : Int32) = zi 0) (by decide : ir 0) hv
    · have hv := hv.2 (fun q => cq ((zeq (z_and (rfl : zi a1 = zi a1) zrf) (by decide : (0 : Int32) = zi 0) (ir_toInt _) (by decide : ir 0)).mpr q))
      exact hp _ _ (by decide : (1000 : Int32) = zi 1000) (by decide : ir 1000) hv
  · have hv := hv.2 ((zeq zrf (by decide : ((-1) : Int32) = zi (-1)) (hJ _ _) (by decide : ir (-1))).mp cq)
    refine ⟨fun cq => ?_, fun cq => ?_⟩
    · have hv := hv.1 ((zeq (rfl : zi a1 = zi a1) (by decide : (0 : Int32) = zi 0) ia1 (by decide : ir 0)).mp cq)
      exact hp _ _ (by decide : (0 : Int32) = zi 0) (by decide : ir 0) hv
    · have hv := hv.2 (fun q => cq ((zeq (rfl : zi a1 = zi a1) (by decide : (0 : Int32) = zi 0) ia1 (by decide : ir 0)).mpr q))
      refine ⟨fun cq => ?_, fun cq => ?_⟩
      · have hv := hv.1 (fun q => cq ((zeq (rfl : zi a2 = zi a2) (by decide : (0 : Int32) = zi 0) ia2 (by decide : ir 0)).mpr q))
        exact hp _ _ (by decide : (0 : Int32) = zi 0) (by decide : ir 0) hv
      · have hv := hv.2 ((zeq (rfl : zi a2 = zi a2) (by decide : (0 : Int32) = zi 0) ia2 (by decide : ir 0)).mp cq)
        exact hp _ _ (by decide : (1 : Int32) = zi 1) (by decide : ir 1) hv
def v_X7_setPrices_117 (o : Nat) (a1 : Nat) (a1h : Nat) (a2 : Nat) (a3 : Int) (post' : mJ → Prop) (k26' : mJ → Int → Int → Int → Prop) (J : mJ) (v4 : Int) (v5 : Int) (v6 : Int) (v7 : Int) : Prop := ir (a3 * 24) ∧ ir ((a3 * 24) + v6) ∧ v_X4_cover J a2 v6 v4 (fun b14 => v_X7_priceOf J o v7 (bZ b14) (fun r15 => (0 ≤ ((a3 * 24) + v6) ∧ ((a3 * 24) + v6) < 1464) ∧ ∀ J17, J17 = up2 J (o + 2) (((a3 * 24) + v6).toNat) r15 → ir (v6 + 1) ∧ ∀ y19, y19 = v6 + 1 → k26' J17 v4 v5 y19))
theorem vw_X7_setPrices_117 {o : Nat} {a1 : Nat} {a1h : Nat} {a2 : Nat} {a3 : Int}  (ia3 : ir a3) {post : mI → Prop} {post' : mJ → Prop} {k26' : mJ → Int → Int → Int → Prop} {k26 : mI → Int32 → Int32 → Int32 → Prop} (hp : ∀ (J1 : mJ), irm J1 → post' J1 → post (zz J1)) (hk26 : ∀ (J : mJ) (xv4 : Int32) (v4 : Int) (xv5 : Int32) (v5 : Int) (xv6 : Int32) (v6 : Int), irm J → xv4 = zi v4 → ir v4 → xv5 = zi v5 → ir v5 → xv6 = zi v6 → ir v6 → k26' J v4 v5 v6 → k26 (zz J) xv4 xv5 xv6) {J : mJ} {xv4 : Int32} {v4 : Int} {xv5 : Int32} {v5 : Int} {xv6 : Int32} {v6 : Int} {xv7 : Int32} {v7 : Int} (hJ : irm J) (ev4 : xv4 = zi v4) (iv4 : ir v4) (ev5 : xv5 = zi v5) (iv5 : ir v5) (ev6 : xv6 = zi v6) (iv6 : ir v6) (ev7 : xv7 = zi v7) (iv7 : ir v7) (hv : v_X7_setPrices_117 o a1 a1h a2 a3 post' k26' J v4 v5 v6 v7) : w_X7_setPrices_117 o a1 a1h a2 (zi a3) post k26 (zz J) xv4 xv5 xv6 xv7 := by
  subst ev4
  subst ev5
  subst ev6
  subst ev7
  unfold v_X7_setPrices_117 at hv
  unfold w_X7_setPrices_117
  obtain ⟨g12, hv⟩ := hv
  obtain ⟨g13, hv⟩ := hv
  refine vw_X4_cover hJ (rfl : zi v6 = zi v6) iv6 (rfl : zi v4 = zi v4) iv4 (fun b14  hv => ?_) hv
  refine vw_X7_priceOf hJ (rfl : zi v7 = zi v7) iv7 (z_b b14) (ir_bZ b14) (fun xr15 r15 Er15 Ir15 hv => ?_) hv
  obtain ⟨g16, hv⟩ := hv
  refine ⟨zvp (za (zm (rfl : zi a3 = zi a3) (by decide : (24 : Int32) = zi 24)) (rfl : zi v6 = zi v6)) g13 g16.1 g16.2, ?_⟩
  intro I1 eI1
  obtain ⟨J17, eJ17⟩ : ∃ q9 : mJ, q9 = up2 J (o + 2) (((a3 * 24) + v6).toNat) r15 := ⟨_, rfl⟩
  have eI1 : I1 = zz J17 := by rw [eI1, eJ17]; exact zupa (za (zm (rfl : zi a3 = zi a3) (by decide : (24 : Int32) = zi 24)) (rfl : zi v6 = zi v6)) g13 g16.1 Er15
  subst eI1
  have hv := hv J17 eJ17
  have hJ : irm J17 := by rw [eJ17]; exact irm_up hJ Ir15
  obtain ⟨g18, hv⟩ := hv
  intro xy19 exy19
  obtain ⟨y19, eyy19⟩ : ∃ q9 : Int, q9 = v6 + 1 := ⟨_, rfl⟩
  have hv := hv y19 eyy19
  have Ey19 : xy19 = zi y19 := exy19.trans (((za (rfl : zi v6 = zi v6) (by decide : (1 : Int32) = zi 1))).trans (congrArg zi eyy19.symm))
  have Iy19 : ir y19 := by rw [eyy19]; exact g18
  clear exy19
  exact hk26 _ _ _ _ _ _ _ hJ (rfl : zi v4 = zi v4) iv4 (rfl : zi v5 = zi v5) iv5 Ey19 Iy19 hv
def v_X7_setPrices_26 (o : Nat) (a1 : Nat) (a1h : Nat) (a2 : Nat) (a3 : Int) (post' : mJ → Prop) (J : mJ) (v4 : Int) (v5 : Int) (v6 : Int) : Prop := ∀ ZZ : (mJ → Int → Int → Int → Prop), (∀ (J : mJ) (v4 : Int) (v5 : Int) (v6 : Int), (((J a1h 0) ≤ v6 → post' J) ∧ (¬ (J a1h 0) ≤ v6 → v_X3_loudOf J a1h (J o 4) v6 v5 (fun r4 => v_X2_hearers J a1 a1h v6 r4 (fun r5 => v_X4_latestOn J a2 v6 v4 (fun r6 => (r6 = (-1) → (v_X7_setPrices_117 o a1 a1h a2 a3 post' ZZ) J v4 v5 v6 r5) ∧ (¬ r6 = (-1) → (0 ≤ r6 ∧ r6 < 600) ∧ ir (v4 - (J (a1 + 3) r6.toNat)) ∧ ((J a1h 1) < (v4 - (J (a1 + 3) r6.toNat)) → (v_X7_setPrices_117 o a1 a1h a2 a3 post' ZZ) J v4 v5 v6 r5) ∧ (¬ (J a1h 1) < (v4 - (J (a1 + 3) r6.toNat)) → (0 ≤ r6 ∧ r6 < 600) ∧ v_X2_hearers J a1 a1h v6 (divZ (J (a1 + 5) r6.toNat) 2) (fun r10 => ∀ y11, y11 = (orZ r5 r10) → (v_X7_setPrices_117 o a1 a1h a2 a3 post' ZZ) J v4 v5 v6 y11)))))))) → ZZ J v4 v5 v6) → ZZ J v4 v5 v6
theorem vw_X7_setPrices_26 {o : Nat} {a1 : Nat} {a1h : Nat} {a2 : Nat} {a3 : Int}  (ia3 : ir a3) {post : mI → Prop} {post' : mJ → Prop} (hp : ∀ (J1 : mJ), irm J1 → post' J1 → post (zz J1)) {J : mJ} {xv4 : Int32} {v4 : Int} {xv5 : Int32} {v5 : Int} {xv6 : Int32} {v6 : Int} (hJ : irm J) (ev4 : xv4 = zi v4) (iv4 : ir v4) (ev5 : xv5 = zi v5) (iv5 : ir v5) (ev6 : xv6 = zi v6) (iv6 : ir v6) (hv : v_X7_setPrices_26 o a1 a1h a2 a3 post' J v4 v5 v6) : w_X7_setPrices_26 o a1 a1h a2 (zi a3) post (zz J) xv4 xv5 xv6 := by
  subst ev4
  subst ev5
  subst ev6
  unfold v_X7_setPrices_26 at hv
  unfold w_X7_setPrices_26
  intro ZZ hZ
  refine hv (fun J v4 v5 v6 => ∀ (xv4 : Int32) (xv5 : Int32) (xv6 : Int32), irm J → xv4 = zi v4 → ir v4 → xv5 = zi v5 → ir v5 → xv6 = zi v6 → ir v6 → ZZ (zz J) xv4 xv5 xv6) ?_ _ _ _ hJ rfl iv4 rfl iv5 rfl iv6
  clear hv hJ iv4 iv5 iv6
  intro J v4 v5 v6 hv xv4 xv5 xv6 hJ ev4 iv4 ev5 iv5 ev6 iv6
  subst ev4
  subst ev5
  subst ev6
  refine hZ _ _ _ _ ?_
  refine ⟨fun cq => ?_, fun cq => ?_⟩
  · have hv := hv.1 ((zle zrf (rfl : zi v6 = zi v6) (hJ _ _) iv6).mp cq)
    exact hp _ hJ hv
  · have hv := hv.2 (fun q => cq ((zle zrf (rfl : zi v6 = zi v6) (hJ _ _) iv6).mpr q))
    refine vw_X3_loudOf hJ zrf (hJ _ _) (rfl : zi v6 = zi v6) iv6 (rfl : zi v5 = zi v5) iv5 (fun xr4 r4 Er4 Ir4 hv => ?_) hv
    refine vw_X2_hearers hJ (rfl : zi v6 = zi v6) iv6 Er4 Ir4 (fun xr5 r5 Er5 Ir5 hv => ?_) hv
    refine vw_X4_latestOn hJ (rfl : zi v6 = zi v6) iv6 (rfl : zi v4 = zi v4) iv4 (fun xr6 r6 Er6 Ir6 hv => ?_) hv
    refine ⟨fun cq => ?_, fun cq => ?_⟩
    · have hv := hv.1 ((zeq Er6 (by decide : ((-1) : Int32) = zi (-1)) Ir6 (by decide : ir (-1))).mp cq)
      refine vw_X7_setPrices_117 ia3 hp ?_ hJ (rfl : zi v4 = zi v4) iv4 (rfl : zi v5 = zi v5) iv5 (rfl : zi v6 = zi v6) iv6 Er5 Ir5 hv
      · intro qq xx vv xx vv xx vv hJ ev4 iv4 ev5 iv5 ev6 iv6 hv
        exact hv _ _ _ hJ ev4 iv4 ev5 iv5 ev6 iv6
    · have hv := hv.2 (fun q => cq ((zeq Er6 (by decide : ((-1) : Int32) = zi (-1)) Ir6 (by decide : ir (-1))).mpr q))
      obtain ⟨g7, hv⟩ := hv
      refine ⟨zvp Er6 Ir6 g7.1 g7.2, ?_⟩
      obtain ⟨g8, hv⟩ := hv
      refine ⟨fun cq => ?_, fun cq => ?_⟩
      · have hv := hv.1 ((zlt zrf (zs (rfl : zi v4 = zi v4) (zrd Er6 Ir6 g7.1)) (hJ _ _) g8).mp cq)
        refine vw_X7_setPrices_117 ia3 hp ?_ hJ (rfl : zi v4 = zi v4) iv4 (rfl : zi v5 = zi v5) iv5 (rfl : zi v6 = zi v6) iv6 Er5 Ir5 hv
        · intro qq xx vv xx vv xx vv hJ ev4 iv4 ev5 iv5 ev6 iv6 hv
          exact hv _ _ _ hJ ev4 iv4 ev5 iv5 ev6 iv6
      · have hv := hv.2 (fun q => cq ((zlt zrf (zs (rfl : zi v4 = zi v4) (zrd Er6 Ir6 g7.1)) (hJ _ _) g8).mpr q))
        obtain ⟨g9, hv⟩ := hv
        refine ⟨zvp Er6 Ir6 g9.1 g9.2, ?_⟩
        refine vw_X2_hearers hJ (rfl : zi v6 = zi v6) iv6 (z_div (zrd Er6 Ir6 g9.1) (by decide : (2 : Int32) = zi 2)) (ir_toInt _) (fun xr10 r10 Er10 Ir10 hv => ?_) hv
        intro xy11 exy11
        obtain ⟨y11, eyy11⟩ : ∃ q9 : Int, q9 = (orZ r5 r10) := ⟨_, rfl⟩
        have hv := hv y11 eyy11
        have Ey11 : xy11 = zi y11 := exy11.trans (((z_or Er5 Er10)).trans (congrArg zi eyy11.symm))
        have Iy11 : ir y11 := by rw [eyy11]; exact (ir_toInt _)
        clear exy11
        refine vw_X7_setPrices_117 ia3 hp ?_ hJ (rfl : zi v4 = zi v4) iv4 (rfl : zi v5 = zi v5) iv5 (rfl : zi v6 = zi v6) iv6 Ey11 Iy11 hv
        · intro qq xx vv xx vv xx vv hJ ev4 iv4 ev5 iv5 ev6 iv6 hv
          exact hv _ _ _ hJ ev4 iv4 ev5 iv5 ev6 iv6
def v_X7_setPrices (J : mJ) (o : Nat) (a1 : Nat) (a1h : Nat) (a2 : Nat) (a3 : Int) (post' : mJ → Prop) : Prop := ir ((J o 7) + a3) ∧ ∀ y2, y2 = ((J o 7) + a3) → v_X3_shoeAt J a1h (J o 4) y2 (fun r3 => (v_X7_setPrices_26 o a1 a1h a2 a3 post') J y2 r3 0)
theorem vw_X7_setPrices {J : mJ} {o : Nat} {a1 : Nat} {a1h : Nat} {a2 : Nat} {xa3 : Int32} {a3 : Int} (hJ : irm J)      (ea3 : xa3 = zi a3) (ia3 : ir a3) {post : mI → Prop} {post' : mJ → Prop} (hp : ∀ (J1 : mJ), irm J1 → post' J1 → post (zz J1)) (hv : v_X7_setPrices J o a1 a1h a2 a3 post') : w_X7_setPrices (zz J) o a1 a1h a2 xa3 post := by
  subst ea3
  unfold v_X7_setPrices at hv
  unfold w_X7_setPrices
  obtain ⟨g1, hv⟩ := hv
  intro xy2 exy2
  obtain ⟨y2, eyy2⟩ : ∃ q9 : Int, q9 = ((J o 7) + a3) := ⟨_, rfl⟩
  have hv := hv y2 eyy2
  have Ey2 : xy2 = zi y2 := exy2.trans (((za zrf (rfl : zi a3 = zi a3))).trans (congrArg zi eyy2.symm))
  have Iy2 : ir y2 := by rw [eyy2]; exact g1
  clear exy2
  refine vw_X3_shoeAt hJ zrf (hJ _ _) Ey2 Iy2 (fun xr3 r3 Er3 Ir3 hv => ?_) hv
  exact vw_X7_setPrices_26 ia3 hp hJ Ey2 Iy2 Er3 Ir3 (by decide : (0 : Int32) = zi 0) (by decide : ir 0) hv
def v_X7_leastAt_56 (J : mJ) (o : Nat) (a1 : Nat) (a2 : Int) (a3 : Int) (post' : Int → Prop) (k92' : Int → Int → Prop) (v4 : Int) (v5 : Int) (v7 : Int) (v8 : Int) : Prop := ∀ ZZ : (Int → Int → Int → Int → Prop), (∀ (v4 : Int) (v5 : Int) (v7 : Int) (v8 : Int), ((v7 < v8 → k92' v4 v5) ∧ (¬ v7 < v8 → (v8 = a3 → ir (v8 + 1) ∧ ∀ y12, y12 = v8 + 1 → ZZ v4 v5 v7 y12) ∧ (¬ v8 = a3 → ir (v4 + v8) ∧ (0 ≤ (v4 + v8) ∧ (v4 + v8) < 1464) ∧ ∀ y15, y15 = (minZ v5 (J (o + 3) (v4 + v8).toNat)) → ir (v8 + 1) ∧ ∀ y17, y17 = v8 + 1 → ZZ v4 y15 v7 y17))) → ZZ v4 v5 v7 v8) → ZZ v4 v5 v7 v8
theorem vw_X7_leastAt_56 {J : mJ} {o : Nat} {a1 : Nat} {a2 : Int} {a3 : Int} (hJ : irm J) (ia2 : ir a2) (ia3 : ir a3) {post : Int32 → Prop} {post' : Int → Prop} {k92' : Int → Int → Prop} {k92 : Int32 → Int32 → Prop} (hp : ∀ (x : Int32) (r : Int), x = zi r → ir r → post' r → post x) (hk92 : ∀ (xv4 : Int32) (v4 : Int) (xv5 : Int32) (v5 : Int), xv4 = zi v4 → ir v4 → xv5 = zi v5 → ir v5 → k92' v4 v5 → k92 xv4 xv5) {xv4 : Int32} {v4 : Int} {xv5 : Int32} {v5 : Int} {xv7 : Int32} {v7 : Int} {xv8 : Int32} {v8 : Int} (ev4 : xv4 = zi v4) (iv4 : ir v4) (ev5 : xv5 = zi v5) (iv5 : ir v5) (ev7 : xv7 = zi v7) (iv7 : ir v7) (ev8 : xv8 = zi v8) (iv8 : ir v8) (hv : v_X7_leastAt_56 J o a1 a2 a3 post' k92' v4 v5 v7 v8) : w_X7_leastAt_56 (zz J) o a1 (zi a2) (zi a3) post k92 xv4 xv5 xv7 xv8 := by
  subst ev4
  subst ev5
  subst ev7
  subst ev8
  unfold v_X7_leastAt_56 at hv
  unfold w_X7_leastAt_56
  intro ZZ hZ
  refine hv (fun v4 v5 v7 v8 => ∀ (xv4 : Int32) (xv5 : Int32) (xv7 : Int32) (xv8 : Int32), xv4 = zi v4 → ir v4 → xv5 = zi v5 → ir v5 → xv7 = zi v7 → ir v7 → xv8 = zi v8 → ir v8 → ZZ xv4 xv5 xv7 xv8) ?_ _ _ _ _ rfl iv4 rfl iv5 rfl iv7 rfl iv8
  clear hv iv4 iv5 iv7 iv8
  intro v4 v5 v7 v8 hv xv4 xv5 xv7 xv8 ev4 iv4 ev5 iv5 ev7 iv7 ev8 iv8
  subst ev4
  subst ev5
  subst ev7
  subst ev8
  refine hZ _ _ _ _ ?_
  refine ⟨fun cq => ?_, fun cq => ?_⟩
  · have hv := hv.1 ((zlt (rfl : zi v7 = zi v7) (rfl : zi v8 = zi v8) iv7 iv8).mp cq)
    exact hk92 _ _ _ _ (rfl : zi v4 = zi v4) iv4 (rfl : zi v5 = zi v5) iv5 hv
  · have hv := hv.2 (fun q => cq ((zlt (rfl : zi v7 = zi v7) (rfl : zi v8 = zi v8) iv7 iv8).mpr q))
    refine ⟨fun cq => ?_, fun cq => ?_⟩
    · have hv := hv.1 ((zeq (rfl : zi v8 = zi v8) (rfl : zi a3 = zi a3) iv8 ia3).mp cq)
      obtain ⟨g11, hv⟩ := hv
      intro xy12 exy12
      obtain ⟨y12, eyy12⟩ : ∃ q9 : Int, q9 = v8 + 1 := ⟨_, rfl⟩
      have hv := hv y12 eyy12
      have Ey12 : xy12 = zi y12 := exy12.trans (((za (rfl : zi v8 = zi v8) (by decide : (1 : Int32) = zi 1))).trans (congrArg zi eyy12.symm))
      have Iy12 : ir y12 := by rw [eyy12]; exact g11
      clear exy12
      exact hv _ _ _ _ (rfl : zi v4 = zi v4) iv4 (rfl : zi v5 = zi v5) iv5 (rfl : zi v7 = zi v7) iv7 Ey12 Iy12
    · have hv := hv.2 (fun q => cq ((zeq (rfl : zi v8 = zi v8) (rfl : zi a3 = zi a3) iv8 ia3).mpr q))
      obtain ⟨g13, hv⟩ := hv
      obtain ⟨g14, hv⟩ := hv
      refine ⟨zvp (za (rfl : zi v4 = zi v4) (rfl : zi v8 = zi v8)) g13 g14.1 g14.2, ?_⟩
      intro xy15 exy15
      obtain ⟨y15, eyy15⟩ : ∃ q9 : Int, q9 = (minZ v5 (J (o + 3) (v4 + v8).toNat)) := ⟨_, rfl⟩
      have hv := hv y15 eyy15
      have Ey15 : xy15 = zi y15 := exy15.trans (((z_min (rfl : zi v5 = zi v5) (zrd (za (rfl : zi v4 = zi v4) (rfl : zi v8 = zi v8)) g13 g14.1) iv5 (hJ _ _))).trans (congrArg zi eyy15.symm))
      have Iy15 : ir y15 := by rw [eyy15]; exact (ir_min iv5 (hJ _ _))
      clear exy15
      obtain ⟨g16, hv⟩ := hv
      intro xy17 exy17
      obtain ⟨y17, eyy17⟩ : ∃ q9 : Int, q9 = v8 + 1 := ⟨_, rfl⟩
      have hv := hv y17 eyy17
      have Ey17 : xy17 = zi y17 := exy17.trans (((za (rfl : zi v8 = zi v8) (by decide : (1 : Int32) = zi 1))).trans (congrArg zi eyy17.symm))
      have Iy17 : ir y17 := by rw [eyy17]; exact g16
      clear exy17
      exact hv _ _ _ _ (rfl : zi v4 = zi v4) iv4 Ey15 Iy15 (rfl : zi v7 = zi v7) iv7 Ey17 Iy17
def v_X7_leastAt_92 (J : mJ) (o : Nat) (a1 : Nat) (a2 : Int) (a3 : Int) (post' : Int → Prop) (v4 : Int) (v5 : Int) : Prop := ir (v4 + a3) ∧ (0 ≤ (v4 + a3) ∧ (v4 + a3) < 1464) ∧ ∀ y20, y20 = (J (o + 3) (v4 + a3).toNat) → ir (a2 * 24) ∧ ir ((a2 * 24) + a3) ∧ (0 ≤ ((a2 * 24) + a3) ∧ ((a2 * 24) + a3) < 1464) ∧ ir (v5 + (J (o + 2) ((a2 * 24) + a3).toNat)) ∧ post' (minZ y20 (minZ 1000 (v5 + (J (o + 2) ((a2 * 24) + a3).toNat))))
theorem vw_X7_leastAt_92 {J : mJ} {o : Nat} {a1 : Nat} {a2 : Int} {a3 : Int} (hJ : irm J) (ia2 : ir a2) (ia3 : ir a3) {post : Int32 → Prop} {post' : Int → Prop} (hp : ∀ (x : Int32) (r : Int), x = zi r → ir r → post' r → post x) {xv4 : Int32} {v4 : Int} {xv5 : Int32} {v5 : Int} (ev4 : xv4 = zi v4) (iv4 : ir v4) (ev5 : xv5 = zi v5) (iv5 : ir v5) (hv : v_X7_leastAt_92 J o a1 a2 a3 post' v4 v5) : w_X7_leastAt_92 (zz J) o a1 (zi a2) (zi a3) post xv4 xv5 := by
  subst ev4
  subst ev5
  unfold v_X7_leastAt_92 at hv
  unfold w_X7_leastAt_92
  obtain ⟨g18, hv⟩ := hv
  obtain ⟨g19, hv⟩ := hv
  refine ⟨zvp (za (rfl : zi v4 = zi v4) (rfl : zi a3 = zi a3)) g18 g19.1 g19.2, ?_⟩
  intro xy20 exy20
  obtain ⟨y20, eyy20⟩ : ∃ q9 : Int, q9 = (J (o + 3) (v4 + a3).toNat) := ⟨_, rfl⟩
  have hv := hv y20 eyy20
  have Ey20 : xy20 = zi y20 := exy20.trans (((zrd (za (rfl : zi v4 = zi v4) (rfl : zi a3 = zi a3)) g18 g19.1)).trans (congrArg zi eyy20.symm))
  have Iy20 : ir y20 := by rw [eyy20]; exact (hJ _ _)
  clear exy20
  obtain ⟨g21, hv⟩ := hv
  obtain ⟨g22, hv⟩ := hv
  obtain ⟨g23, hv⟩ := hv
  refine ⟨zvp (za (zm (rfl : zi a2 = zi a2) (by decide : (24 : Int32) = zi 24)) (rfl : zi a3 = zi a3)) g22 g23.1 g23.2, ?_⟩
  obtain ⟨g24, hv⟩ := hv
  exact hp _ _ (z_min Ey20 (z_min (by decide : (1000 : Int32) = zi 1000) (za (rfl : zi v5 = zi v5) (zrd (za (zm (rfl : zi a2 = zi a2) (by decide : (24 : Int32) = zi 24)) (rfl : zi a3 = zi a3)) g22 g23.1)) (by decide : ir 1000) g24) Iy20 (ir_min (by decide : ir 1000) g24)) (ir_min Iy20 (ir_min (by decide : ir 1000) g24)) hv
def v_X7_leastAt (J : mJ) (o : Nat) (a1 : Nat) (a2 : Int) (a3 : Int) (post' : Int → Prop) : Prop := ir (a2 - 1) ∧ ir ((a2 - 1) * 24) ∧ ∀ y3, y3 = ((a2 - 1) * 24) → (0 ≤ (J o 4) ∧ (J o 4) < 6) ∧ ir (a3 - (J (a1 + 6) (J o 4).toNat)) ∧ ∀ y6, y6 = (maxZ 0 (a3 - (J (a1 + 6) (J o 4).toNat))) → ir ((J a1 0) - 1) ∧ (0 ≤ (J o 4) ∧ (J o 4) < 6) ∧ ir (a3 + (J (a1 + 6) (J o 4).toNat)) ∧ ∀ y10, y10 = (minZ ((J a1 0) - 1) (a3 + (J (a1 + 6) (J o 4).toNat))) → (v_X7_leastAt_56 J o a1 a2 a3 post' (v_X7_leastAt_92 J o a1 a2 a3 post')) y3 1000 y10 y6
theorem vw_X7_leastAt {J : mJ} {o : Nat} {a1 : Nat} {xa2 : Int32} {a2 : Int} {xa3 : Int32} {a3 : Int} (hJ : irm J)    (ea2 : xa2 = zi a2) (ia2 : ir a2) (ea3 : xa3 = zi a3) (ia3 : ir a3) {post : Int32 → Prop} {post' : Int → Prop} (hp : ∀ (x : Int32) (r : Int), x = zi r → ir r → post' r → post x) (hv : v_X7_leastAt J o a1 a2 a3 post') : w_X7_leastAt (zz J) o a1 xa2 xa3 post := by
  subst ea2
  subst ea3
  unfold v_X7_leastAt at hv
  unfold w_X7_leastAt
  obtain ⟨g1, hv⟩ := hv
  obtain ⟨g2, hv⟩ := hv
  intro xy3 exy3
  obtain ⟨y3, eyy3⟩ : ∃ q9 : Int, q9 = ((a2 - 1) * 24) := ⟨_, rfl⟩
  have hv := hv y3 eyy3
  have Ey3 : xy3 = zi y3 := exy3.trans (((zm (zs (rfl : zi a2 = zi a2) (by decide : (1 : Int32) = zi 1)) (by decide : (24 : Int32) = zi 24))).trans (congrArg zi eyy3.symm))
  have Iy3 : ir y3 := by rw [eyy3]; exact g2
  clear exy3
  obtain ⟨g4, hv⟩ := hv
  refine ⟨zvp zrf (hJ _ _) g4.1 g4.2, ?_⟩
  obtain ⟨g5, hv⟩ := hv
  intro xy6 exy6
  obtain ⟨y6, eyy6⟩ : ∃ q9 : Int, q9 = (maxZ 0 (a3 - (J (a1 + 6) (J o 4).toNat))) := ⟨_, rfl⟩
  have hv := hv y6 eyy6
  have Ey6 : xy6 = zi y6 := exy6.trans (((z_max (by decide : (0 : Int32) = zi 0) (zs (rfl : zi a3 = zi a3) (zrd zrf (hJ _ _) g4.1)) (by decide : ir 0) g5)).trans (congrArg zi eyy6.symm))
  have Iy6 : ir y6 := by rw [eyy6]; exact (ir_max (by decide : ir 0) g5)
  clear exy6
  obtain ⟨g7, hv⟩ := hv
  obtain ⟨g8, hv⟩ := hv
  refine ⟨zvp zrf (hJ _ _) g8.1 g8.2, ?_⟩
  obtain ⟨g9, hv⟩ := hv
  intro xy10 exy10
  obtain ⟨y10, eyy10⟩ : ∃ q9 : Int, q9 = (minZ ((J a1 0) - 1) (a3 + (J (a1 + 6) (J o 4).toNat))) := ⟨_, rfl⟩
  have hv := hv y10 eyy10
  have Ey10 : xy10 = zi y10 := exy10.trans (((z_min (zs zrf (by decide : (1 : Int32) = zi 1)) (za (rfl : zi a3 = zi a3) (zrd zrf (hJ _ _) g8.1)) g7 g9)).trans (congrArg zi eyy10.symm))
  have Iy10 : ir y10 := by rw [eyy10]; exact (ir_min g7 g9)
  clear exy10
  refine vw_X7_leastAt_56 hJ ia2 ia3 hp ?_ Ey3 Iy3 (by decide : (1000 : Int32) = zi 1000) (by decide : ir 1000) Ey10 Iy10 Ey6 Iy6 hv
  · intro xx vv xx vv ev4 iv4 ev5 iv5 hv
    exact vw_X7_leastAt_92 hJ ia2 ia3 hp ev4 iv4 ev5 iv5 hv
def v_X7_onward_89 (J : mJ) (o : Nat) (a1 : Nat) (a2 : Int) (a3 : Int) (post' : Int → Prop) (k51' : Int → Int → Int → Prop) (v5 : Int) (v6 : Int) (v7 : Int) (s0 : Int) (s1 : Int) : Prop := ir (s0 + s1) ∧ ∀ y17, y17 = (s0 + s1) → ir (a2 + 1) ∧ (0 ≤ (a2 + 1) ∧ (a2 + 1) < 61) ∧ v_X11_has (J (o + 4) (a2 + 1).toNat) v7 (fun b20 => (b20 = false → ir (v7 + 1) ∧ ∀ y22, y22 = v7 + 1 → k51' v5 v6 y22) ∧ (b20 = true → ir (v6 + v7) ∧ (0 ≤ (v6 + v7) ∧ (v6 + v7) < 1464) ∧ (¬ y17 = (J (o + 3) (v6 + v7).toNat) → ir (v7 + 1) ∧ ∀ y26, y26 = v7 + 1 → k51' v5 v6 y26) ∧ (y17 = (J (o + 3) (v6 + v7).toNat) → post' v7)))
theorem vw_X7_onward_89 {J : mJ} {o : Nat} {a1 : Nat} {a2 : Int} {a3 : Int} (hJ : irm J) (ia2 : ir a2) (ia3 : ir a3) {post : Int32 → Prop} {post' : Int → Prop} {k51' : Int → Int → Int → Prop} {k51 : Int32 → Int32 → Int32 → Prop} (hp : ∀ (x : Int32) (r : Int), x = zi r → ir r → post' r → post x) (hk51 : ∀ (xv5 : Int32) (v5 : Int) (xv6 : Int32) (v6 : Int) (xv7 : Int32) (v7 : Int), xv5 = zi v5 → ir v5 → xv6 = zi v6 → ir v6 → xv7 = zi v7 → ir v7 → k51' v5 v6 v7 → k51 xv5 xv6 xv7) {xv5 : Int32} {v5 : Int} {xv6 : Int32} {v6 : Int} {xv7 : Int32} {v7 : Int} {xs0 : Int32} {s0 : Int} {xs1 : Int32} {s1 : Int} (ev5 : xv5 = zi v5) (iv5 : ir v5) (ev6 : xv6 = zi v6) (iv6 : ir v6) (ev7 : xv7 = zi v7) (iv7 : ir v7) (es0 : xs0 = zi s0) (is0 : ir s0) (es1 : xs1 = zi s1) (is1 : ir s1) (hv : v_X7_onward_89 J o a1 a2 a3 post' k51' v5 v6 v7 s0 s1) : w_X7_onward_89 (zz J) o a1 (zi a2) (zi a3) post k51 xv5 xv6 xv7 xs0 xs1 := by
  subst ev5
  subst ev6
  subst ev7
  subst es0
  subst es1
  unfold v_X7_onward_89 at hv
  unfold w_X7_onward_89
  obtain ⟨g16, hv⟩ := hv
  intro xy17 exy17
  obtain ⟨y17, eyy17⟩ : ∃ q9 : Int, q9 = (s0 + s1) := ⟨_, rfl⟩
  have hv := hv y17 eyy17
  have Ey17 : xy17 = zi y17 := exy17.trans (((za (rfl : zi s0 = zi s0) (rfl : zi s1 = zi s1))).trans (congrArg zi eyy17.symm))
  have Iy17 : ir y17 := by rw [eyy17]; exact g16
  clear exy17
  obtain ⟨g18, hv⟩ := hv
  obtain ⟨g19, hv⟩ := hv
  refine ⟨zvp (za (rfl : zi a2 = zi a2) (by decide : (1 : Int32) = zi 1)) g18 g19.1 g19.2, ?_⟩
  refine vw_X11_has (zrd (za (rfl : zi a2 = zi a2) (by decide : (1 : Int32) = zi 1)) g18 g19.1) (hJ _ _) (rfl : zi v7 = zi v7) iv7 (fun b20  hv => ?_) hv
  refine ⟨fun cq => ?_, fun cq => ?_⟩
  · have hv := hv.1 cq
    obtain ⟨g21, hv⟩ := hv
    intro xy22 exy22
    obtain ⟨y22, eyy22⟩ : ∃ q9 : Int, q9 = v7 + 1 := ⟨_, rfl⟩
    have hv := hv y22 eyy22
    have Ey22 : xy22 = zi y22 := exy22.trans (((za (rfl : zi v7 = zi v7) (by decide : (1 : Int32) = zi 1))).trans (congrArg zi eyy22.symm))
    have Iy22 : ir y22 := by rw [eyy22]; exact g21
    clear exy22
    exact hk51 _ _ _ _ _ _ (rfl : zi v5 = zi v5) iv5 (rfl : zi v6 = zi v6) iv6 Ey22 Iy22 hv
  · have hv := hv.2 cq
    obtain ⟨g23, hv⟩ := hv
    obtain ⟨g24, hv⟩ := hv
    refine ⟨zvp (za (rfl : zi v6 = zi v6) (rfl : zi v7 = zi v7)) g23 g24.1 g24.2, ?_⟩
    refine ⟨fun cq => ?_, fun cq => ?_⟩
    · have hv := hv.1 (fun q => cq ((zeq Ey17 (zrd (za (rfl : zi v6 = zi v6) (rfl : zi v7 = zi v7)) g23 g24.1) Iy17 (hJ _ _)).mpr q))
      obtain ⟨g25, hv⟩ := hv
      intro xy26 exy26
      obtain ⟨y26, eyy26⟩ : ∃ q9 : Int, q9 = v7 + 1 := ⟨_, rfl⟩
      have hv := hv y26 eyy26
      have Ey26 : xy26 = zi y26 := exy26.trans (((za (rfl : zi v7 = zi v7) (by decide : (1 : Int32) = zi 1))).trans (congrArg zi eyy26.symm))
      have Iy26 : ir y26 := by rw [eyy26]; exact g25
      clear exy26
      exact hk51 _ _ _ _ _ _ (rfl : zi v5 = zi v5) iv5 (rfl : zi v6 = zi v6) iv6 Ey26 Iy26 hv
    · have hv := hv.2 ((zeq Ey17 (zrd (za (rfl : zi v6 = zi v6) (rfl : zi v7 = zi v7)) g23 g24.1) Iy17 (hJ _ _)).mp cq)
      exact hp _ _ (rfl : zi v7 = zi v7) iv7 hv
def v_X7_onward_51 (J : mJ) (o : Nat) (a1 : Nat) (a2 : Int) (a3 : Int) (post' : Int → Prop) (v5 : Int) (v6 : Int) (v7 : Int) : Prop := ∀ ZZ : (Int → Int → Int → Prop), (∀ (v5 : Int) (v6 : Int) (v7 : Int), ((v5 < v7 → post' (-1)) ∧ (¬ v5 < v7 → ir (a2 * 24) ∧ ir ((a2 * 24) + a3) ∧ (0 ≤ ((a2 * 24) + a3) ∧ ((a2 * 24) + a3) < 1464) ∧ (¬ v7 = a3 → ir (v6 + v7) ∧ (0 ≤ (v6 + v7) ∧ (v6 + v7) < 1464) ∧ (v_X7_onward_89 J o a1 a2 a3 post' ZZ) v5 v6 v7 (J (o + 3) ((a2 * 24) + a3).toNat) (J (o + 2) (v6 + v7).toNat)) ∧ (v7 = a3 → (v_X7_onward_89 J o a1 a2 a3 post' ZZ) v5 v6 v7 (J (o + 3) ((a2 * 24) + a3).toNat) 0))) → ZZ v5 v6 v7) → ZZ v5 v6 v7
theorem vw_X7_onward_51 {J : mJ} {o : Nat} {a1 : Nat} {a2 : Int} {a3 : Int} (hJ : irm J) (ia2 : ir a2) (ia3 : ir a3) {post : Int32 → Prop} {post' : Int → Prop} (hp : ∀ (x : Int32) (r : Int), x = zi r → ir r → post' r → post x) {xv5 : Int32} {v5 : Int} {xv6 : Int32} {v6 : Int} {xv7 : Int32} {v7 : Int} (ev5 : xv5 = zi v5) (iv5 : ir v5) (ev6 : xv6 = zi v6) (iv6 : ir v6) (ev7 : xv7 = zi v7) (iv7 : ir v7) (hv : v_X7_onward_51 J o a1 a2 a3 post' v5 v6 v7) : w_X7_onward_51 (zz J) o a1 (zi a2) (zi a3) post xv5 xv6 xv7 := by
  subst ev5
  subst ev6
  subst ev7
  unfold v_X7_onward_51 at hv
  unfold w_X7_onward_51
  intro ZZ hZ
  refine hv (fun v5 v6 v7 => ∀ (xv5 : Int32) (xv6 : Int32) (xv7 : Int32), xv5 = zi v5 → ir v5 → xv6 = zi v6 → ir v6 → xv7 = zi v7 → ir v7 → ZZ xv5 xv6 xv7) ?_ _ _ _ rfl iv5 rfl iv6 rfl iv7
  clear hv iv5 iv6 iv7
  intro v5 v6 v7 hv xv5 xv6 xv7 ev5 iv5 ev6 iv6 ev7 iv7
  subst ev5
  subst ev6
  subst ev7
  refine hZ _ _ _ ?_
  refine ⟨fun cq => ?_, fun cq => ?_⟩
  · have hv := hv.1 ((zlt (rfl : zi v5 = zi v5) (rfl : zi v7 = zi v7) iv5 iv7).mp cq)
    exact hp _ _ (by decide : ((-1) : Int32) = zi (-1)) (by decide : ir (-1)) hv
  · have hv := hv.2 (fun q => cq ((zlt (rfl : zi v5 = zi v5) (rfl : zi v7 = zi v7) iv5 iv7).mpr q))
    obtain ⟨g11, hv⟩ := hv
    obtain ⟨g12, hv⟩ := hv
    obtain ⟨g13, hv⟩ := hv
    refine ⟨zvp (za (zm (rfl : zi a2 = zi a2) (by decide : (24 : Int32) = zi 24)) (rfl : zi a3 = zi a3)) g12 g13.1 g13.2, ?_⟩
    refine ⟨fun cq => ?_, fun cq => ?_⟩
    · have hv := hv.1 (fun q => cq ((zeq (rfl : zi v7 = zi v7) (rfl : zi a3 = zi a3) iv7 ia3).mpr q))
      obtain ⟨g14, hv⟩ := hv
      obtain ⟨g15, hv⟩ := hv
      refine ⟨zvp (za (rfl : zi v6 = zi v6) (rfl : zi v7 = zi v7)) g14 g15.1 g15.2, ?_⟩
      refine vw_X7_onward_89 hJ ia2 ia3 hp ?_ (rfl : zi v5 = zi v5) iv5 (rfl : zi v6 = zi v6) iv6 (rfl : zi v7 = zi v7) iv7 (zrd (za (zm (rfl : zi a2 = zi a2) (by decide : (24 : Int32) = zi 24)) (rfl : zi a3 = zi a3)) g12 g13.1) (hJ _ _) (zrd (za (rfl : zi v6 = zi v6) (rfl : zi v7 = zi v7)) g14 g15.1) (hJ _ _) hv
      · intro xx vv xx vv xx vv ev5 iv5 ev6 iv6 ev7 iv7 hv
        exact hv _ _ _ ev5 iv5 ev6 iv6 ev7 iv7
    · have hv := hv.2 ((zeq (rfl : zi v7 = zi v7) (rfl : zi a3 = zi a3) iv7 ia3).mp cq)
      refine vw_X7_onward_89 hJ ia2 ia3 hp ?_ (rfl : zi v5 = zi v5) iv5 (rfl : zi v6 = zi v6) iv6 (rfl : zi v7 = zi v7) iv7 (zrd (za (zm (rfl : zi a2 = zi a2) (by decide : (24 : Int32) = zi 24)) (rfl : zi a3 = zi a3)) g12 g13.1) (hJ _ _) (by decide : (0 : Int32) = zi 0) (by decide : ir 0) hv
      · intro xx vv xx vv xx vv ev5 iv5 ev6 iv6 ev7 iv7 hv
        exact hv _ _ _ ev5 iv5 ev6 iv6 ev7 iv7
def v_X7_onward (J : mJ) (o : Nat) (a1 : Nat) (a2 : Int) (a3 : Int) (post' : Int → Prop) : Prop := (0 ≤ (J o 4) ∧ (J o 4) < 6) ∧ ir (a3 - (J (a1 + 6) (J o 4).toNat)) ∧ ∀ y3, y3 = (maxZ 0 (a3 - (J (a1 + 6) (J o 4).toNat))) → ir ((J a1 0) - 1) ∧ (0 ≤ (J o 4) ∧ (J o 4) < 6) ∧ ir (a3 + (J (a1 + 6) (J o 4).toNat)) ∧ ∀ y7, y7 = (minZ ((J a1 0) - 1) (a3 + (J (a1 + 6) (J o 4).toNat))) → ir (a2 + 1) ∧ ir ((a2 + 1) * 24) ∧ ∀ y10, y10 = ((a2 + 1) * 24) → (v_X7_onward_51 J o a1 a2 a3 post') y7 y10 y3
theorem vw_X7_onward {J : mJ} {o : Nat} {a1 : Nat} {xa2 : Int32} {a2 : Int} {xa3 : Int32} {a3 : Int} (hJ : irm J)    (ea2 : xa2 = zi a2) (ia2 : ir a2) (ea3 : xa3 = zi a3) (ia3 : ir a3) {post : Int32 → Prop} {post' : Int → Prop} (hp : ∀ (x : Int32) (r : Int), x = zi r → ir r → post' r → post x) (hv : v_X7_onward J o a1 a2 a3 post') : w_X7_onward (zz J) o a1 xa2 xa3 post := by
  subst ea2
  subst ea3
  unfold v_X7_onward at hv
  unfold w_X7_onward
  obtain ⟨g1, hv⟩ := hv
  refine ⟨zvp zrf (hJ _ _) g1.1 g1.2, ?_⟩
  obtain ⟨g2, hv⟩ := hv
  intro xy3 exy3
  obtain ⟨y3, eyy3⟩ : ∃ q9 : Int, q9 = (maxZ 0 (a3 - (J (a1 + 6) (J o 4).toNat))) := ⟨_, rfl⟩
  have hv := hv y3 eyy3
  have Ey3 : xy3 = zi y3 := exy3.trans (((z_max (by decide : (0 : Int32) = zi 0) (zs (rfl : zi a3 = zi a3) (zrd zrf (hJ _ _) g1.1)) (by decide : ir 0) g2)).trans (congrArg zi eyy3.symm))
  have Iy3 : ir y3 := by rw [eyy3]; exact (ir_max (by decide : ir 0) g2)
  clear exy3
  obtain ⟨g4, hv⟩ := hv
  obtain ⟨g5, hv⟩ := hv
  refine ⟨zvp zrf (hJ _ _) g5.1 g5.2, ?_⟩
  obtain ⟨g6, hv⟩ := hv
  intro xy7 exy7
  obtain ⟨y7, eyy7⟩ : ∃ q9 : Int, q9 = (minZ ((J a1 0) - 1) (a3 + (J (a1 + 6) (J o 4).toNat))) := ⟨_, rfl⟩
  have hv := hv y7 eyy7
  have Ey7 : xy7 = zi y7 := exy7.trans (((z_min (zs zrf (by decide : (1 : Int32) = zi 1)) (za (rfl : zi a3 = zi a3) (zrd zrf (hJ _ _) g5.1)) g4 g6)).trans (congrArg zi eyy7.symm))
  have Iy7 : ir y7 := by rw [eyy7]; exact (ir_min g4 g6)
  clear exy7
  obtain ⟨g8, hv⟩ := hv
  obtain ⟨g9, hv⟩ := hv
  intro xy10 exy10
  obtain ⟨y10, eyy10⟩ : ∃ q9 : Int, q9 = ((a2 + 1) * 24) := ⟨_, rfl⟩
  have hv := hv y10 eyy10
  have Ey10 : xy10 = zi y10 := exy10.trans (((zm (za (rfl : zi a2 = zi a2) (by decide : (1 : Int32) = zi 1)) (by decide : (24 : Int32) = zi 24))).trans (congrArg zi eyy10.symm))
  have Iy10 : ir y10 := by rw [eyy10]; exact g9
  clear exy10
  exact vw_X7_onward_51 hJ ia2 ia3 hp Ey7 Iy7 Ey10 Iy10 Ey3 Iy3 hv
def v_X7_markUseful_35 (o : Nat) (a1 : Nat) (post' : mJ → Prop) (k22' : mJ → Int → Prop) (J : mJ) (v2 : Int) (v3 : Int) : Prop := ∀ ZZ : (mJ → Int → Int → Prop), (∀ (J : mJ) (v2 : Int) (v3 : Int), (((J a1 0) ≤ v3 → ir (v2 + (-1)) ∧ ∀ y8, y8 = v2 + (-1) → k22' J y8) ∧ (¬ (J a1 0) ≤ v3 → ir (v2 * 24) ∧ ir ((v2 * 24) + v3) ∧ (0 ≤ ((v2 * 24) + v3) ∧ ((v2 * 24) + v3) < 1464) ∧ (1000 ≤ (J (o + 3) ((v2 * 24) + v3).toNat) → ir (v3 + 1) ∧ ∀ y13, y13 = v3 + 1 → ZZ J v2 y13) ∧ (¬ 1000 ≤ (J (o + 3) ((v2 * 24) + v3).toNat) → v_X7_onward J o a1 v2 v3 (fun r14 => (r14 = (-1) → ir (v3 + 1) ∧ ∀ y16, y16 = v3 + 1 → ZZ J v2 y16) ∧ (¬ r14 = (-1) → (0 ≤ v2 ∧ v2 < 61) ∧ (0 ≤ v2 ∧ v2 < 61) ∧ ∀ J19, J19 = up2 J (o + 4) v2.toNat (orZ (J (o + 4) v2.toNat) (shlZ 1 v3)) → ir (v3 + 1) ∧ ∀ y21, y21 = v3 + 1 → ZZ J19 v2 y21))))) → ZZ J v2 v3) → ZZ J v2 v3
theorem vw_X7_markUseful_35 {o : Nat} {a1 : Nat}   {post : mI → Prop} {post' : mJ → Prop} {k22' : mJ → Int → Prop} {k22 : mI → Int32 → Prop} (hp : ∀ (J1 : mJ), irm J1 → post' J1 → post (zz J1)) (hk22 : ∀ (J : mJ) (xv2 : Int32) (v2 : Int), irm J → xv2 = zi v2 → ir v2 → k22' J v2 → k22 (zz J) xv2) {J : mJ} {xv2 : Int32} {v2 : Int} {xv3 : Int32} {v3 : Int} (hJ : irm J) (ev2 : xv2 = zi v2) (iv2 : ir v2) (ev3 : xv3 = zi v3) (iv3 : ir v3) (hv : v_X7_markUseful_35 o a1 post' k22' J v2 v3) : w_X7_markUseful_35 o a1 post k22 (zz J) xv2 xv3 := by
  subst ev2
  subst ev3
  unfold v_X7_markUseful_35 at hv
  unfold w_X7_markUseful_35
  intro ZZ hZ
  refine hv (fun J v2 v3 => ∀ (xv2 : Int32) (xv3 : Int32), irm J → xv2 = zi v2 → ir v2 → xv3 = zi v3 → ir v3 → ZZ (zz J) xv2 xv3) ?_ _ _ hJ rfl iv2 rfl iv3
  clear hv hJ iv2 iv3
  intro J v2 v3 hv xv2 xv3 hJ ev2 iv2 ev3 iv3
  subst ev2
  subst ev3
  refine hZ _ _ _ ?_
  refine ⟨fun cq => ?_, fun cq => ?_⟩
  · have hv := hv.1 ((zle zrf (rfl : zi v3 = zi v3) (hJ _ _) iv3).mp cq)
    obtain ⟨g7, hv⟩ := hv
    intro xy8 exy8
    obtain ⟨y8, eyy8⟩ : ∃ q9 : Int, q9 = v2 + (-1) := ⟨_, rfl⟩
    have hv := hv y8 eyy8
    have Ey8 : xy8 = zi y8 := exy8.trans (((za (rfl : zi v2 = zi v2) (by decide : ((-1) : Int32) = zi (-1)))).trans (congrArg zi eyy8.symm))
    have Iy8 : ir y8 := by rw [eyy8]; exact g7
    clear exy8
    exact hk22 _ _ _ hJ Ey8 Iy8 hv
  · have hv := hv.2 (fun q => cq ((zle zrf (rfl : zi v3 = zi v3) (hJ _ _) iv3).mpr q))
    obtain ⟨g9, hv⟩ := hv
    obtain ⟨g10, hv⟩ := hv
    obtain ⟨g11, hv⟩ := hv
    refine ⟨zvp (za (zm (rfl : zi v2 = zi v2) (by decide : (24 : Int32) = zi 24)) (rfl : zi v3 = zi v3)) g10 g11.1 g11.2, ?_⟩
    refine ⟨fun cq => ?_, fun cq => ?_⟩
    · have hv := hv.1 ((zle (by decide : (1000 : Int32) = zi 1000) (zrd (za (zm (rfl : zi v2 = zi v2) (by decide : (24 : Int32) = zi 24)) (rfl : zi v3 = zi v3)) g10 g11.1) (by decide : ir 1000) (hJ _ _)).mp cq)
      obtain ⟨g12, hv⟩ := hv
      intro xy13 exy13
      obtain ⟨y13, eyy13⟩ : ∃ q9 : Int, q9 = v3 + 1 := ⟨_, rfl⟩
      have hv := hv y13 eyy13
      have Ey13 : xy13 = zi y13 := exy13.trans (((za (rfl : zi v3 = zi v3) (by decide : (1 : Int32) = zi 1))).trans (congrArg zi eyy13.symm))
      have Iy13 : ir y13 := by rw [eyy13]; exact g12
      clear exy13
      exact hv _ _ hJ (rfl : zi v2 = zi v2) iv2 Ey13 Iy13
    · have hv := hv.2 (fun q => cq ((zle (by decide : (1000 : Int32) = zi 1000) (zrd (za (zm (rfl : zi v2 = zi v2) (by decide : (24 : Int32) = zi 24)) (rfl : zi v3 = zi v3)) g10 g11.1) (by decide : ir 1000) (hJ _ _)).mpr q))
      refine vw_X7_onward hJ (rfl : zi v2 = zi v2) iv2 (rfl : zi v3 = zi v3) iv3 (fun xr14 r14 Er14 Ir14 hv => ?_) hv
      refine ⟨fun cq => ?_, fun cq => ?_⟩
      · have hv := hv.1 ((zeq Er14 (by decide : ((-1) : Int32) = zi (-1)) Ir14 (by decide : ir (-1))).mp cq)
        obtain ⟨g15, hv⟩ := hv
        intro xy16 exy16
        obtain ⟨y16, eyy16⟩ : ∃ q9 : Int, q9 = v3 + 1 := ⟨_, rfl⟩
        have hv := hv y16 eyy16
        have Ey16 : xy16 = zi y16 := exy16.trans (((za (rfl : zi v3 = zi v3) (by decide : (1 : Int32) = zi 1))).trans (congrArg zi eyy16.symm))
        have Iy16 : ir y16 := by rw [eyy16]; exact g15
        clear exy16
        exact hv _ _ hJ (rfl : zi v2 = zi v2) iv2 Ey16 Iy16
      · have hv := hv.2 (fun q => cq ((zeq Er14 (by decide : ((-1) : Int32) = zi (-1)) Ir14 (by decide : ir (-1))).mpr q))
        obtain ⟨g17, hv⟩ := hv
        refine ⟨zvp (rfl : zi v2 = zi v2) iv2 g17.1 g17.2, ?_⟩
        obtain ⟨g18, hv⟩ := hv
        refine ⟨zvp (rfl : zi v2 = zi v2) iv2 g18.1 g18.2, ?_⟩
        intro I1 eI1
        obtain ⟨J19, eJ19⟩ : ∃ q9 : mJ, q9 = up2 J (o + 4) v2.toNat (orZ (J (o + 4) v2.toNat) (shlZ 1 v3)) := ⟨_, rfl⟩
        have eI1 : I1 = zz J19 := by rw [eI1, eJ19]; exact zupa (rfl : zi v2 = zi v2) iv2 g18.1 (z_or (zrd (rfl : zi v2 = zi v2) iv2 g17.1) (z_shl (by decide : (1 : Int32) = zi 1) (rfl : zi v3 = zi v3)))
        subst eI1
        have hv := hv J19 eJ19
        have hJ : irm J19 := by rw [eJ19]; exact irm_up hJ (ir_toInt _)
        obtain ⟨g20, hv⟩ := hv
        intro xy21 exy21
        obtain ⟨y21, eyy21⟩ : ∃ q9 : Int, q9 = v3 + 1 := ⟨_, rfl⟩
        have hv := hv y21 eyy21
        have Ey21 : xy21 = zi y21 := exy21.trans (((za (rfl : zi v3 = zi v3) (by decide : (1 : Int32) = zi 1))).trans (congrArg zi eyy21.symm))
        have Iy21 : ir y21 := by rw [eyy21]; exact g20
        clear exy21
        exact hv _ _ hJ (rfl : zi v2 = zi v2) iv2 Ey21 Iy21
def v_X7_markUseful_22 (o : Nat) (a1 : Nat) (post' : mJ → Prop) (J : mJ) (v2 : Int) : Prop := ∀ ZZ : (mJ → Int → Prop), (∀ (J : mJ) (v2 : Int), ((v2 < 0 → post' J) ∧ (¬ v2 < 0 → (0 ≤ v2 ∧ v2 < 61) ∧ ∀ J6, J6 = up2 J (o + 4) v2.toNat 0 → (v_X7_markUseful_35 o a1 post' ZZ) J6 v2 0)) → ZZ J v2) → ZZ J v2
theorem vw_X7_markUseful_22 {o : Nat} {a1 : Nat}   {post : mI → Prop} {post' : mJ → Prop} (hp : ∀ (J1 : mJ), irm J1 → post' J1 → post (zz J1)) {J : mJ} {xv2 : Int32} {v2 : Int} (hJ : irm J) (ev2 : xv2 = zi v2) (iv2 : ir v2) (hv : v_X7_markUseful_22 o a1 post' J v2) : w_X7_markUseful_22 o a1 post (zz J) xv2 := by
  subst ev2
  unfold v_X7_markUseful_22 at hv
  unfold w_X7_markUseful_22
  intro ZZ hZ
  refine hv (fun J v2 => ∀ (xv2 : Int32), irm J → xv2 = zi v2 → ir v2 → ZZ (zz J) xv2) ?_ _ hJ rfl iv2
  clear hv hJ iv2
  intro J v2 hv xv2 hJ ev2 iv2
  subst ev2
  refine hZ _ _ ?_
  refine ⟨fun cq => ?_, fun cq => ?_⟩
  · have hv := hv.1 ((zlt (rfl : zi v2 = zi v2) (by decide : (0 : Int32) = zi 0) iv2 (by decide : ir 0)).mp cq)
    exact hp _ hJ hv
  · have hv := hv.2 (fun q => cq ((zlt (rfl : zi v2 = zi v2) (by decide : (0 : Int32) = zi 0) iv2 (by decide : ir 0)).mpr q))
    obtain ⟨g5, hv⟩ := hv
    refine ⟨zvp (rfl : zi v2 = zi v2) iv2 g5.1 g5.2, ?_⟩
    intro I1 eI1
    obtain ⟨J6, eJ6⟩ : ∃ q9 : mJ, q9 = up2 J (o + 4) v2.toNat 0 := ⟨_, rfl⟩
    have eI1 : I1 = zz J6 := by rw [eI1, eJ6]; exact zupa (rfl : zi v2 = zi v2) iv2 g5.1 (by decide : (0 : Int32) = zi 0)
    subst eI1
    have hv := hv J6 eJ6
    have hJ : irm J6 := by rw [eJ6]; exact irm_up hJ (by decide : ir 0)
    refine vw_X7_markUseful_35  hp ?_ hJ (rfl : zi v2 = zi v2) iv2 (by decide : (0 : Int32) = zi 0) (by decide : ir 0) hv
    · intro qq xx vv hJ ev2 iv2 hv
      exact hv _ hJ ev2 iv2
def v_X7_markUseful (J : mJ) (o : Nat) (a1 : Nat) (post' : mJ → Prop) : Prop := (0 ≤ (J o 1) ∧ (J o 1) < 61) ∧ ∀ J2, J2 = up2 J (o + 4) ((J o 1).toNat) (shlZ 1 (J o 6)) → ir ((J2 o 1) - 1) ∧ ∀ y4, y4 = ((J2 o 1) - 1) → (v_X7_markUseful_22 o a1 post') J2 y4
theorem vw_X7_markUseful {J : mJ} {o : Nat} {a1 : Nat} (hJ : irm J)    {post : mI → Prop} {post' : mJ → Prop} (hp : ∀ (J1 : mJ), irm J1 → post' J1 → post (zz J1)) (hv : v_X7_markUseful J o a1 post') : w_X7_markUseful (zz J) o a1 post := by
  unfold v_X7_markUseful at hv
  unfold w_X7_markUseful
  obtain ⟨g1, hv⟩ := hv
  refine ⟨zvp zrf (hJ _ _) g1.1 g1.2, ?_⟩
  intro I1 eI1
  obtain ⟨J2, eJ2⟩ : ∃ q9 : mJ, q9 = up2 J (o + 4) ((J o 1).toNat) (shlZ 1 (J o 6)) := ⟨_, rfl⟩
  have eI1 : I1 = zz J2 := by rw [eI1, eJ2]; exact zupa zrf (hJ _ _) g1.1 (z_shl (by decide : (1 : Int32) = zi 1) zrf)
  subst eI1
  have hv := hv J2 eJ2
  have hJ : irm J2 := by rw [eJ2]; exact irm_up hJ (ir_toInt _)
  obtain ⟨g3, hv⟩ := hv
  intro xy4 exy4
  obtain ⟨y4, eyy4⟩ : ∃ q9 : Int, q9 = ((J2 o 1) - 1) := ⟨_, rfl⟩
  have hv := hv y4 eyy4
  have Ey4 : xy4 = zi y4 := exy4.trans (((zs zrf (by decide : (1 : Int32) = zi 1))).trans (congrArg zi eyy4.symm))
  have Iy4 : ir y4 := by rw [eyy4]; exact g3
  clear exy4
  exact vw_X7_markUseful_22  hp hJ Ey4 Iy4 hv
def v_X7_layRow_36 (o : Nat) (a1 : Nat) (post' : mJ → Prop) (k7' : mJ → Int → Int → Prop) (J : mJ) (v3 : Int) (s0 : Int) : Prop := (0 ≤ v3 ∧ v3 < 60) ∧ ∀ J4, J4 = up2 J (o + 1) v3.toNat s0 → ir (v3 + 1) ∧ ∀ y6, y6 = v3 + 1 → k7' J4 s0 y6
theorem vw_X7_layRow_36 {o : Nat} {a1 : Nat}   {post : mI → Prop} {post' : mJ → Prop} {k7' : mJ → Int → Int → Prop} {k7 : mI → Int32 → Int32 → Prop} (hp : ∀ (J1 : mJ), irm J1 → post' J1 → post (zz J1)) (hk7 : ∀ (J : mJ) (xv2 : Int32) (v2 : Int) (xv3 : Int32) (v3 : Int), irm J → xv2 = zi v2 → ir v2 → xv3 = zi v3 → ir v3 → k7' J v2 v3 → k7 (zz J) xv2 xv3) {J : mJ} {xv3 : Int32} {v3 : Int} {xs0 : Int32} {s0 : Int} (hJ : irm J) (ev3 : xv3 = zi v3) (iv3 : ir v3) (es0 : xs0 = zi s0) (is0 : ir s0) (hv : v_X7_layRow_36 o a1 post' k7' J v3 s0) : w_X7_layRow_36 o a1 post k7 (zz J) xv3 xs0 := by
  subst ev3
  subst es0
  unfold v_X7_layRow_36 at hv
  unfold w_X7_layRow_36
  obtain ⟨g3, hv⟩ := hv
  refine ⟨zvp (rfl : zi v3 = zi v3) iv3 g3.1 g3.2, ?_⟩
  intro I1 eI1
  obtain ⟨J4, eJ4⟩ : ∃ q9 : mJ, q9 = up2 J (o + 1) v3.toNat s0 := ⟨_, rfl⟩
  have eI1 : I1 = zz J4 := by rw [eI1, eJ4]; exact zupa (rfl : zi v3 = zi v3) iv3 g3.1 (rfl : zi s0 = zi s0)
  subst eI1
  have hv := hv J4 eJ4
  have hJ : irm J4 := by rw [eJ4]; exact irm_up hJ is0
  obtain ⟨g5, hv⟩ := hv
  intro xy6 exy6
  obtain ⟨y6, eyy6⟩ : ∃ q9 : Int, q9 = v3 + 1 := ⟨_, rfl⟩
  have hv := hv y6 eyy6
  have Ey6 : xy6 = zi y6 := exy6.trans (((za (rfl : zi v3 = zi v3) (by decide : (1 : Int32) = zi 1))).trans (congrArg zi eyy6.symm))
  have Iy6 : ir y6 := by rw [eyy6]; exact g5
  clear exy6
  exact hk7 _ _ _ _ _ hJ (rfl : zi s0 = zi s0) is0 Ey6 Iy6 hv
def v_X7_layRow_7 (o : Nat) (a1 : Nat) (post' : mJ → Prop) (J : mJ) (v2 : Int) (v3 : Int) : Prop := ∀ ZZ : (mJ → Int → Int → Prop), (∀ (J : mJ) (v2 : Int) (v3 : Int), (((J o 1) ≤ v3 → post' J) ∧ (¬ (J o 1) ≤ v3 → v_X7_onward J o a1 v3 v2 (fun r2 => (¬ r2 = (-1) → (v_X7_layRow_36 o a1 post' ZZ) J v3 r2) ∧ (r2 = (-1) → (v_X7_layRow_36 o a1 post' ZZ) J v3 v2)))) → ZZ J v2 v3) → ZZ J v2 v3
theorem vw_X7_layRow_7 {o : Nat} {a1 : Nat}   {post : mI → Prop} {post' : mJ → Prop} (hp : ∀ (J1 : mJ), irm J1 → post' J1 → post (zz J1)) {J : mJ} {xv2 : Int32} {v2 : Int} {xv3 : Int32} {v3 : Int} (hJ : irm J) (ev2 : xv2 = zi v2) (iv2 : ir v2) (ev3 : xv3 = zi v3) (iv3 : ir v3) (hv : v_X7_layRow_7 o a1 post' J v2 v3) : w_X7_layRow_7 o a1 post (zz J) xv2 xv3 := by
  subst ev2
  subst ev3
  unfold v_X7_layRow_7 at hv
  unfold w_X7_layRow_7
  intro ZZ hZ
  refine hv (fun J v2 v3 => ∀ (xv2 : Int32) (xv3 : Int32), irm J → xv2 = zi v2 → ir v2 → xv3 = zi v3 → ir v3 → ZZ (zz J) xv2 xv3) ?_ _ _ hJ rfl iv2 rfl iv3
  clear hv hJ iv2 iv3
  intro J v2 v3 hv xv2 xv3 hJ ev2 iv2 ev3 iv3
  subst ev2
  subst ev3
  refine hZ _ _ _ ?_
  refine ⟨fun cq => ?_, fun cq => ?_⟩
  · have hv := hv.1 ((zle zrf (rfl : zi v3 = zi v3) (hJ _ _) iv3).mp cq)
    exact hp _ hJ hv
  · have hv := hv.2 (fun q => cq ((zle zrf (rfl : zi v3 = zi v3) (hJ _ _) iv3).mpr q))
    refine vw_X7_onward hJ (rfl : zi v3 = zi v3) iv3 (rfl : zi v2 = zi v2) iv2 (fun xr2 r2 Er2 Ir2 hv => ?_) hv
    refine ⟨fun cq => ?_, fun cq => ?_⟩
    · have hv := hv.1 (fun q => cq ((zeq Er2 (by decide : ((-1) : Int32) = zi (-1)) Ir2 (by decide : ir (-1))).mpr q))
      refine vw_X7_layRow_36  hp ?_ hJ (rfl : zi v3 = zi v3) iv3 Er2 Ir2 hv
      · intro qq xx vv xx vv hJ ev2 iv2 ev3 iv3 hv
        exact hv _ _ hJ ev2 iv2 ev3 iv3
    · have hv := hv.2 ((zeq Er2 (by decide : ((-1) : Int32) = zi (-1)) Ir2 (by decide : ir (-1))).mp cq)
      refine vw_X7_layRow_36  hp ?_ hJ (rfl : zi v3 = zi v3) iv3 (rfl : zi v2 = zi v2) iv2 hv
      · intro qq xx vv xx vv hJ ev2 iv2 ev3 iv3 hv
        exact hv _ _ hJ ev2 iv2 ev3 iv3
def v_X7_layRow (J : mJ) (o : Nat) (a1 : Nat) (post' : mJ → Prop) : Prop := ∀ y1, y1 = (J o 5) → (v_X7_layRow_7 o a1 post') J y1 0
theorem vw_X7_layRow {J : mJ} {o : Nat} {a1 : Nat} (hJ : irm J)    {post : mI → Prop} {post' : mJ → Prop} (hp : ∀ (J1 : mJ), irm J1 → post' J1 → post (zz J1)) (hv : v_X7_layRow J o a1 post') : w_X7_layRow (zz J) o a1 post := by
  unfold v_X7_layRow at hv
  unfold w_X7_layRow
  intro xy1 exy1
  obtain ⟨y1, eyy1⟩ : ∃ q9 : Int, q9 = (J o 5) := ⟨_, rfl⟩
  have hv := hv y1 eyy1
  have Ey1 : xy1 = zi y1 := exy1.trans ((zrf).trans (congrArg zi eyy1.symm))
  have Iy1 : ir y1 := by rw [eyy1]; exact (hJ _ _)
  clear exy1
  exact vw_X7_layRow_7  hp hJ Ey1 Iy1 (by decide : (0 : Int32) = zi 0) (by decide : ir 0) hv
def v_X7_plan_81 (o : Nat) (a1 : Nat) (a1h : Nat) (a2 : Nat) (post' : mJ → Prop) (k50' : mJ → Int → Prop) (J : mJ) (v4 : Int) (s1 : Int) (s2 : Int) : Prop := (0 ≤ s1 ∧ s1 < 1464) ∧ ∀ J4, J4 = up2 J (o + 3) s1.toNat s2 → ir (v4 + 1) ∧ ∀ y6, y6 = v4 + 1 → k50' J4 y6
theorem vw_X7_plan_81 {o : Nat} {a1 : Nat} {a1h : Nat} {a2 : Nat}   {post : mI → Prop} {post' : mJ → Prop} {k50' : mJ → Int → Prop} {k50 : mI → Int32 → Prop} (hp : ∀ (J1 : mJ), irm J1 → post' J1 → post (zz J1)) (hk50 : ∀ (J : mJ) (xv4 : Int32) (v4 : Int), irm J → xv4 = zi v4 → ir v4 → k50' J v4 → k50 (zz J) xv4) {J : mJ} {xv4 : Int32} {v4 : Int} {xs1 : Int32} {s1 : Int} {xs2 : Int32} {s2 : Int} (hJ : irm J) (ev4 : xv4 = zi v4) (iv4 : ir v4) (es1 : xs1 = zi s1) (is1 : ir s1) (es2 : xs2 = zi s2) (is2 : ir s2) (hv : v_X7_plan_81 o a1 a1h a2 post' k50' J v4 s1 s2) : w_X7_plan_81 o a1 a1h a2 post k50 (zz J) xv4 xs1 xs2 := by
  subst ev4
  subst es1
  subst es2
  unfold v_X7_plan_81 at hv
  unfold w_X7_plan_81
  obtain ⟨g3, hv⟩ := hv
  refine ⟨zvp (rfl : zi s1 = zi s1) is1 g3.1 g3.2, ?_⟩
  intro I1 eI1
  obtain ⟨J4, eJ4⟩ : ∃ q9 : mJ, q9 = up2 J (o + 3) s1.toNat s2 := ⟨_, rfl⟩
  have eI1 : I1 = zz J4 := by rw [eI1, eJ4]; exact zupa (rfl : zi s1 = zi s1) is1 g3.1 (rfl : zi s2 = zi s2)
  subst eI1
  have hv := hv J4 eJ4
  have hJ : irm J4 := by rw [eJ4]; exact irm_up hJ is2
  obtain ⟨g5, hv⟩ := hv
  intro xy6 exy6
  obtain ⟨y6, eyy6⟩ : ∃ q9 : Int, q9 = v4 + 1 := ⟨_, rfl⟩
  have hv := hv y6 eyy6
  have Ey6 : xy6 = zi y6 := exy6.trans (((za (rfl : zi v4 = zi v4) (by decide : (1 : Int32) = zi 1))).trans (congrArg zi eyy6.symm))
  have Iy6 : ir y6 := by rw [eyy6]; exact g5
  clear exy6
  exact hk50 _ _ _ hJ Ey6 Iy6 hv
def v_X7_plan_50 (o : Nat) (a1 : Nat) (a1h : Nat) (a2 : Nat) (post' : mJ → Prop) (k91' : mJ → Int → Prop) (J : mJ) (v4 : Int) : Prop := ∀ ZZ : (mJ → Int → Prop), (∀ (J : mJ) (v4 : Int), (((J a1h 0) ≤ v4 → k91' J 1) ∧ (¬ (J a1h 0) ≤ v4 → (¬ v4 = (J o 5) → (v_X7_plan_81 o a1 a1h a2 post' ZZ) J v4 v4 1000) ∧ (v4 = (J o 5) → (v_X7_plan_81 o a1 a1h a2 post' ZZ) J v4 v4 0))) → ZZ J v4) → ZZ J v4
theorem vw_X7_plan_50 {o : Nat} {a1 : Nat} {a1h : Nat} {a2 : Nat}   {post : mI → Prop} {post' : mJ → Prop} {k91' : mJ → Int → Prop} {k91 : mI → Int32 → Prop} (hp : ∀ (J1 : mJ), irm J1 → post' J1 → post (zz J1)) (hk91 : ∀ (J : mJ) (xv4 : Int32) (v4 : Int), irm J → xv4 = zi v4 → ir v4 → k91' J v4 → k91 (zz J) xv4) {J : mJ} {xv4 : Int32} {v4 : Int} (hJ : irm J) (ev4 : xv4 = zi v4) (iv4 : ir v4) (hv : v_X7_plan_50 o a1 a1h a2 post' k91' J v4) : w_X7_plan_50 o a1 a1h a2 post k91 (zz J) xv4 := by
  subst ev4
  unfold v_X7_plan_50 at hv
  unfold w_X7_plan_50
  intro ZZ hZ
  refine hv (fun J v4 => ∀ (xv4 : Int32), irm J → xv4 = zi v4 → ir v4 → ZZ (zz J) xv4) ?_ _ hJ rfl iv4
  clear hv hJ iv4
  intro J v4 hv xv4 hJ ev4 iv4
  subst ev4
  refine hZ _ _ ?_
  refine ⟨fun cq => ?_, fun cq => ?_⟩
  · have hv := hv.1 ((zle zrf (rfl : zi v4 = zi v4) (hJ _ _) iv4).mp cq)
    exact hk91 _ _ _ hJ (by decide : (1 : Int32) = zi 1) (by decide : ir 1) hv
  · have hv := hv.2 (fun q => cq ((zle zrf (rfl : zi v4 = zi v4) (hJ _ _) iv4).mpr q))
    refine ⟨fun cq => ?_, fun cq => ?_⟩
    · have hv := hv.1 (fun q => cq ((zeq (rfl : zi v4 = zi v4) zrf iv4 (hJ _ _)).mpr q))
      refine vw_X7_plan_81  hp ?_ hJ (rfl : zi v4 = zi v4) iv4 (rfl : zi v4 = zi v4) iv4 (by decide : (1000 : Int32) = zi 1000) (by decide : ir 1000) hv
      · intro qq xx vv hJ ev4 iv4 hv
        exact hv _ hJ ev4 iv4
    · have hv := hv.2 ((zeq (rfl : zi v4 = zi v4) zrf iv4 (hJ _ _)).mp cq)
      refine vw_X7_plan_81  hp ?_ hJ (rfl : zi v4 = zi v4) iv4 (rfl : zi v4 = zi v4) iv4 (by decide : (0 : Int32) = zi 0) (by decide : ir 0) hv
      · intro qq xx vv hJ ev4 iv4 hv
        exact hv _ hJ ev4 iv4
def v_X7_plan_116 (o : Nat) (a1 : Nat) (a1h : Nat) (a2 : Nat) (post' : mJ → Prop) (k153' : mJ → Int → Prop) (J : mJ) (v4 : Int) (v5 : Int) : Prop := ∀ ZZ : (mJ → Int → Int → Prop), (∀ (J : mJ) (v4 : Int) (v5 : Int), (((J a1h 0) ≤ v5 → k153' J v4) ∧ (¬ (J a1h 0) ≤ v5 → ir (v4 * 24) ∧ ir ((v4 * 24) + v5) ∧ v_X7_leastAt J o a1h v4 v5 (fun r10 => (0 ≤ ((v4 * 24) + v5) ∧ ((v4 * 24) + v5) < 1464) ∧ ∀ J12, J12 = up2 J (o + 3) (((v4 * 24) + v5).toNat) r10 → ir (v5 + 1) ∧ ∀ y14, y14 = v5 + 1 → ZZ J12 v4 y14))) → ZZ J v4 v5) → ZZ J v4 v5
theorem vw_X7_plan_116 {o : Nat} {a1 : Nat} {a1h : Nat} {a2 : Nat}   {post : mI → Prop} {post' : mJ → Prop} {k153' : mJ → Int → Prop} {k153 : mI → Int32 → Prop} (hp : ∀ (J1 : mJ), irm J1 → post' J1 → post (zz J1)) (hk153 : ∀ (J : mJ) (xv4 : Int32) (v4 : Int), irm J → xv4 = zi v4 → ir v4 → k153' J v4 → k153 (zz J) xv4) {J : mJ} {xv4 : Int32} {v4 : Int} {xv5 : Int32} {v5 : Int} (hJ : irm J) (ev4 : xv4 = zi v4) (iv4 : ir v4) (ev5 : xv5 = zi v5) (iv5 : ir v5) (hv : v_X7_plan_116 o a1 a1h a2 post' k153' J v4 v5) : w_X7_plan_116 o a1 a1h a2 post k153 (zz J) xv4 xv5 := by
  subst ev4
  subst ev5
  unfold v_X7_plan_116 at hv
  unfold w_X7_plan_116
  intro ZZ hZ
  refine hv (fun J v4 v5 => ∀ (xv4 : Int32) (xv5 : Int32), irm J → xv4 = zi v4 → ir v4 → xv5 = zi v5 → ir v5 → ZZ (zz J) xv4 xv5) ?_ _ _ hJ rfl iv4 rfl iv5
  clear hv hJ iv4 iv5
  intro J v4 v5 hv xv4 xv5 hJ ev4 iv4 ev5 iv5
  subst ev4
  subst ev5
  refine hZ _ _ _ ?_
  refine ⟨fun cq => ?_, fun cq => ?_⟩
  · have hv := hv.1 ((zle zrf (rfl : zi v5 = zi v5) (hJ _ _) iv5).mp cq)
    exact hk153 _ _ _ hJ (rfl : zi v4 = zi v4) iv4 hv
  · have hv := hv.2 (fun q => cq ((zle zrf (rfl : zi v5 = zi v5) (hJ _ _) iv5).mpr q))
    obtain ⟨g8, hv⟩ := hv
    obtain ⟨g9, hv⟩ := hv
    refine vw_X7_leastAt hJ (rfl : zi v4 = zi v4) iv4 (rfl : zi v5 = zi v5) iv5 (fun xr10 r10 Er10 Ir10 hv => ?_) hv
    obtain ⟨g11, hv⟩ := hv
    refine ⟨zvp (za (zm (rfl : zi v4 = zi v4) (by decide : (24 : Int32) = zi 24)) (rfl : zi v5 = zi v5)) g9 g11.1 g11.2, ?_⟩
    intro I1 eI1
    obtain ⟨J12, eJ12⟩ : ∃ q9 : mJ, q9 = up2 J (o + 3) (((v4 * 24) + v5).toNat) r10 := ⟨_, rfl⟩
    have eI1 : I1 = zz J12 := by rw [eI1, eJ12]; exact zupa (za (zm (rfl : zi v4 = zi v4) (by decide : (24 : Int32) = zi 24)) (rfl : zi v5 = zi v5)) g9 g11.1 Er10
    subst eI1
    have hv := hv J12 eJ12
    have hJ : irm J12 := by rw [eJ12]; exact irm_up hJ Ir10
    obtain ⟨g13, hv⟩ := hv
    intro xy14 exy14
    obtain ⟨y14, eyy14⟩ : ∃ q9 : Int, q9 = v5 + 1 := ⟨_, rfl⟩
    have hv := hv y14 eyy14
    have Ey14 : xy14 = zi y14 := exy14.trans (((za (rfl : zi v5 = zi v5) (by decide : (1 : Int32) = zi 1))).trans (congrArg zi eyy14.symm))
    have Iy14 : ir y14 := by rw [eyy14]; exact g13
    clear exy14
    exact hv _ _ hJ (rfl : zi v4 = zi v4) iv4 Ey14 Iy14
def v_X7_plan_153 (o : Nat) (a1 : Nat) (a1h : Nat) (a2 : Nat) (post' : mJ → Prop) (k91' : mJ → Int → Prop) (J : mJ) (v4 : Int) : Prop := ir (v4 * 24) ∧ ir ((v4 * 24) + (J o 6)) ∧ (0 ≤ ((v4 * 24) + (J o 6)) ∧ ((v4 * 24) + (J o 6)) < 1464) ∧ ((J o 0) ≤ (J (o + 3) ((v4 * 24) + (J o 6)).toNat) → ir (v4 + 1) ∧ ∀ y19, y19 = v4 + 1 → k91' J y19) ∧ (¬ (J o 0) ≤ (J (o + 3) ((v4 * 24) + (J o 6)).toNat) → ir (v4 * 24) ∧ ir ((v4 * 24) + (J o 6)) ∧ (0 ≤ ((v4 * 24) + (J o 6)) ∧ ((v4 * 24) + (J o 6)) < 1464) ∧ ∀ J23, J23 = up2 J o 0 (J (o + 3) ((v4 * 24) + (J o 6)).toNat) → ∀ J24, J24 = up2 J23 o 1 v4 → ir (v4 + 1) ∧ ∀ y26, y26 = v4 + 1 → k91' J24 y26)
theorem vw_X7_plan_153 {o : Nat} {a1 : Nat} {a1h : Nat} {a2 : Nat}   {post : mI → Prop} {post' : mJ → Prop} {k91' : mJ → Int → Prop} {k91 : mI → Int32 → Prop} (hp : ∀ (J1 : mJ), irm J1 → post' J1 → post (zz J1)) (hk91 : ∀ (J : mJ) (xv4 : Int32) (v4 : Int), irm J → xv4 = zi v4 → ir v4 → k91' J v4 → k91 (zz J) xv4) {J : mJ} {xv4 : Int32} {v4 : Int} (hJ : irm J) (ev4 : xv4 = zi v4) (iv4 : ir v4) (hv : v_X7_plan_153 o a1 a1h a2 post' k91' J v4) : w_X7_plan_153 o a1 a1h a2 post k91 (zz J) xv4 := by
  subst ev4
  unfold v_X7_plan_153 at hv
  unfold w_X7_plan_153
  obtain ⟨g15, hv⟩ := hv
  obtain ⟨g16, hv⟩ := hv
  obtain ⟨g17, hv⟩ := hv
  refine ⟨zvp (za (zm (rfl : zi v4 = zi v4) (by decide : (24 : Int32) = zi 24)) zrf) g16 g17.1 g17.2, ?_⟩
  refine ⟨fun cq => ?_, fun cq => ?_⟩
  · have hv := hv.1 ((zle zrf (zrd (za (zm (rfl : zi v4 = zi v4) (by decide : (24 : Int32) = zi 24)) zrf) g16 g17.1) (hJ _ _) (hJ _ _)).mp cq)
    obtain ⟨g18, hv⟩ := hv
    intro xy19 exy19
    obtain ⟨y19, eyy19⟩ : ∃ q9 : Int, q9 = v4 + 1 := ⟨_, rfl⟩
    have hv := hv y19 eyy19
    have Ey19 : xy19 = zi y19 := exy19.trans (((za (rfl : zi v4 = zi v4) (by decide : (1 : Int32) = zi 1))).trans (congrArg zi eyy19.symm))
    have Iy19 : ir y19 := by rw [eyy19]; exact g18
    clear exy19
    exact hk91 _ _ _ hJ Ey19 Iy19 hv
  · have hv := hv.2 (fun q => cq ((zle zrf (zrd (za (zm (rfl : zi v4 = zi v4) (by decide : (24 : Int32) = zi 24)) zrf) g16 g17.1) (hJ _ _) (hJ _ _)).mpr q))
    obtain ⟨g20, hv⟩ := hv
    obtain ⟨g21, hv⟩ := hv
    obtain ⟨g22, hv⟩ := hv
    refine ⟨zvp (za (zm (rfl : zi v4 = zi v4) (by decide : (24 : Int32) = zi 24)) zrf) g21 g22.1 g22.2, ?_⟩
    intro I1 eI1
    obtain ⟨J23, eJ23⟩ : ∃ q9 : mJ, q9 = up2 J o 0 (J (o + 3) ((v4 * 24) + (J o 6)).toNat) := ⟨_, rfl⟩
    have eI1 : I1 = zz J23 := by rw [eI1, eJ23]; exact zup (zrd (za (zm (rfl : zi v4 = zi v4) (by decide : (24 : Int32) = zi 24)) zrf) g21 g22.1)
    subst eI1
    have hv := hv J23 eJ23
    have hJ : irm J23 := by rw [eJ23]; exact irm_up hJ (hJ _ _)
    intro I1 eI1
    obtain ⟨J24, eJ24⟩ : ∃ q9 : mJ, q9 = up2 J23 o 1 v4 := ⟨_, rfl⟩
    have eI1 : I1 = zz J24 := by rw [eI1, eJ24]; exact zup (rfl : zi v4 = zi v4)
    subst eI1
    have hv := hv J24 eJ24
    have hJ : irm J24 := by rw [eJ24]; exact irm_up hJ iv4
    obtain ⟨g25, hv⟩ := hv
    intro xy26 exy26
    obtain ⟨y26, eyy26⟩ : ∃ q9 : Int, q9 = v4 + 1 := ⟨_, rfl⟩
    have hv := hv y26 eyy26
    have Ey26 : xy26 = zi y26 := exy26.trans (((za (rfl : zi v4 = zi v4) (by decide : (1 : Int32) = zi 1))).trans (congrArg zi eyy26.symm))
    have Iy26 : ir y26 := by rw [eyy26]; exact g25
    clear exy26
    exact hk91 _ _ _ hJ Ey26 Iy26 hv
def v_X7_plan_91 (o : Nat) (a1 : Nat) (a1h : Nat) (a2 : Nat) (post' : mJ → Prop) (k206' : mJ → Prop) (J : mJ) (v4 : Int) : Prop := ∀ ZZ : (mJ → Int → Prop), (∀ (J : mJ) (v4 : Int), ((60 < v4 → k206' J) ∧ (¬ 60 < v4 → ((J o 0) ≤ 0 → k206' J) ∧ (¬ (J o 0) ≤ 0 → v_X7_setPrices J o a1 a1h a2 v4 (fun J7 => (v_X7_plan_116 o a1 a1h a2 post' (v_X7_plan_153 o a1 a1h a2 post' ZZ)) J7 v4 0)))) → ZZ J v4) → ZZ J v4
theorem vw_X7_plan_91 {o : Nat} {a1 : Nat} {a1h : Nat} {a2 : Nat}   {post : mI → Prop} {post' : mJ → Prop} {k206' : mJ → Prop} {k206 : mI → Prop} (hp : ∀ (J1 : mJ), irm J1 → post' J1 → post (zz J1)) (hk206 : ∀ (J : mJ), irm J → k206' J → k206 (zz J)) {J : mJ} {xv4 : Int32} {v4 : Int} (hJ : irm J) (ev4 : xv4 = zi v4) (iv4 : ir v4) (hv : v_X7_plan_91 o a1 a1h a2 post' k206' J v4) : w_X7_plan_91 o a1 a1h a2 post k206 (zz J) xv4 := by
  subst ev4
  unfold v_X7_plan_91 at hv
  unfold w_X7_plan_91
  intro ZZ hZ
  refine hv (fun J v4 => ∀ (xv4 : Int32), irm J → xv4 = zi v4 → ir v4 → ZZ (zz J) xv4) ?_ _ hJ rfl iv4
  clear hv hJ iv4
  intro J v4 hv xv4 hJ ev4 iv4
  subst ev4
  refine hZ _ _ ?_
  refine ⟨fun cq => ?_, fun cq => ?_⟩
  · have hv := hv.1 ((zlt (by decide : (60 : Int32) = zi 60) (rfl : zi v4 = zi v4) (by decide : ir 60) iv4).mp cq)
    exact hk206 _ hJ hv
  · have hv := hv.2 (fun q => cq ((zlt (by decide : (60 : Int32) = zi 60) (rfl : zi v4 = zi v4) (by decide : ir 60) iv4).mpr q))
    refine ⟨fun cq => ?_, fun cq => ?_⟩
    · have hv := hv.1 ((zle zrf (by decide : (0 : Int32) = zi 0) (hJ _ _) (by decide : ir 0)).mp cq)
      exact hk206 _ hJ hv
    · have hv := hv.2 (fun q => cq ((zle zrf (by decide : (0 : Int32) = zi 0) (hJ _ _) (by decide : ir 0)).mpr q))
      refine vw_X7_setPrices hJ (rfl : zi v4 = zi v4) iv4 (fun J7 hJ hv => ?_) hv
      refine vw_X7_plan_116  hp ?_ hJ (rfl : zi v4 = zi v4) iv4 (by decide : (0 : Int32) = zi 0) (by decide : ir 0) hv
      · intro qq xx vv hJ ev4 iv4 hv
        refine vw_X7_plan_153  hp ?_ hJ ev4 iv4 hv
        · intro qq xx vv hJ ev4 iv4 hv
          exact hv _ hJ ev4 iv4
def v_X7_plan_206 (o : Nat) (a1 : Nat) (a1h : Nat) (a2 : Nat) (post' : mJ → Prop) (J : mJ) : Prop := ((J o 1) = (-1) → post' J) ∧ (¬ (J o 1) = (-1) → v_X7_markUseful J o a1h (fun J27 => v_X7_layRow J27 o a1h (fun J28 => post' J28)))
theorem vw_X7_plan_206 {o : Nat} {a1 : Nat} {a1h : Nat} {a2 : Nat}   {post : mI → Prop} {post' : mJ → Prop} (hp : ∀ (J1 : mJ), irm J1 → post' J1 → post (zz J1)) {J : mJ} (hJ : irm J) (hv : v_X7_plan_206 o a1 a1h a2 post' J) : w_X7_plan_206 o a1 a1h a2 post (zz J) := by
  unfold v_X7_plan_206 at hv
  unfold w_X7_plan_206
  refine ⟨fun cq => ?_, fun cq => ?_⟩
  · have hv := hv.1 ((zeq zrf (by decide : ((-1) : Int32) = zi (-1)) (hJ _ _) (by decide : ir (-1))).mp cq)
    exact hp _ hJ hv
  · have hv := hv.2 (fun q => cq ((zeq zrf (by decide : ((-1) : Int32) = zi (-1)) (hJ _ _) (by decide : ir (-1))).mpr q))
    refine vw_X7_markUseful hJ  (fun J27 hJ hv => ?_) hv
    refine vw_X7_layRow hJ  (fun J28 hJ hv => ?_) hv
    exact hp _ hJ hv
def v_X7_plan_44 (o : Nat) (a1 : Nat) (a1h : Nat) (a2 : Nat) (post' : mJ → Prop) (J : mJ) (s1 : Int) : Prop := ∀ J2, J2 = up2 J o 1 s1 → (v_X7_plan_50 o a1 a1h a2 post' (v_X7_plan_91 o a1 a1h a2 post' (v_X7_plan_206 o a1 a1h a2 post'))) J2 0
theorem vw_X7_plan_44 {o : Nat} {a1 : Nat} {a1h : Nat} {a2 : Nat}   {post : mI → Prop} {post' : mJ → Prop} (hp : ∀ (J1 : mJ), irm J1 → post' J1 → post (zz J1)) {J : mJ} {xs1 : Int32} {s1 : Int} (hJ : irm J) (es1 : xs1 = zi s1) (is1 : ir s1) (hv : v_X7_plan_44 o a1 a1h a2 post' J s1) : w_X7_plan_44 o a1 a1h a2 post (zz J) xs1 := by
  subst es1
  unfold v_X7_plan_44 at hv
  unfold w_X7_plan_44
  intro I1 eI1
  obtain ⟨J2, eJ2⟩ : ∃ q9 : mJ, q9 = up2 J o 1 s1 := ⟨_, rfl⟩
  have eI1 : I1 = zz J2 := by rw [eI1, eJ2]; exact zup (rfl : zi s1 = zi s1)
  subst eI1
  have hv := hv J2 eJ2
  have hJ : irm J2 := by rw [eJ2]; exact irm_up hJ is1
  refine vw_X7_plan_50  hp ?_ hJ (by decide : (0 : Int32) = zi 0) (by decide : ir 0) hv
  · intro qq xx vv hJ ev4 iv4 hv
    refine vw_X7_plan_91  hp ?_ hJ ev4 iv4 hv
    · intro qq hJ hv
      exact vw_X7_plan_206  hp hJ hv
def v_X7_plan_24 (o : Nat) (a1 : Nat) (a1h : Nat) (a2 : Nat) (post' : mJ → Prop) (J : mJ) (s1 : Int) : Prop := ∀ J1, J1 = up2 J o 0 s1 → (¬ (J1 o 5) = (J1 o 6) → (v_X7_plan_44 o a1 a1h a2 post') J1 (-1)) ∧ ((J1 o 5) = (J1 o 6) → (v_X7_plan_44 o a1 a1h a2 post') J1 0)
theorem vw_X7_plan_24 {o : Nat} {a1 : Nat} {a1h : Nat} {a2 : Nat}   {post : mI → Prop} {post' : mJ → Prop} (hp : ∀ (J1 : mJ), irm J1 → post' J1 → post (zz J1)) {J : mJ} {xs1 : Int32} {s1 : Int} (hJ : irm J) (es1 : xs1 = zi s1) (is1 : ir s1) (hv : v_X7_plan_24 o a1 a1h a2 post' J s1) : w_X7_plan_24 o a1 a1h a2 post (zz J) xs1 := by
  subst es1
  unfold v_X7_plan_24 at hv
  unfold w_X7_plan_24
  intro I1 eI1
  obtain ⟨J1, eJ1⟩ : ∃ q9 : mJ, q9 = up2 J o 0 s1 := ⟨_, rfl⟩
  have eI1 : I1 = zz J1 := by rw [eI1, eJ1]; exact zup (rfl : zi s1 = zi s1)
  subst eI1
  have hv := hv J1 eJ1
  have hJ : irm J1 := by rw [eJ1]; exact irm_up hJ is1
  refine ⟨fun cq => ?_, fun cq => ?_⟩
  · have hv := hv.1 (fun q => cq ((zeq zrf zrf (hJ _ _) (hJ _ _)).mpr q))
    exact vw_X7_plan_44  hp hJ (by decide : ((-1) : Int32) = zi (-1)) (by decide : ir (-1)) hv
  · have hv := hv.2 ((zeq zrf zrf (hJ _ _) (hJ _ _)).mp cq)
    exact vw_X7_plan_44  hp hJ (by decide : (0 : Int32) = zi 0) (by decide : ir 0) hv
def v_X7_plan (J : mJ) (o : Nat) (a1 : Nat) (a1h : Nat) (a2 : Nat) (post' : mJ → Prop) : Prop := (¬ (J o 5) = (J o 6) → (v_X7_plan_24 o a1 a1h a2 post') J 1000) ∧ ((J o 5) = (J o 6) → (v_X7_plan_24 o a1 a1h a2 post') J 0)
theorem vw_X7_plan {J : mJ} {o : Nat} {a1 : Nat} {a1h : Nat} {a2 : Nat} (hJ : irm J)      {post : mI → Prop} {post' : mJ → Prop} (hp : ∀ (J1 : mJ), irm J1 → post' J1 → post (zz J1)) (hv : v_X7_plan J o a1 a1h a2 post') : w_X7_plan (zz J) o a1 a1h a2 post := by
  unfold v_X7_plan at hv
  unfold w_X7_plan
  refine ⟨fun cq => ?_, fun cq => ?_⟩
  · have hv := hv.1 (fun q => cq ((zeq zrf zrf (hJ _ _) (hJ _ _)).mpr q))
    exact vw_X7_plan_24  hp hJ (by decide : (1000 : Int32) = zi 1000) (by decide : ir 1000) hv
  · have hv := hv.2 ((zeq zrf zrf (hJ _ _) (hJ _ _)).mp cq)
    exact vw_X7_plan_24  hp hJ (by decide : (0 : Int32) = zi 0) (by decide : ir 0) hv
def v_X8_append_3 (o : Nat) (a1 : Int) (post' : mJ → Prop) (J : mJ) (v2 : Int) : Prop := ∀ ZZ : (mJ → Int → Prop), (∀ (J : mJ) (v2 : Int), ((v2 < 0 → post' J) ∧ (¬ v2 < 0 → (600 ≤ (J o 1) → post' J) ∧ (¬ 600 ≤ (J o 1) → (0 ≤ (J o 1) ∧ (J o 1) < 600) ∧ ∀ J2, J2 = up2 J (o + 1) ((J o 1).toNat) (b8Z (b8Z (shrZ a1 v2))) → ir ((J2 o 1) + 1) ∧ ∀ J4, J4 = up2 J2 o 1 ((J2 o 1) + 1) → ir (v2 + (-8)) ∧ ∀ y6, y6 = v2 + (-8) → ZZ J4 y6))) → ZZ J v2) → ZZ J v2
theorem vw_X8_append_3 {o : Nat} {a1 : Int}  (ia1 : ir a1) {post : mI → Prop} {post' : mJ → Prop} (hp : ∀ (J1 : mJ), irm J1 → post' J1 → post (zz J1)) {J : mJ} {xv2 : Int32} {v2 : Int} (hJ : irm J) (ev2 : xv2 = zi v2) (iv2 : ir v2) (hv : v_X8_append_3 o a1 post' J v2) : w_X8_append_3 o (zi a1) post (zz J) xv2 := by
  subst ev2
  unfold v_X8_append_3 at hv
  unfold w_X8_append_3
  intro ZZ hZ
  refine hv (fun J v2 => ∀ (xv2 : Int32), irm J → xv2 = zi v2 → ir v2 → ZZ (zz J) xv2) ?_ _ hJ rfl iv2
  clear hv hJ iv2
  intro J v2 hv xv2 hJ ev2 iv2
  subst ev2
  refine hZ _ _ ?_
  refine ⟨fun cq => ?_, fun cq => ?_⟩
  · have hv := hv.1 ((zlt (rfl : zi v2 = zi v2) (by decide : (0 : Int32) = zi 0) iv2 (by decide : ir 0)).mp cq)
    exact hp _ hJ hv
  · have hv := hv.2 (fun q => cq ((zlt (rfl : zi v2 = zi v2) (by decide : (0 : Int32) = zi 0) iv2 (by decide : ir 0)).mpr q))
    refine ⟨fun cq => ?_, fun cq => ?_⟩
    · have hv := hv.1 ((zle (by decide : (600 : Int32) = zi 600) zrf (by decide : ir 600) (hJ _ _)).mp cq)
      exact hp _ hJ hv
    · have hv := hv.2 (fun q => cq ((zle (by decide : (600 : Int32) = zi 600) zrf (by decide : ir 600) (hJ _ _)).mpr q))
      obtain ⟨g1, hv⟩ := hv
      refine ⟨zvp zrf (hJ _ _) g1.1 g1.2, ?_⟩
      intro I1 eI1
      obtain ⟨J2, eJ2⟩ : ∃ q9 : mJ, q9 = up2 J (o + 1) ((J o 1).toNat) (b8Z (b8Z (shrZ a1 v2))) := ⟨_, rfl⟩
      have eI1 : I1 = zz J2 := by rw [eI1, eJ2]; exact zupa zrf (hJ _ _) g1.1 (z_b8 (z_b8 (z_shr (rfl : zi a1 = zi a1) (rfl : zi v2 = zi v2))))
      subst eI1
      have hv := hv J2 eJ2
      have hJ : irm J2 := by rw [eJ2]; exact irm_up hJ (ir_toInt _)
      obtain ⟨g3, hv⟩ := hv
      intro I1 eI1
      obtain ⟨J4, eJ4⟩ : ∃ q9 : mJ, q9 = up2 J2 o 1 ((J2 o 1) + 1) := ⟨_, rfl⟩
      have eI1 : I1 = zz J4 := by rw [eI1, eJ4]; exact zup (za zrf (by decide : (1 : Int32) = zi 1))
      subst eI1
      have hv := hv J4 eJ4
      have hJ : irm J4 := by rw [eJ4]; exact irm_up hJ g3
      obtain ⟨g5, hv⟩ := hv
      intro xy6 exy6
      obtain ⟨y6, eyy6⟩ : ∃ q9 : Int, q9 = v2 + (-8) := ⟨_, rfl⟩
      have hv := hv y6 eyy6
      have Ey6 : xy6 = zi y6 := exy6.trans (((za (rfl : zi v2 = zi v2) (by decide : ((-8) : Int32) = zi (-8)))).trans (congrArg zi eyy6.symm))
      have Iy6 : ir y6 := by rw [eyy6]; exact g5
      clear exy6
      exact hv _ hJ Ey6 Iy6
def v_X8_append (J : mJ) (o : Nat) (a1 : Int) (post' : mJ → Prop) : Prop := (v_X8_append_3 o a1 post') J 24
theorem vw_X8_append {J : mJ} {o : Nat} {xa1 : Int32} {a1 : Int} (hJ : irm J)   (ea1 : xa1 = zi a1) (ia1 : ir a1) {post : mI → Prop} {post' : mJ → Prop} (hp : ∀ (J1 : mJ), irm J1 → post' J1 → post (zz J1)) (hv : v_X8_append J o a1 post') : w_X8_append (zz J) o xa1 post := by
  subst ea1
  unfold v_X8_append at hv
  unfold w_X8_append
  exact vw_X8_append_3 ia1 hp hJ (by decide : (24 : Int32) = zi 24) (by decide : ir 24) hv
