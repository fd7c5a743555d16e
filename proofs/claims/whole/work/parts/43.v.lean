def v_X2_echoShoe (J : mJ) (o : Nat) (oh : Nat) (a1 : Int) (a2 : Int) (post' : Int → Prop) : Prop := (0 ≤ a1 ∧ a1 < 600) ∧ v_X11_has (J (o + 8) a1.toNat) a2 (fun b2 => (b2 = false → post' (-1)) ∧ (b2 = true → (0 ≤ a1 ∧ a1 < 600) ∧ ((J (o + 6) a1.toNat) = (-1) → post' (-1)) ∧ (¬ (J (o + 6) a1.toNat) = (-1) → (0 ≤ a1 ∧ a1 < 600) ∧ (0 ≤ (J (o + 6) a1.toNat) ∧ (J (o + 6) a1.toNat) < 600) ∧ post' (J (o + 4) (J (o + 6) a1.toNat).toNat))))
theorem vw_X2_echoShoe {J : mJ} {o : Nat} {oh : Nat} {xa1 : Int32} {a1 : Int} {xa2 : Int32} {a2 : Int} (hJ : irm J)    (ea1 : xa1 = zi a1) (ia1 : ir a1) (ea2 : xa2 = zi a2) (ia2 : ir a2) {post : Int32 → Prop} {post' : Int → Prop} (hp : ∀ (x : Int32) (r : Int), x = zi r → ir r → post' r → post x) (hv : v_X2_echoShoe J o oh a1 a2 post') : w_X2_echoShoe (zz J) o oh xa1 xa2 post := by
  subst ea1
  subst ea2
  unfold v_X2_echoShoe at hv
  unfold w_X2_echoShoe
  obtain ⟨g1, hv⟩ := hv
  refine ⟨zvp (rfl : zi a1 = zi a1) ia1 g1.1 g1.2, ?_⟩
  refine vw_X11_has (zrd (rfl : zi a1 = zi a1) ia1 g1.1) (hJ _ _) (rfl : zi a2 = zi a2) ia2 (fun b2  hv => ?_) hv
  refine ⟨fun cq => ?_, fun cq => ?_⟩
  · have hv := hv.1 cq
    exact hp _ _ (by decide : ((-1) : Int32) = zi (-1)) (by decide : ir (-1)) hv
  · have hv := hv.2 cq
    obtain ⟨g3, hv⟩ := hv
    refine ⟨zvp (rfl : zi a1 = zi a1) ia1 g3.1 g3.2, ?_⟩
    refine ⟨fun cq => ?_, fun cq => ?_⟩
    · have hv := hv.1 ((zeq (zrd (rfl : zi a1 = zi a1) ia1 g3.1) (by decide : ((-1) : Int32) = zi (-1)) (hJ _ _) (by decide : ir (-1))).mp cq)
      exact hp _ _ (by decide : ((-1) : Int32) = zi (-1)) (by decide : ir (-1)) hv
    · have hv := hv.2 (fun q => cq ((zeq (zrd (rfl : zi a1 = zi a1) ia1 g3.1) (by decide : ((-1) : Int32) = zi (-1)) (hJ _ _) (by decide : ir (-1))).mpr q))
      obtain ⟨g4, hv⟩ := hv
      refine ⟨zvp (rfl : zi a1 = zi a1) ia1 g4.1 g4.2, ?_⟩
      obtain ⟨g5, hv⟩ := hv
      refine ⟨zvp (zrd (rfl : zi a1 = zi a1) ia1 g4.1) (hJ _ _) g5.1 g5.2, ?_⟩
      exact hp _ _ (zrd (zrd (rfl : zi a1 = zi a1) ia1 g4.1) (hJ _ _) g5.1) (hJ _ _) hv
def v_X2_unheardPeople_14 (J : mJ) (o : Nat) (oh : Nat) (post' : Int → Prop) (v1 : Int) (v2 : Int) : Prop := ∀ ZZ : (Int → Int → Prop), (∀ (v1 : Int) (v2 : Int), (((J o 2) ≤ v2 → post' v1) ∧ (¬ (J o 2) ≤ v2 → (0 ≤ v2 ∧ v2 < 600) ∧ ((J (o + 7) v2.toNat) = 0 → ir (v2 + 1) ∧ ∀ y5, y5 = v2 + 1 → ZZ v1 y5) ∧ (¬ (J (o + 7) v2.toNat) = 0 → (0 ≤ v2 ∧ v2 < 600) ∧ ∀ y7, y7 = (andZ v1 (xorZ (shlZ 1 (J (o + 1) v2.toNat)) (-1))) → ir (v2 + 1) ∧ ∀ y9, y9 = v2 + 1 → ZZ y7 y9))) → ZZ v1 v2) → ZZ v1 v2
theorem vw_X2_unheardPeople_14 {J : mJ} {o : Nat} {oh : Nat} (hJ : irm J)  {post : Int32 → Prop} {post' : Int → Prop} (hp : ∀ (x : Int32) (r : Int), x = zi r → ir r → post' r → post x) {xv1 : Int32} {v1 : Int} {xv2 : Int32} {v2 : Int} (ev1 : xv1 = zi v1) (iv1 : ir v1) (ev2 : xv2 = zi v2) (iv2 : ir v2) (hv : v_X2_unheardPeople_14 J o oh post' v1 v2) : w_X2_unheardPeople_14 (zz J) o oh post xv1 xv2 := by
  subst ev1
  subst ev2
  unfold v_X2_unheardPeople_14 at hv
  unfold w_X2_unheardPeople_14
  intro ZZ hZ
  refine hv (fun v1 v2 => ∀ (xv1 : Int32) (xv2 : Int32), xv1 = zi v1 → ir v1 → xv2 = zi v2 → ir v2 → ZZ xv1 xv2) ?_ _ _ rfl iv1 rfl iv2
  clear hv iv1 iv2
  intro v1 v2 hv xv1 xv2 ev1 iv1 ev2 iv2
  subst ev1
  subst ev2
  refine hZ _ _ ?_
  refine ⟨fun cq => ?_, fun cq => ?_⟩
  · have hv := hv.1 ((zle zrf (rfl : zi v2 = zi v2) (hJ _ _) iv2).mp cq)
    exact hp _ _ (rfl : zi v1 = zi v1) iv1 hv
  · have hv := hv.2 (fun q => cq ((zle zrf (rfl : zi v2 = zi v2) (hJ _ _) iv2).mpr q))
    obtain ⟨g3, hv⟩ := hv
    refine ⟨zvp (rfl : zi v2 = zi v2) iv2 g3.1 g3.2, ?_⟩
    refine ⟨fun cq => ?_, fun cq => ?_⟩
    · have hv := hv.1 ((zeq (zrd (rfl : zi v2 = zi v2) iv2 g3.1) (by decide : (0 : Int32) = zi 0) (hJ _ _) (by decide : ir 0)).mp cq)
      obtain ⟨g4, hv⟩ := hv
      intro xy5 exy5
      obtain ⟨y5, eyy5⟩ : ∃ q9 : Int, q9 = v2 + 1 := ⟨_, rfl⟩
      have hv := hv y5 eyy5
      have Ey5 : xy5 = zi y5 := exy5.trans (((za (rfl : zi v2 = zi v2) (by decide : (1 : Int32) = zi 1))).trans (congrArg zi eyy5.symm))
      have Iy5 : ir y5 := by rw [eyy5]; exact g4
      clear exy5
      exact hv _ _ (rfl : zi v1 = zi v1) iv1 Ey5 Iy5
    · have hv := hv.2 (fun q => cq ((zeq (zrd (rfl : zi v2 = zi v2) iv2 g3.1) (by decide : (0 : Int32) = zi 0) (hJ _ _) (by decide : ir 0)).mpr q))
      obtain ⟨g6, hv⟩ := hv
      refine ⟨zvp (rfl : zi v2 = zi v2) iv2 g6.1 g6.2, ?_⟩
      intro xy7 exy7
      obtain ⟨y7, eyy7⟩ : ∃ q9 : Int, q9 = (andZ v1 (xorZ (shlZ 1 (J (o + 1) v2.toNat)) (-1))) := ⟨_, rfl⟩
      have hv := hv y7 eyy7
      have Ey7 : xy7 = zi y7 := exy7.trans (((z_and (rfl : zi v1 = zi v1) (z_xor (z_shl (by decide : (1 : Int32) = zi 1) (zrd (rfl : zi v2 = zi v2) iv2 g6.1)) (by decide : ((-1) : Int32) = zi (-1))))).trans (congrArg zi eyy7.symm))
      have Iy7 : ir y7 := by rw [eyy7]; exact (ir_toInt _)
      clear exy7
      obtain ⟨g8, hv⟩ := hv
      intro xy9 exy9
      obtain ⟨y9, eyy9⟩ : ∃ q9 : Int, q9 = v2 + 1 := ⟨_, rfl⟩
      have hv := hv y9 eyy9
      have Ey9 : xy9 = zi y9 := exy9.trans (((za (rfl : zi v2 = zi v2) (by decide : (1 : Int32) = zi 1))).trans (congrArg zi eyy9.symm))
      have Iy9 : ir y9 := by rw [eyy9]; exact g8
      clear exy9
      exact hv _ _ Ey7 Iy7 Ey9 Iy9
def v_X2_unheardPeople (J : mJ) (o : Nat) (oh : Nat) (post' : Int → Prop) : Prop := ir ((shlZ 1 (J oh 3)) - 1) ∧ ∀ y2, y2 = ((shlZ 1 (J oh 3)) - 1) → (v_X2_unheardPeople_14 J o oh post') y2 0
theorem vw_X2_unheardPeople {J : mJ} {o : Nat} {oh : Nat} (hJ : irm J)    {post : Int32 → Prop} {post' : Int → Prop} (hp : ∀ (x : Int32) (r : Int), x = zi r → ir r → post' r → post x) (hv : v_X2_unheardPeople J o oh post') : w_X2_unheardPeople (zz J) o oh post := by
  unfold v_X2_unheardPeople at hv
  unfold w_X2_unheardPeople
  obtain ⟨g1, hv⟩ := hv
  intro xy2 exy2
  obtain ⟨y2, eyy2⟩ : ∃ q9 : Int, q9 = ((shlZ 1 (J oh 3)) - 1) := ⟨_, rfl⟩
  have hv := hv y2 eyy2
  have Ey2 : xy2 = zi y2 := exy2.trans (((zs (z_shl (by decide : (1 : Int32) = zi 1) zrf) (by decide : (1 : Int32) = zi 1))).trans (congrArg zi eyy2.symm))
  have Iy2 : ir y2 := by rw [eyy2]; exact g1
  clear exy2
  exact vw_X2_unheardPeople_14 hJ  hp Ey2 Iy2 (by decide : (0 : Int32) = zi 0) (by decide : ir 0) hv
def v_X2_longestRing_4 (J : mJ) (o : Nat) (oh : Nat) (post' : Int → Prop) (v1 : Int) (v2 : Int) : Prop := ∀ ZZ : (Int → Int → Prop), (∀ (v1 : Int) (v2 : Int), (((J o 2) ≤ v2 → post' v1) ∧ (¬ (J o 2) ≤ v2 → (0 ≤ v2 ∧ v2 < 600) ∧ ∀ y2, y2 = (maxZ v1 (J (o + 9) v2.toNat)) → ir (v2 + 1) ∧ ∀ y4, y4 = v2 + 1 → ZZ y2 y4)) → ZZ v1 v2) → ZZ v1 v2
theorem vw_X2_longestRing_4 {J : mJ} {o : Nat} {oh : Nat} (hJ : irm J)  {post : Int32 → Prop} {post' : Int → Prop} (hp : ∀ (x : Int32) (r : Int), x = zi r → ir r → post' r → post x) {xv1 : Int32} {v1 : Int} {xv2 : Int32} {v2 : Int} (ev1 : xv1 = zi v1) (iv1 : ir v1) (ev2 : xv2 = zi v2) (iv2 : ir v2) (hv : v_X2_longestRing_4 J o oh post' v1 v2) : w_X2_longestRing_4 (zz J) o oh post xv1 xv2 := by
  subst ev1
  subst ev2
  unfold v_X2_longestRing_4 at hv
  unfold w_X2_longestRing_4
  intro ZZ hZ
  refine hv (fun v1 v2 => ∀ (xv1 : Int32) (xv2 : Int32), xv1 = zi v1 → ir v1 → xv2 = zi v2 → ir v2 → ZZ xv1 xv2) ?_ _ _ rfl iv1 rfl iv2
  clear hv iv1 iv2
  intro v1 v2 hv xv1 xv2 ev1 iv1 ev2 iv2
  subst ev1
  subst ev2
  refine hZ _ _ ?_
  refine ⟨fun cq => ?_, fun cq => ?_⟩
  · have hv := hv.1 ((zle zrf (rfl : zi v2 = zi v2) (hJ _ _) iv2).mp cq)
    exact hp _ _ (rfl : zi v1 = zi v1) iv1 hv
  · have hv := hv.2 (fun q => cq ((zle zrf (rfl : zi v2 = zi v2) (hJ _ _) iv2).mpr q))
    obtain ⟨g1, hv⟩ := hv
    refine ⟨zvp (rfl : zi v2 = zi v2) iv2 g1.1 g1.2, ?_⟩
    intro xy2 exy2
    obtain ⟨y2, eyy2⟩ : ∃ q9 : Int, q9 = (maxZ v1 (J (o + 9) v2.toNat)) := ⟨_, rfl⟩
    have hv := hv y2 eyy2
    have Ey2 : xy2 = zi y2 := exy2.trans (((z_max (rfl : zi v1 = zi v1) (zrd (rfl : zi v2 = zi v2) iv2 g1.1) iv1 (hJ _ _))).trans (congrArg zi eyy2.symm))
    have Iy2 : ir y2 := by rw [eyy2]; exact (ir_max iv1 (hJ _ _))
    clear exy2
    obtain ⟨g3, hv⟩ := hv
    intro xy4 exy4
    obtain ⟨y4, eyy4⟩ : ∃ q9 : Int, q9 = v2 + 1 := ⟨_, rfl⟩
    have hv := hv y4 eyy4
    have Ey4 : xy4 = zi y4 := exy4.trans (((za (rfl : zi v2 = zi v2) (by decide : (1 : Int32) = zi 1))).trans (congrArg zi eyy4.symm))
    have Iy4 : ir y4 := by rw [eyy4]; exact g3
    clear exy4
    exact hv _ _ Ey2 Iy2 Ey4 Iy4
def v_X2_longestRing (J : mJ) (o : Nat) (oh : Nat) (post' : Int → Prop) : Prop := (v_X2_longestRing_4 J o oh post') 0 0
theorem vw_X2_longestRing {J : mJ} {o : Nat} {oh : Nat} (hJ : irm J)    {post : Int32 → Prop} {post' : Int → Prop} (hp : ∀ (x : Int32) (r : Int), x = zi r → ir r → post' r → post x) (hv : v_X2_longestRing J o oh post') : w_X2_longestRing (zz J) o oh post := by
  unfold v_X2_longestRing at hv
  unfold w_X2_longestRing
  exact vw_X2_longestRing_4 hJ  hp (by decide : (0 : Int32) = zi 0) (by decide : ir 0) (by decide : (0 : Int32) = zi 0) (by decide : ir 0) hv
def v_X2_firstMeeting_2 (J : mJ) (o : Nat) (oh : Nat) (a1 : Int) (a2 : Int) (post' : Int → Prop) (v3 : Int) : Prop := ∀ ZZ : (Int → Prop), (∀ (v3 : Int), ((100 ≤ v3 → post' (-1)) ∧ (¬ 100 ≤ v3 → v_X2_spotAt J o oh a1 v3 (fun r1 => (r1 = (-1) → ir (v3 + 1) ∧ ∀ y3, y3 = v3 + 1 → ZZ y3) ∧ (¬ r1 = (-1) → v_X2_spotAt J o oh a1 v3 (fun r4 => v_X2_spotAt J o oh a2 v3 (fun r5 => (¬ r4 = r5 → ir (v3 + 1) ∧ ∀ y7, y7 = v3 + 1 → ZZ y7) ∧ (r4 = r5 → post' v3))))))) → ZZ v3) → ZZ v3
theorem vw_X2_firstMeeting_2 {J : mJ} {o : Nat} {oh : Nat} {a1 : Int} {a2 : Int} (hJ : irm J) (ia1 : ir a1) (ia2 : ir a2) {post : Int32 → Prop} {post' : Int → Prop} (hp : ∀ (x : Int32) (r : Int), x = zi r → ir r → post' r → post x) {xv3 : Int32} {v3 : Int} (ev3 : xv3 = zi v3) (iv3 : ir v3) (hv : v_X2_firstMeeting_2 J o oh a1 a2 post' v3) : w_X2_firstMeeting_2 (zz J) o oh (zi a1) (zi a2) post xv3 := by
  subst ev3
  unfold v_X2_firstMeeting_2 at hv
  unfold w_X2_firstMeeting_2
  intro ZZ hZ
  refine hv (fun v3 => ∀ (xv3 : Int32), xv3 = zi v3 → ir v3 → ZZ xv3) ?_ _ rfl iv3
  clear hv iv3
  intro v3 hv xv3 ev3 iv3
  subst ev3
  refine hZ _ ?_
  refine ⟨fun cq => ?_, fun cq => ?_⟩
  · have hv := hv.1 ((zle (by decide : (100 : Int32) = zi 100) (rfl : zi v3 = zi v3) (by decide : ir 100) iv3).mp cq)
    exact hp _ _ (by decide : ((-1) : Int32) = zi (-1)) (by decide : ir (-1)) hv
  · have hv := hv.2 (fun q => cq ((zle (by decide : (100 : Int32) = zi 100) (rfl : zi v3 = zi v3) (by decide : ir 100) iv3).mpr q))
    refine vw_X2_spotAt hJ (rfl : zi a1 = zi a1) ia1 (rfl : zi v3 = zi v3) iv3 (fun xr1 r1 Er1 Ir1 hv => ?_) hv
    refine ⟨fun cq => ?_, fun cq => ?_⟩
    · have hv := hv.1 ((zeq Er1 (by decide : ((-1) : Int32) = zi (-1)) Ir1 (by decide : ir (-1))).mp cq)
      obtain ⟨g2, hv⟩ := hv
      intro xy3 exy3
      obtain ⟨y3, eyy3⟩ : ∃ q9 : Int, q9 = v3 + 1 := ⟨_, rfl⟩
      have hv := hv y3 eyy3
      have Ey3 : xy3 = zi y3 := exy3.trans (((za (rfl : zi v3 = zi v3) (by decide : (1 : Int32) = zi 1))).trans (congrArg zi eyy3.symm))
      have Iy3 : ir y3 := by rw [eyy3]; exact g2
      clear exy3
      exact hv _ Ey3 Iy3
    · have hv := hv.2 (fun q => cq ((zeq Er1 (by decide : ((-1) : Int32) = zi (-1)) Ir1 (by decide : ir (-1))).mpr q))
      refine vw_X2_spotAt hJ (rfl : zi a1 = zi a1) ia1 (rfl : zi v3 = zi v3) iv3 (fun xr4 r4 Er4 Ir4 hv => ?_) hv
      refine vw_X2_spotAt hJ (rfl : zi a2 = zi a2) ia2 (rfl : zi v3 = zi v3) iv3 (fun xr5 r5 Er5 Ir5 hv => ?_) hv
      refine ⟨fun cq => ?_, fun cq => ?_⟩
      · have hv := hv.1 (fun q => cq ((zeq Er4 Er5 Ir4 Ir5).mpr q))
        obtain ⟨g6, hv⟩ := hv
        intro xy7 exy7
        obtain ⟨y7, eyy7⟩ : ∃ q9 : Int, q9 = v3 + 1 := ⟨_, rfl⟩
        have hv := hv y7 eyy7
        have Ey7 : xy7 = zi y7 := exy7.trans (((za (rfl : zi v3 = zi v3) (by decide : (1 : Int32) = zi 1))).trans (congrArg zi eyy7.symm))
        have Iy7 : ir y7 := by rw [eyy7]; exact g6
        clear exy7
        exact hv _ Ey7 Iy7
      · have hv := hv.2 ((zeq Er4 Er5 Ir4 Ir5).mp cq)
        exact hp _ _ (rfl : zi v3 = zi v3) iv3 hv
def v_X2_firstMeeting (J : mJ) (o : Nat) (oh : Nat) (a1 : Int) (a2 : Int) (post' : Int → Prop) : Prop := (v_X2_firstMeeting_2 J o oh a1 a2 post') 0
theorem vw_X2_firstMeeting {J : mJ} {o : Nat} {oh : Nat} {xa1 : Int32} {a1 : Int} {xa2 : Int32} {a2 : Int} (hJ : irm J)    (ea1 : xa1 = zi a1) (ia1 : ir a1) (ea2 : xa2 = zi a2) (ia2 : ir a2) {post : Int32 → Prop} {post' : Int → Prop} (hp : ∀ (x : Int32) (r : Int), x = zi r → ir r → post' r → post x) (hv : v_X2_firstMeeting J o oh a1 a2 post') : w_X2_firstMeeting (zz J) o oh xa1 xa2 post := by
  subst ea1
  subst ea2
  unfold v_X2_firstMeeting at hv
  unfold w_X2_firstMeeting
  exact vw_X2_firstMeeting_2 hJ ia1 ia2 hp (by decide : (0 : Int32) = zi 0) (by decide : ir 0) hv
def v_X2_passes_5 (J : mJ) (o : Nat) (oh : Nat) (a1 : Int) (a2 : Int) (post' : Int → Prop) (v3 : Int) (v4 : Int) : Prop := ∀ ZZ : (Int → Int → Prop), (∀ (v3 : Int) (v4 : Int), ((100 ≤ v4 → post' v3) ∧ (¬ 100 ≤ v4 → ir (v4 - 1) ∧ v_X2_spotAt J o oh a1 (v4 - 1) (fun r2 => (r2 = (-1) → ir (v4 + 1) ∧ ∀ y4, y4 = v4 + 1 → ZZ v3 y4) ∧ (¬ r2 = (-1) → ir (v4 - 1) ∧ v_X2_spotAt J o oh a2 (v4 - 1) (fun r6 => (r6 = (-1) → ir (v4 + 1) ∧ ∀ y8, y8 = v4 + 1 → ZZ v3 y8) ∧ (¬ r6 = (-1) → ir (v4 - 1) ∧ v_X2_spotAt J o oh a1 (v4 - 1) (fun r10 => ir (v4 - 1) ∧ v_X2_spotAt J o oh a2 (v4 - 1) (fun r12 => ir (r10 - r12) ∧ v_J6_signum_0f7a4 (r10 - r12) (fun r14 => v_X2_spotAt J o oh a1 v4 (fun r15 => v_X2_spotAt J o oh a2 v4 (fun r16 => ir (r15 - r16) ∧ v_J6_signum_0f7a4 (r15 - r16) (fun r18 => (r18 = 0 → ir (v4 + 1) ∧ ∀ y20, y20 = v4 + 1 → ZZ v3 y20) ∧ (¬ r18 = 0 → (r18 = r14 → ir (v4 + 1) ∧ ∀ y22, y22 = v4 + 1 → ZZ v3 y22) ∧ (¬ r18 = r14 → ir (v3 + 1) ∧ ∀ y24, y24 = v3 + 1 → ir (v4 + 1) ∧ ∀ y26, y26 = v4 + 1 → ZZ y24 y26)))))))))))))) → ZZ v3 v4) → ZZ v3 v4
theorem vw_X2_passes_5 {J : mJ} {o : Nat} {oh : Nat} {a1 : Int} {a2 : Int} (hJ : irm J) (ia1 : ir a1) (ia2 : ir a2) {post : Int32 → Prop} {post' : Int → Prop} (hp : ∀ (x : Int32) (r : Int), x = zi r → ir r → post' r → post x) {xv3 : Int32} {v3 : Int} {xv4 : Int32} {v4 : Int} (ev3 : xv3 = zi v3) (iv3 : ir v3) (ev4 : xv4 = zi v4) (iv4 : ir v4) (hv : v_X2_passes_5 J o oh a1 a2 post' v3 v4) : w_X2_passes_5 (zz J) o oh (zi a1) (zi a2) post xv3 xv4 := by
  subst ev3
  subst ev4
  unfold v_X2_passes_5 at hv
  unfold w_X2_passes_5
  intro ZZ hZ
  refine hv (fun v3 v4 => ∀ (xv3 : Int32) (xv4 : Int32), xv3 = zi v3 → ir v3 → xv4 = zi v4 → ir v4 → ZZ xv3 xv4) ?_ _ _ rfl iv3 rfl iv4
  clear hv iv3 iv4
  intro v3 v4 hv xv3 xv4 ev3 iv3 ev4 iv4
  subst ev3
  subst ev4
  refine hZ _ _ ?_
  refine ⟨fun cq => ?_, fun cq => ?_⟩
  · have hv := hv.1 ((zle (by decide : (100 : Int32) = zi 100) (rfl : zi v4 = zi v4) (by decide : ir 100) iv4).mp cq)
    exact hp _ _ (rfl : zi v3 = zi v3) iv3 hv
  · have hv := hv.2 (fun q => cq ((zle (by decide : (100 : Int32) = zi 100) (rfl : zi v4 = zi v4) (by decide : ir 100) iv4).mpr q))
    obtain ⟨g1, hv⟩ := hv
    refine vw_X2_spotAt hJ (rfl : zi a1 = zi a1) ia1 (zs (rfl : zi v4 = zi v4) (by decide : (1 : Int32) = zi 1)) g1 (fun xr2 r2 Er2 Ir2 hv => ?_) hv
    refine ⟨fun cq => ?_, fun cq => ?_⟩
    · have hv := hv.1 ((zeq Er2 (by decide : ((-1) : Int32) = zi (-1)) Ir2 (by decide : ir (-1))).mp cq)
      obtain ⟨g3, hv⟩ := hv
      intro xy4 exy4
      obtain ⟨y4, eyy4⟩ : ∃ q9 : Int, q9 = v4 + 1 := ⟨_, rfl⟩
      have hv := hv y4 eyy4
      have Ey4 : xy4 = zi y4 := exy4.trans (((za (rfl : zi v4 = zi v4) (by decide : (1 : Int32) = zi 1))).trans (congrArg zi eyy4.symm))
      have Iy4 : ir y4 := by rw [eyy4]; exact g3
      clear exy4
      exact hv _ _ (rfl : zi v3 = zi v3) iv3 Ey4 Iy4
    · have hv := hv.2 (fun q => cq ((zeq Er2 (by decide : ((-1) : Int32) = zi (-1)) Ir2 (by decide : ir (-1))).mpr q))
      obtain ⟨g5, hv⟩ := hv
      refine vw_X2_spotAt hJ (rfl : zi a2 = zi a2) ia2 (zs (rfl : zi v4 = zi v4) (by decide : (1 : Int32) = zi 1)) g5 (fun xr6 r6 Er6 Ir6 hv => ?_) hv
      refine ⟨fun cq => ?_, fun cq => ?_⟩
      · have hv := hv.1 ((zeq Er6 (by decide : ((-1) : Int32) = zi (-1)) Ir6 (by decide : ir (-1))).mp cq)
        obtain ⟨g7, hv⟩ := hv
        intro xy8 exy8
        obtain ⟨y8, eyy8⟩ : ∃ q9 : Int, q9 = v4 + 1 := ⟨_, rfl⟩
        have hv := hv y8 eyy8
        have Ey8 : xy8 = zi y8 := exy8.trans (((za (rfl : zi v4 = zi v4) (by decide : (1 : Int32) = zi 1))).trans (congrArg zi eyy8.symm))
        have Iy8 : ir y8 := by rw [eyy8]; exact g7
        clear exy8
        exact hv _ _ (rfl : zi v3 = zi v3) iv3 Ey8 Iy8
      · have hv := hv.2 (fun q => cq ((zeq Er6 (by decide : ((-1) : Int32) = zi (-1)) Ir6 (by decide : ir (-1))).mpr q))
        obtain ⟨g9, hv⟩ := hv
        refine vw_X2_spotAt hJ (rfl : zi a1 = zi a1) ia1 (zs (rfl : zi v4 = zi v4) (by decide : (1 : Int32) = zi 1)) g9 (fun xr10 r10 Er10 Ir10 hv => ?_) hv
        obtain ⟨g11, hv⟩ := hv
        refine vw_X2_spotAt hJ (rfl : zi a2 = zi a2) ia2 (zs (rfl : zi v4 = zi v4) (by decide : (1 : Int32) = zi 1)) g11 (fun xr12 r12 Er12 Ir12 hv => ?_) hv
        obtain ⟨g13, hv⟩ := hv
        refine vw_J6_signum_0f7a4 (zs Er10 Er12) g13 (fun xr14 r14 Er14 Ir14 hv => ?_) hv
        refine vw_X2_spotAt hJ (rfl : zi a1 = zi a1) ia1 (rfl : zi v4 = zi v4) iv4 (fun xr15 r15 Er15 Ir15 hv => ?_) hv
        refine vw_X2_spotAt hJ (rfl : zi a2 = zi a2) ia2 (rfl : zi v4 = zi v4) iv4 (fun xr16 r16 Er16 Ir16 hv => ?_) hv
        obtain ⟨g17, hv⟩ := hv
        refine vw_J6_signum_0f7a4 (zs Er15 Er16) g17 (fun xr18 r18 Er18 Ir18 hv => ?_) hv
        refine ⟨fun cq => ?_, fun cq => ?_⟩
        · have hv := hv.1 ((zeq Er18 (by decide : (0 : Int32) = zi 0) Ir18 (by decide : ir 0)).mp cq)
          obtain ⟨g19, hv⟩ := hv
          intro xy20 exy20
          obtain ⟨y20, eyy20⟩ : ∃ q9 : Int, q9 = v4 + 1 := ⟨_, rfl⟩
          have hv := hv y20 eyy20
          have Ey20 : xy20 = zi y20 := exy20.trans (((za (rfl : zi v4 = zi v4) (by decide : (1 : Int32) = zi 1))).trans (congrArg zi eyy20.symm))
          have Iy20 : ir y20 := by rw [eyy20]; exact g19
          clear exy20
          exact hv _ _ (rfl : zi v3 = zi v3) iv3 Ey20 Iy20
        · have hv := hv.2 (fun q => cq ((zeq Er18 (by decide : (0 : Int32) = zi 0) Ir18 (by decide : ir 0)).mpr q))
          refine ⟨fun cq => ?_, fun cq => ?_⟩
          · have hv := hv.1 ((zeq Er18 Er14 Ir18 Ir14).mp cq)
            obtain ⟨g21, hv⟩ := hv
            intro xy22 exy22
            obtain ⟨y22, eyy22⟩ : ∃ q9 : Int, q9 = v4 + 1 := ⟨_, rfl⟩
            have hv := hv y22 eyy22
            have Ey22 : xy22 = zi y22 := exy22.trans (((za (rfl : zi v4 = zi v4) (by decide : (1 : Int32) = zi 1))).trans (congrArg zi eyy22.symm))
            have Iy22 : ir y22 := by rw [eyy22]; exact g21
            clear exy22
            exact hv _ _ (rfl : zi v3 = zi v3) iv3 Ey22 Iy22
          · have hv := hv.2 (fun q => cq ((zeq Er18 Er14 Ir18 Ir14).mpr q))
            obtain ⟨g23, hv⟩ := hv
            intro xy24 exy24
            obtain ⟨y24, eyy24⟩ : ∃ q9 : Int, q9 = v3 + 1 := ⟨_, rfl⟩
            have hv := hv y24 eyy24
            have Ey24 : xy24 = zi y24 := exy24.trans (((za (rfl : zi v3 = zi v3) (by decide : (1 : Int32) = zi 1))).trans (congrArg zi eyy24.symm))
            have Iy24 : ir y24 := by rw [eyy24]; exact g23
            clear exy24
            obtain ⟨g25, hv⟩ := hv
            intro xy26 exy26
            obtain ⟨y26, eyy26⟩ : ∃ q9 : Int, q9 = v4 + 1 := ⟨_, rfl⟩
            have hv := hv y26 eyy26
            have Ey26 : xy26 = zi y26 := exy26.trans (((za (rfl : zi v4 = zi v4) (by decide : (1 : Int32) = zi 1))).trans (congrArg zi eyy26.symm))
            have Iy26 : ir y26 := by rw [eyy26]; exact g25
            clear exy26
            exact hv _ _ Ey24 Iy24 Ey26 Iy26
def v_X2_passes (J : mJ) (o : Nat) (oh : Nat) (a1 : Int) (a2 : Int) (post' : Int → Prop) : Prop := (v_X2_passes_5 J o oh a1 a2 post') 0 1
theorem vw_X2_passes {J : mJ} {o : Nat} {oh : Nat} {xa1 : Int32} {a1 : Int} {xa2 : Int32} {a2 : Int} (hJ : irm J)    (ea1 : xa1 = zi a1) (ia1 : ir a1) (ea2 : xa2 = zi a2) (ia2 : ir a2) {post : Int32 → Prop} {post' : Int → Prop} (hp : ∀ (x : Int32) (r : Int), x = zi r → ir r → post' r → post x) (hv : v_X2_passes J o oh a1 a2 post') : w_X2_passes (zz J) o oh xa1 xa2 post := by
  subst ea1
  subst ea2
  unfold v_X2_passes at hv
  unfold w_X2_passes
  exact vw_X2_passes_5 hJ ia1 ia2 hp (by decide : (0 : Int32) = zi 0) (by decide : ir 0) (by decide : (1 : Int32) = zi 1) (by decide : ir 1) hv
def v_X2_longestHush_6 (J : mJ) (o : Nat) (oh : Nat) (post' : Int → Prop) (k50' : Int → Int → Prop) (v1 : Int) (v2 : Int) (v3 : Int) : Prop := ∀ ZZ : (Int → Int → Int → Prop), (∀ (v1 : Int) (v2 : Int) (v3 : Int), (((J o 2) ≤ v3 → k50' v1 v2) ∧ (¬ (J o 2) ≤ v3 → v_X2_notedBy J o oh v3 (fun r1 => (r1 = 0 → ir (v3 + 1) ∧ ∀ y3, y3 = v3 + 1 → ZZ v1 v2 y3) ∧ (¬ r1 = 0 → (0 ≤ v3 ∧ v3 < 600) ∧ ir ((J (o + 3) v3.toNat) - v2) ∧ ir (((J (o + 3) v3.toNat) - v2) - 1) ∧ ∀ y7, y7 = (maxZ v1 (((J (o + 3) v3.toNat) - v2) - 1)) → (0 ≤ v3 ∧ v3 < 600) ∧ ∀ y9, y9 = (J (o + 3) v3.toNat) → ir (v3 + 1) ∧ ∀ y11, y11 = v3 + 1 → ZZ y7 y9 y11)))) → ZZ v1 v2 v3) → ZZ v1 v2 v3
theorem vw_X2_longestHush_6 {J : mJ} {o : Nat} {oh : Nat} (hJ : irm J)  {post : Int32 → Prop} {post' : Int → Prop} {k50' : Int → Int → Prop} {k50 : Int32 → Int32 → Prop} (hp : ∀ (x : Int32) (r : Int), x = zi r → ir r → post' r → post x) (hk50 : ∀ (xv1 : Int32) (v1 : Int) (xv2 : Int32) (v2 : Int), xv1 = zi v1 → ir v1 → xv2 = zi v2 → ir v2 → k50' v1 v2 → k50 xv1 xv2) {xv1 : Int32} {v1 : Int} {xv2 : Int32} {v2 : Int} {xv3 : Int32} {v3 : Int} (ev1 : xv1 = zi v1) (iv1 : ir v1) (ev2 : xv2 = zi v2) (iv2 : ir v2) (ev3 : xv3 = zi v3) (iv3 : ir v3) (hv : v_X2_longestHush_6 J o oh post' k50' v1 v2 v3) : w_X2_longestHush_6 (zz J) o oh post k50 xv1 xv2 xv3 := by
  subst ev1
  subst ev2
  subst ev3
  unfold v_X2_longestHush_6 at hv
  unfold w_X2_longestHush_6
  intro ZZ hZ
  refine hv (fun v1 v2 v3 => ∀ (xv1 : Int32) (xv2 : Int32) (xv3 : Int32), xv1 = zi v1 → ir v1 → xv2 = zi v2 → ir v2 → xv3 = zi v3 → ir v3 → ZZ xv1 xv2 xv3) ?_ _ _ _ rfl iv1 rfl iv2 rfl iv3
  clear hv iv1 iv2 iv3
  intro v1 v2 v3 hv xv1 xv2 xv3 ev1 iv1 ev2 iv2 ev3 iv3
  subst ev1
  subst ev2
  subst ev3
  refine hZ _ _ _ ?_
  refine ⟨fun cq => ?_, fun cq => ?_⟩
  · have hv := hv.1 ((zle zrf (rfl : zi v3 = zi v3) (hJ _ _) iv3).mp cq)
    exact hk50 _ _ _ _ (rfl : zi v1 = zi v1) iv1 (rfl : zi v2 = zi v2) iv2 hv
  · have hv := hv.2 (fun q => cq ((zle zrf (rfl : zi v3 = zi v3) (hJ _ _) iv3).mpr q))
    refine vw_X2_notedBy hJ (rfl : zi v3 = zi v3) iv3 (fun xr1 r1 Er1 Ir1 hv => ?_) hv
    refine ⟨fun cq => ?_, fun cq => ?_⟩
    · have hv := hv.1 ((zeq Er1 (by decide : (0 : Int32) = zi 0) Ir1 (by decide : ir 0)).mp cq)
      obtain ⟨g2, hv⟩ := hv
      intro xy3 exy3
      obtain ⟨y3, eyy3⟩ : ∃ q9 : Int, q9 = v3 + 1 := ⟨_, rfl⟩
      have hv := hv y3 eyy3
      have Ey3 : xy3 = zi y3 := exy3.trans (((za (rfl : zi v3 = zi v3) (by decide : (1 : Int32) = zi 1))).trans (congrArg zi eyy3.symm))
      have Iy3 : ir y3 := by rw [eyy3]; exact g2
      clear exy3
      exact hv _ _ _ (rfl : zi v1 = zi v1) iv1 (rfl : zi v2 = zi v2) iv2 Ey3 Iy3
    · have hv := hv.2 (fun q => cq ((zeq Er1 (by decide : (0 : Int32) = zi 0) Ir1 (by decide : ir 0)).mpr q))
      obtain ⟨g4, hv⟩ := hv
      refine ⟨zvp (rfl : zi v3 = zi v3) iv3 g4.1 g4.2, ?_⟩
      obtain ⟨g5, hv⟩ := hv
      obtain ⟨g6, hv⟩ := hv
      intro xy7 exy7
      obtain ⟨y7, eyy7⟩ : ∃ q9 : Int, q9 = (maxZ v1 (((J (o + 3) v3.toNat) - v2) - 1)) := ⟨_, rfl⟩
      have hv := hv y7 eyy7
      have Ey7 : xy7 = zi y7 := exy7.trans (((z_max (rfl : zi v1 = zi v1) (zs (zs (zrd (rfl : zi v3 = zi v3) iv3 g4.1) (rfl : zi v2 = zi v2)) (by decide : (1 : Int32) = zi 1)) iv1 g6)).trans (congrArg zi eyy7.symm))
      have Iy7 : ir y7 := by rw [eyy7]; exact (ir_max iv1 g6)
      clear exy7
      obtain ⟨g8, hv⟩ := hv
      refine ⟨zvp (rfl : zi v3 = zi v3) iv3 g8.1 g8.2, ?_⟩
      intro xy9 exy9
      obtain ⟨y9, eyy9⟩ : ∃ q9 : Int, q9 = (J (o + 3) v3.toNat) := ⟨_, rfl⟩
      have hv := hv y9 eyy9
      have Ey9 : xy9 = zi y9 := exy9.trans (((zrd (rfl : zi v3 = zi v3) iv3 g8.1)).trans (congrArg zi eyy9.symm))
      have Iy9 : ir y9 := by rw [eyy9]; exact (hJ _ _)
      clear exy9
      obtain ⟨g10, hv⟩ := hv
      intro xy11 exy11
      obtain ⟨y11, eyy11⟩ : ∃ q9 : Int, q9 = v3 + 1 := ⟨_, rfl⟩
      have hv := hv y11 eyy11
      have Ey11 : xy11 = zi y11 := exy11.trans (((za (rfl : zi v3 = zi v3) (by decide : (1 : Int32) = zi 1))).trans (congrArg zi eyy11.symm))
      have Iy11 : ir y11 := by rw [eyy11]; exact g10
      clear exy11
      exact hv _ _ _ Ey7 Iy7 Ey9 Iy9 Ey11 Iy11
def v_X2_longestHush_50 (J : mJ) (o : Nat) (oh : Nat) (post' : Int → Prop) (v1 : Int) (v2 : Int) : Prop := ir (100 - v2) ∧ ir ((100 - v2) - 1) ∧ post' (maxZ v1 ((100 - v2) - 1))
theorem vw_X2_longestHush_50 {J : mJ} {o : Nat} {oh : Nat} (hJ : irm J)  {post : Int32 → Prop} {post' : Int → Prop} (hp : ∀ (x : Int32) (r : Int), x = zi r → ir r → post' r → post x) {xv1 : Int32} {v1 : Int} {xv2 : Int32} {v2 : Int} (ev1 : xv1 = zi v1) (iv1 : ir v1) (ev2 : xv2 = zi v2) (iv2 : ir v2) (hv : v_X2_longestHush_50 J o oh post' v1 v2) : w_X2_longestHush_50 (zz J) o oh post xv1 xv2 := by
  subst ev1
  subst ev2
  unfold v_X2_longestHush_50 at hv
  unfold w_X2_longestHush_50
  obtain ⟨g12, hv⟩ := hv
  obtain ⟨g13, hv⟩ := hv
  exact hp _ _ (z_max (rfl : zi v1 = zi v1) (zs (zs (by decide : (100 : Int32) = zi 100) (rfl : zi v2 = zi v2)) (by decide : (1 : Int32) = zi 1)) iv1 g13) (ir_max iv1 g13) hv
def v_X2_longestHush (J : mJ) (o : Nat) (oh : Nat) (post' : Int → Prop) : Prop := (v_X2_longestHush_6 J o oh post' (v_X2_longestHush_50 J o oh post')) 0 (-1) 0
theorem vw_X2_longestHush {J : mJ} {o : Nat} {oh : Nat} (hJ : irm J)    {post : Int32 → Prop} {post' : Int → Prop} (hp : ∀ (x : Int32) (r : Int), x = zi r → ir r → post' r → post x) (hv : v_X2_longestHush J o oh post') : w_X2_longestHush (zz J) o oh post := by
  unfold v_X2_longestHush at hv
  unfold w_X2_longestHush
  refine vw_X2_longestHush_6 hJ  hp ?_ (by decide : (0 : Int32) = zi 0) (by decide : ir 0) (by decide : ((-1) : Int32) = zi (-1)) (by decide : ir (-1)) (by decide : (0 : Int32) = zi 0) (by decide : ir 0) hv
  · intro xx vv xx vv ev1 iv1 ev2 iv2 hv
    exact vw_X2_longestHush_50 hJ  hp ev1 iv1 ev2 iv2 hv
def v_X2_mostTallied_4 (J : mJ) (o : Nat) (oh : Nat) (post' : Int → Prop) (v1 : Int) (v2 : Int) : Prop := ∀ ZZ : (Int → Int → Prop), (∀ (v1 : Int) (v2 : Int), (((J oh 0) ≤ v2 → post' v1) ∧ (¬ (J oh 0) ≤ v2 → (0 ≤ v2 ∧ v2 < 25) ∧ (0 ≤ v1 ∧ v1 < 25) ∧ ((J (o + 11) v2.toNat) ≤ (J (o + 11) v1.toNat) → ir (v2 + 1) ∧ ∀ y4, y4 = v2 + 1 → ZZ v1 y4) ∧ (¬ (J (o + 11) v2.toNat) ≤ (J (o + 11) v1.toNat) → ir (v2 + 1) ∧ ∀ y6, y6 = v2 + 1 → ZZ v2 y6))) → ZZ v1 v2) → ZZ v1 v2
theorem vw_X2_mostTallied_4 {J : mJ} {o : Nat} {oh : Nat} (hJ : irm J)  {post : Int32 → Prop} {post' : Int → Prop} (hp : ∀ (x : Int32) (r : Int), x = zi r → ir r → post' r → post x) {xv1 : Int32} {v1 : Int} {xv2 : Int32} {v2 : Int} (ev1 : xv1 = zi v1) (iv1 : ir v1) (ev2 : xv2 = zi v2) (iv2 : ir v2) (hv : v_X2_mostTallied_4 J o oh post' v1 v2) : w_X2_mostTallied_4 (zz J) o oh post xv1 xv2 := by
  subst ev1
  subst ev2
  unfold v_X2_mostTallied_4 at hv
  unfold w_X2_mostTallied_4
  intro ZZ hZ
  refine hv (fun v1 v2 => ∀ (xv1 : Int32) (xv2 : Int32), xv1 = zi v1 → ir v1 → xv2 = zi v2 → ir v2 → ZZ xv1 xv2) ?_ _ _ rfl iv1 rfl iv2
  clear hv iv1 iv2
  intro v1 v2 hv xv1 xv2 ev1 iv1 ev2 iv2
  subst ev1
  subst ev2
  refine hZ _ _ ?_
  refine ⟨fun cq => ?_, fun cq => ?_⟩
  · have hv := hv.1 ((zle zrf (rfl : zi v2 = zi v2) (hJ _ _) iv2).mp cq)
    exact hp _ _ (rfl : zi v1 = zi v1) iv1 hv
  · have hv := hv.2 (fun q => cq ((zle zrf (rfl : zi v2 = zi v2) (hJ _ _) iv2).mpr q))
    obtain ⟨g1, hv⟩ := hv
    refine ⟨zvp (rfl : zi v2 = zi v2) iv2 g1.1 g1.2, ?_⟩
    obtain ⟨g2, hv⟩ := hv
    refine ⟨zvp (rfl : zi v1 = zi v1) iv1 g2.1 g2.2, ?_⟩
    refine ⟨fun cq => ?_, fun cq => ?_⟩
    · have hv := hv.1 ((zle (zrd (rfl : zi v2 = zi v2) iv2 g1.1) (zrd (rfl : zi v1 = zi v1) iv1 g2.1) (hJ _ _) (hJ _ _)).mp cq)
      obtain ⟨g3, hv⟩ := hv
      intro xy4 exy4
      obtain ⟨y4, eyy4⟩ : ∃ q9 : Int, q9 = v2 + 1 := ⟨_, rfl⟩
      have hv := hv y4 eyy4
      have Ey4 : xy4 = zi y4 := exy4.trans (((za (rfl : zi v2 = zi v2) (by decide : (1 : Int32) = zi 1))).trans (congrArg zi eyy4.symm))
      have Iy4 : ir y4 := by rw [eyy4]; exact g3
      clear exy4
      exact hv _ _ (rfl : zi v1 = zi v1) iv1 Ey4 Iy4
    · have hv := hv.2 (fun q => cq ((zle (zrd (rfl : zi v2 = zi v2) iv2 g1.1) (zrd (rfl : zi v1 = zi v1) iv1 g2.1) (hJ _ _) (hJ _ _)).mpr q))
      obtain ⟨g5, hv⟩ := hv
      intro xy6 exy6
      obtain ⟨y6, eyy6⟩ : ∃ q9 : Int, q9 = v2 + 1 := ⟨_, rfl⟩
      have hv := hv y6 eyy6
      have Ey6 : xy6 = zi y6 := exy6.trans (((za (rfl : zi v2 = zi v2) (by decide : (1 : Int32) = zi 1))).trans (congrArg zi eyy6.symm))
      have Iy6 : ir y6 := by rw [eyy6]; exact g5
      clear exy6
      exact hv _ _ (rfl : zi v2 = zi v2) iv2 Ey6 Iy6
def v_X2_mostTallied (J : mJ) (o : Nat) (oh : Nat) (post' : Int → Prop) : Prop := (v_X2_mostTallied_4 J o oh post') 0 1
theorem vw_X2_mostTallied {J : mJ} {o : Nat} {oh : Nat} (hJ : irm J)    {post : Int32 → Prop} {post' : Int → Prop} (hp : ∀ (x : Int32) (r : Int), x = zi r → ir r → post' r → post x) (hv : v_X2_mostTallied J o oh post') : w_X2_mostTallied (zz J) o oh post := by
  unfold v_X2_mostTallied at hv
  unfold w_X2_mostTallied
  exact vw_X2_mostTallied_4 hJ  hp (by decide : (0 : Int32) = zi 0) (by decide : ir 0) (by decide : (1 : Int32) = zi 1) (by decide : ir 1) hv
def v_X2_busiestStep_19 (o : Nat) (oh : Nat) (post' : Int → mJ → Prop) (k48' : mJ → Prop) (J : mJ) (v1 : Int) : Prop := ∀ ZZ : (mJ → Int → Prop), (∀ (J : mJ) (v1 : Int), (((J o 2) ≤ v1 → k48' J) ∧ (¬ (J o 2) ≤ v1 → (0 ≤ v1 ∧ v1 < 600) ∧ (0 ≤ (J (o + 2) v1.toNat) ∧ (J (o + 2) v1.toNat) < 25) ∧ ir ((J (o + 11) (J (o + 2) v1.toNat).toNat) + 1) ∧ (0 ≤ (J (o + 2) v1.toNat) ∧ (J (o + 2) v1.toNat) < 25) ∧ ∀ J6, J6 = up2 J (o + 11) ((J (o + 2) v1.toNat).toNat) ((J (o + 11) (J (o + 2) v1.toNat).toNat) + 1) → ir (v1 + 1) ∧ ∀ y8, y8 = v1 + 1 → ZZ J6 y8)) → ZZ J v1) → ZZ J v1
theorem vw_X2_busiestStep_19 {o : Nat} {oh : Nat}   {post : Int32 → mI → Prop} {post' : Int → mJ → Prop} {k48' : mJ → Prop} {k48 : mI → Prop} (hp : ∀ (x : Int32) (r : Int) (J1 : mJ), x = zi r → ir r → irm J1 → post' r J1 → post x (zz J1)) (hk48 : ∀ (J : mJ), irm J → k48' J → k48 (zz J)) {J : mJ} {xv1 : Int32} {v1 : Int} (hJ : irm J) (ev1 : xv1 = zi v1) (iv1 : ir v1) (hv : v_X2_busiestStep_19 o oh post' k48' J v1) : w_X2_busiestStep_19 o oh post k48 (zz J) xv1 := by
  subst ev1
  unfold v_X2_busiestStep_19 at hv
  unfold w_X2_busiestStep_19
  intro ZZ hZ
  refine hv (fun J v1 => ∀ (xv1 : Int32), irm J → xv1 = zi v1 → ir v1 → ZZ (zz J) xv1) ?_ _ hJ rfl iv1
  clear hv hJ iv1
  intro J v1 hv xv1 hJ ev1 iv1
  subst ev1
  refine hZ _ _ ?_
  refine ⟨fun cq => ?_, fun cq => ?_⟩
  · have hv := hv.1 ((zle zrf (rfl : zi v1 = zi v1) (hJ _ _) iv1).mp cq)
    exact hk48 _ hJ hv
  · have hv := hv.2 (fun q => cq ((zle zrf (rfl : zi v1 = zi v1) (hJ _ _) iv1).mpr q))
    obtain ⟨g2, hv⟩ := hv
    refine ⟨zvp (rfl : zi v1 = zi v1) iv1 g2.1 g2.2, ?_⟩
    obtain ⟨g3, hv⟩ := hv
    refine ⟨zvp (zrd (rfl : zi v1 = zi v1) iv1 g2.1) (hJ _ _) g3.1 g3.2, ?_⟩
    obtain ⟨g4, hv⟩ := hv
    obtain ⟨g5, hv⟩ := hv
    refine ⟨zvp (zrd (rfl : zi v1 = zi v1) iv1 g2.1) (hJ _ _) g5.1 g5.2, ?_⟩
    intro I1 eI1
    obtain ⟨J6, eJ6⟩ : ∃ q9 : mJ, q9 = up2 J (o + 11) ((J (o + 2) v1.toNat).toNat) ((J (o + 11) (J (o + 2) v1.toNat).toNat) + 1) := ⟨_, rfl⟩
    have eI1 : I1 = zz J6 := by rw [eI1, eJ6]; exact zupa (zrd (rfl : zi v1 = zi v1) iv1 g2.1) (hJ _ _) g5.1 (za (zrd (zrd (rfl : zi v1 = zi v1) iv1 g2.1) (hJ _ _) g3.1) (by decide : (1 : Int32) = zi 1))
    subst eI1
    have hv := hv J6 eJ6
    have hJ : irm J6 := by rw [eJ6]; exact irm_up hJ g4
    obtain ⟨g7, hv⟩ := hv
    intro xy8 exy8
    obtain ⟨y8, eyy8⟩ : ∃ q9 : Int, q9 = v1 + 1 := ⟨_, rfl⟩
    have hv := hv y8 eyy8
    have Ey8 : xy8 = zi y8 := exy8.trans (((za (rfl : zi v1 = zi v1) (by decide : (1 : Int32) = zi 1))).trans (congrArg zi eyy8.symm))
    have Iy8 : ir y8 := by rw [eyy8]; exact g7
    clear exy8
    exact hv _ hJ Ey8 Iy8
def v_X2_busiestStep_48 (o : Nat) (oh : Nat) (post' : Int → mJ → Prop) (J : mJ) : Prop := v_X2_mostTallied J o oh (fun r9 => post' r9 J)
theorem vw_X2_busiestStep_48 {o : Nat} {oh : Nat}   {post : Int32 → mI → Prop} {post' : Int → mJ → Prop} (hp : ∀ (x : Int32) (r : Int) (J1 : mJ), x = zi r → ir r → irm J1 → post' r J1 → post x (zz J1)) {J : mJ} (hJ : irm J) (hv : v_X2_busiestStep_48 o oh post' J) : w_X2_busiestStep_48 o oh post (zz J) := by
  unfold v_X2_busiestStep_48 at hv
  unfold w_X2_busiestStep_48
  refine vw_X2_mostTallied hJ  (fun xr9 r9 Er9 Ir9 hv => ?_) hv
  exact hp _ _ _ Er9 Ir9 hJ hv
def v_X2_busiestStep (J : mJ) (o : Nat) (oh : Nat) (post' : Int → mJ → Prop) : Prop := (¬ (J o 2) = 0 → v_J7_fill_53178 J (o + 11) 25 0 (fun J1 => (v_X2_busiestStep_19 o oh post' (v_X2_busiestStep_48 o oh post')) J1 0)) ∧ ((J o 2) = 0 → post' (-1) J)
theorem vw_X2_busiestStep {J : mJ} {o : Nat} {oh : Nat} (hJ : irm J)    {post : Int32 → mI → Prop} {post' : Int → mJ → Prop} (hp : ∀ (x : Int32) (r : Int) (J1 : mJ), x = zi r → ir r → irm J1 → post' r J1 → post x (zz J1)) (hv : v_X2_busiestStep J o oh post') : w_X2_busiestStep (zz J) o oh post := by
  unfold v_X2_busiestStep at hv
  unfold w_X2_busiestStep
  refine ⟨fun cq => ?_, fun cq => ?_⟩
  · have hv := hv.1 (fun q => cq ((zeq zrf (by decide : (0 : Int32) = zi 0) (hJ _ _) (by decide : ir 0)).mpr q))
    refine vw_J7_fill_53178 hJ (by decide : (0 : Int32) = zi 0) (by decide : ir 0) (fun J1 hJ hv => ?_) hv
    refine vw_X2_busiestStep_19  hp ?_ hJ (by decide : (0 : Int32) = zi 0) (by decide : ir 0) hv
    · intro qq hJ hv
      exact vw_X2_busiestStep_48  hp hJ hv
  · have hv := hv.2 ((zeq zrf (by decide : (0 : Int32) = zi 0) (hJ _ _) (by decide : ir 0)).mp cq)
    exact hp _ _ _ (by decide : ((-1) : Int32) = zi (-1)) (by decide : ir (-1)) hJ hv
def v_X2_dampened (J : mJ) (o : Nat) (oh : Nat) (a1 : Int) (a2 : Int) (post' : Int → Prop) : Prop := (0 ≤ a1 ∧ a1 < 600) ∧ (0 ≤ (J (o + 2) a1.toNat) ∧ (J (o + 2) a1.toNat) < 24) ∧ ir ((J (oh + 1) (J (o + 2) a1.toNat).toNat) + a2) ∧ ∀ y4, y4 = (minZ 9 ((J (oh + 1) (J (o + 2) a1.toNat).toNat) + a2)) → (0 ≤ a1 ∧ a1 < 600) ∧ (0 ≤ (J (o + 1) a1.toNat) ∧ (J (o + 1) a1.toNat) < 6) ∧ (0 ≤ a1 ∧ a1 < 600) ∧ ir ((J (oh + 5) (J (o + 1) a1.toNat).toNat) + (J (o + 4) a1.toNat)) ∧ ir (((J (oh + 5) (J (o + 1) a1.toNat).toNat) + (J (o + 4) a1.toNat)) - y4) ∧ post' (maxZ 0 (((J (oh + 5) (J (o + 1) a1.toNat).toNat) + (J (o + 4) a1.toNat)) - y4))
theorem vw_X2_dampened {J : mJ} {o : Nat} {oh : Nat} {xa1 : Int32} {a1 : Int} {xa2 : Int32} {a2 : Int} (hJ : irm J)    (ea1 : xa1 = zi a1) (ia1 : ir a1) (ea2 : xa2 = zi a2) (ia2 : ir a2) {post : Int32 → Prop} {post' : Int → Prop} (hp : ∀ (x : Int32) (r : Int), x = zi r → ir r → post' r → post x) (hv : v_X2_dampened J o oh a1 a2 post') : w_X2_dampened (zz J) o oh xa1 xa2 post := by
  subst ea1
  subst ea2
  unfold v_X2_dampened at hv
  unfold w_X2_dampened
  obtain ⟨g1, hv⟩ := hv
  refine ⟨zvp (rfl : zi a1 = zi a1) ia1 g1.1 g1.2, ?_⟩
  obtain ⟨g2, hv⟩ := hv
  refine ⟨zvp (zrd (rfl : zi a1 = zi a1) ia1 g1.1) (hJ _ _) g2.1 g2.2, ?_⟩
  obtain ⟨g3, hv⟩ := hv
  intro xy4 exy4
  obtain ⟨y4, eyy4⟩ : ∃ q9 : Int, q9 = (minZ 9 ((J (oh + 1) (J (o + 2) a1.toNat).toNat) + a2)) := ⟨_, rfl⟩
  have hv := hv y4 eyy4
  have Ey4 : xy4 = zi y4 := exy4.trans (((z_min (by decide : (9 : Int32) = zi 9) (za (zrd (zrd (rfl : zi a1 = zi a1) ia1 g1.1) (hJ _ _) g2.1) (rfl : zi a2 = zi a2)) (by decide : ir 9) g3)).trans (congrArg zi eyy4.symm))
  have Iy4 : ir y4 := by rw [eyy4]; exact (ir_min (by decide : ir 9) g3)
  clear exy4
  obtain ⟨g5, hv⟩ := hv
  refine ⟨zvp (rfl : zi a1 = zi a1) ia1 g5.1 g5.2, ?_⟩
  obtain ⟨g6, hv⟩ := hv
  refine ⟨zvp (zrd (rfl : zi a1 = zi a1) ia1 g5.1) (hJ _ _) g6.1 g6.2, ?_⟩
  obtain ⟨g7, hv⟩ := hv
  refine ⟨zvp (rfl : zi a1 = zi a1) ia1 g7.1 g7.2, ?_⟩
  obtain ⟨g8, hv⟩ := hv
  obtain ⟨g9, hv⟩ := hv
  exact hp _ _ (z_max (by decide : (0 : Int32) = zi 0) (zs (za (zrd (zrd (rfl : zi a1 = zi a1) ia1 g5.1) (hJ _ _) g6.1) (zrd (rfl : zi a1 = zi a1) ia1 g7.1)) Ey4) (by decide : ir 0) g9) (ir_max (by decide : ir 0) g9) hv
def v_X2_tallySaved_71 (o : Nat) (oh : Nat) (a1 : Int) (post' : mJ → Prop) (k10' : mJ → Int → Prop) (J : mJ) (v2 : Int) (v3 : Int) : Prop := (0 ≤ v2 ∧ v2 < 600) ∧ (0 ≤ (J (o + 2) v2.toNat) ∧ (J (o + 2) v2.toNat) < 25) ∧ v_X2_notedBy J o oh v2 (fun r13 => v_J6_bitCount_0f7a4 r13 (fun r14 => v_J6_bitCount_0f7a4 v3 (fun r15 => ir (r14 - r15) ∧ ir ((J (o + 11) (J (o + 2) v2.toNat).toNat) + (r14 - r15)) ∧ (0 ≤ (J (o + 2) v2.toNat) ∧ (J (o + 2) v2.toNat) < 25) ∧ ∀ J19, J19 = up2 J (o + 11) ((J (o + 2) v2.toNat).toNat) ((J (o + 11) (J (o + 2) v2.toNat).toNat) + (r14 - r15)) → ir (v2 + 1) ∧ ∀ y21, y21 = v2 + 1 → k10' J19 y21)))
theorem vw_X2_tallySaved_71 {o : Nat} {oh : Nat} {a1 : Int}  (ia1 : ir a1) {post : mI → Prop} {post' : mJ → Prop} {k10' : mJ → Int → Prop} {k10 : mI → Int32 → Prop} (hp : ∀ (J1 : mJ), irm J1 → post' J1 → post (zz J1)) (hk10 : ∀ (J : mJ) (xv2 : Int32) (v2 : Int), irm J → xv2 = zi v2 → ir v2 → k10' J v2 → k10 (zz J) xv2) {J : mJ} {xv2 : Int32} {v2 : Int} {xv3 : Int32} {v3 : Int} (hJ : irm J) (ev2 : xv2 = zi v2) (iv2 : ir v2) (ev3 : xv3 = zi v3) (iv3 : ir v3) (hv : v_X2_tallySaved_71 o oh a1 post' k10' J v2 v3) : w_X2_tallySaved_71 o oh (zi a1) post k10 (zz J) xv2 xv3 := by
  subst ev2
  subst ev3
  unfold v_X2_tallySaved_71 at hv
  unfold w_X2_tallySaved_71
  obtain ⟨g11, hv⟩ := hv
  refine ⟨zvp (rfl : zi v2 = zi v2) iv2 g11.1 g11.2, ?_⟩
  obtain ⟨g12, hv⟩ := hv
  refine ⟨zvp (zrd (rfl : zi v2 = zi v2) iv2 g11.1) (hJ _ _) g12.1 g12.2, ?_⟩
  refine vw_X2_notedBy hJ (rfl : zi v2 = zi v2) iv2 (fun xr13 r13 Er13 Ir13 hv => ?_) hv
  refine vw_J6_bitCount_0f7a4 Er13 Ir13 (fun xr14 r14 Er14 Ir14 hv => ?_) hv
  refine vw_J6_bitCount_0f7a4 (rfl : zi v3 = zi v3) iv3 (fun xr15 r15 Er15 Ir15 hv => ?_) hv
  obtain ⟨g16, hv⟩ := hv
  obtain ⟨g17, hv⟩ := hv
  obtain ⟨g18, hv⟩ := hv
  refine ⟨zvp (zrd (rfl : zi v2 = zi v2) iv2 g11.1) (hJ _ _) g18.1 g18.2, ?_⟩
  intro I1 eI1
  obtain ⟨J19, eJ19⟩ : ∃ q9 : mJ, q9 = up2 J (o + 11) ((J (o + 2) v2.toNat).toNat) ((J (o + 11) (J (o + 2) v2.toNat).toNat) + (r14 - r15)) := ⟨_, rfl⟩
  have eI1 : I1 = zz J19 := by rw [eI1, eJ19]; exact zupa (zrd (rfl : zi v2 = zi v2) iv2 g11.1) (hJ _ _) g18.1 (za (zrd (zrd (rfl : zi v2 = zi v2) iv2 g11.1) (hJ _ _) g12.1) (zs Er14 Er15))
  subst eI1
  have hv := hv J19 eJ19
  have hJ : irm J19 := by rw [eJ19]; exact irm_up hJ g17
  obtain ⟨g20, hv⟩ := hv
  intro xy21 exy21
  obtain ⟨y21, eyy21⟩ : ∃ q9 : Int, q9 = v2 + 1 := ⟨_, rfl⟩
  have hv := hv y21 eyy21
  have Ey21 : xy21 = zi y21 := exy21.trans (((za (rfl : zi v2 = zi v2) (by decide : (1 : Int32) = zi 1))).trans (congrArg zi eyy21.symm))
  have Iy21 : ir y21 := by rw [eyy21]; exact g20
  clear exy21
  exact hk10 _ _ _ hJ Ey21 Iy21 hv
def v_X2_tallySaved_10 (o : Nat) (oh : Nat) (a1 : Int) (post' : mJ → Prop) (J : mJ) (v2 : Int) : Prop := ∀ ZZ : (mJ → Int → Prop), (∀ (J : mJ) (v2 : Int), (((J o 2) ≤ v2 → post' J) ∧ (¬ (J o 2) ≤ v2 → (0 ≤ v2 ∧ v2 < 600) ∧ v_X2_dampened J o oh v2 a1 (fun r3 => v_X2_hearers J o oh (J (o + 2) v2.toNat) r3 (fun r4 => (0 ≤ v2 ∧ v2 < 600) ∧ ((J (o + 6) v2.toNat) = (-1) → (v_X2_tallySaved_71 o oh a1 post' ZZ) J v2 r4) ∧ (¬ (J (o + 6) v2.toNat) = (-1) → (0 ≤ v2 ∧ v2 < 600) ∧ (0 ≤ v2 ∧ v2 < 600) ∧ v_X2_dampened J o oh (J (o + 6) v2.toNat) a1 (fun r8 => v_X2_hearers J o oh (J (o + 2) v2.toNat) (divZ r8 2) (fun r9 => ∀ y10, y10 = (orZ r4 r9) → (v_X2_tallySaved_71 o oh a1 post' ZZ) J v2 y10))))))) → ZZ J v2) → ZZ J v2
theorem vw_X2_tallySaved_10 {o : Nat} {oh : Nat} {a1 : Int}  (ia1 : ir a1) {post : mI → Prop} {post' : mJ → Prop} (hp : ∀ (J1 : mJ), irm J1 → post' J1 → post (zz J1)) {J : mJ} {xv2 : Int32} {v2 : Int} (hJ : irm J) (ev2 : xv2 = zi v2) (iv2 : ir v2) (hv : v_X2_tallySaved_10 o oh a1 post' J v2) : w_X2_tallySaved_10 o oh (zi a1) post (zz J) xv2 := by
  subst ev2
  unfold v_X2_tallySaved_10 at hv
  unfold w_X2_tallySaved_10
  intro ZZ hZ
  refine hv (fun J v2 => ∀ (xv2 : Int32), irm J → xv2 = zi v2 → ir v2 → ZZ (zz J) xv2) ?_ _ hJ rfl iv2
  clear hv hJ iv2
  intro J v2 hv xv2 hJ ev2 iv2
  subst ev2
  refine hZ _ _ ?_
  refine ⟨fun cq => ?_, fun cq => ?_⟩
  · have hv := hv.1 ((zle zrf (rfl : zi v2 = zi v2) (hJ _ _) iv2).mp cq)
    exact hp _ hJ hv
  · have hv := hv.2 (fun q => cq ((zle zrf (rfl : zi v2 = zi v2) (hJ _ _) iv2).mpr q))
    obtain ⟨g2, hv⟩ := hv
    refine ⟨zvp (rfl : zi v2 = zi v2) iv2 g2.1 g2.2, ?_⟩
    refine vw_X2_dampened hJ (rfl : zi v2 = zi v2) iv2 (rfl : zi a1 = zi a1) ia1 (fun xr3 r3 Er3 Ir3 hv => ?_) hv
    refine vw_X2_hearers hJ (zrd (rfl : zi v2 = zi v2) iv2 g2.1) (hJ _ _) Er3 Ir3 (fun xr4 r4 Er4 Ir4 hv => ?_) hv
    obtain ⟨g5, hv⟩ := hv
    refine ⟨zvp (rfl : zi v2 = zi v2) iv2 g5.1 g5.2, ?_⟩
    refine ⟨fun cq => ?_, fun cq => ?_⟩
    · have hv := hv.1 ((zeq (zrd (rfl : zi v2 = zi v2) iv2 g5.1) (by decide : ((-1) : Int32) = zi (-1)) (hJ _ _) (by decide : ir (-1))).mp cq)
      refine vw_X2_tallySaved_71 ia1 hp ?_ hJ (rfl : zi v2 = zi v2) iv2 Er4 Ir4 hv
      · intro qq xx vv hJ ev2 iv2 hv
        exact hv _ hJ ev2 iv2
    · have hv := hv.2 (fun q => cq ((zeq (zrd (rfl : zi v2 = zi v2) iv2 g5.1) (by decide : ((-1) : Int32) = zi (-1)) (hJ _ _) (by decide : ir (-1))).mpr q))
      obtain ⟨g6, hv⟩ := hv
      refine ⟨zvp (rfl : zi v2 = zi v2) iv2 g6.1 g6.2, ?_⟩
      obtain ⟨g7, hv⟩ := hv
      refine ⟨zvp (rfl : zi v2 = zi v2) iv2 g7.1 g7.2, ?_⟩
      refine vw_X2_dampened hJ (zrd (rfl : zi v2 = zi v2) iv2 g7.1) (hJ _ _) (rfl : zi a1 = zi a1) ia1 (fun xr8 r8 Er8 Ir8 hv => ?_) hv
      refine vw_X2_hearers hJ (zrd (rfl : zi v2 = zi v2) iv2 g6.1) (hJ _ _) (z_div Er8 (by decide : (2 : Int32) = zi 2)) (ir_toInt _) (fun xr9 r9 Er9 Ir9 hv => ?_) hv
      intro xy10 exy10
      obtain ⟨y10, eyy10⟩ : ∃ q9 : Int, q9 = (orZ r4 r9) := ⟨_, rfl⟩
      have hv := hv y10 eyy10
      have Ey10 : xy10 = zi y10 := exy10.trans (((z_or Er4 Er9)).trans (congrArg zi eyy10.symm))
      have Iy10 : ir y10 := by rw [eyy10]; exact (ir_toInt _)
      clear exy10
      refine vw_X2_tallySaved_71 ia1 hp ?_ hJ (rfl : zi v2 = zi v2) iv2 Ey10 Iy10 hv
      · intro qq xx vv hJ ev2 iv2 hv
        exact hv _ hJ ev2 iv2
def v_X2_tallySaved (J : mJ) (o : Nat) (oh : Nat) (a1 : Int) (post' : mJ → Prop) : Prop := v_J7_fill_53178 J (o + 11) 25 0 (fun J1 => (v_X2_tallySaved_10 o oh a1 post') J1 0)
theorem vw_X2_tallySaved {J : mJ} {o : Nat} {oh : Nat} {xa1 : Int32} {a1 : Int} (hJ : irm J)    (ea1 : xa1 = zi a1) (ia1 : ir a1) {post : mI → Prop} {post' : mJ → Prop} (hp : ∀ (J1 : mJ), irm J1 → post' J1 → post (zz J1)) (hv : v_X2_tallySaved J o oh a1 post') : w_X2_tallySaved (zz J) o oh xa1 post := by
  subst ea1
  unfold v_X2_tallySaved at hv
  unfold w_X2_tallySaved
  refine vw_J7_fill_53178 hJ (by decide : (0 : Int32) = zi 0) (by decide : ir 0) (fun J1 hJ hv => ?_) hv
  exact vw_X2_tallySaved_10 ia1 hp hJ (by decide : (0 : Int32) = zi 0) (by decide : ir 0) hv
def v_X2_shoesHeard_4 (J : mJ) (o : Nat) (oh : Nat) (a1 : Int) (post' : Int → Prop) (k42' : Int → Prop) (v2 : Int) (v3 : Int) : Prop := ∀ ZZ : (Int → Int → Prop), (∀ (v2 : Int) (v3 : Int), (((J o 2) ≤ v3 → k42' v2) ∧ (¬ (J o 2) ≤ v3 → (0 ≤ v3 ∧ v3 < 600) ∧ v_X11_has (J (o + 7) v3.toNat) a1 (fun b2 => (b2 = false → ir (v3 + 1) ∧ ∀ y4, y4 = v3 + 1 → ZZ v2 y4) ∧ (b2 = true → (0 ≤ v3 ∧ v3 < 600) ∧ ∀ y6, y6 = (orZ v2 (shlZ 1 (J (o + 4) v3.toNat))) → ir (v3 + 1) ∧ ∀ y8, y8 = v3 + 1 → ZZ y6 y8)))) → ZZ v2 v3) → ZZ v2 v3
theorem vw_X2_shoesHeard_4 {J : mJ} {o : Nat} {oh : Nat} {a1 : Int} (hJ : irm J) (ia1 : ir a1) {post : Int32 → Prop} {post' : Int → Prop} {k42' : Int → Prop} {k42 : Int32 → Prop} (hp : ∀ (x : Int32) (r : Int), x = zi r → ir r → post' r → post x) (hk42 : ∀ (xv2 : Int32) (v2 : Int), xv2 = zi v2 → ir v2 → k42' v2 → k42 xv2) {xv2 : Int32} {v2 : Int} {xv3 : Int32} {v3 : Int} (ev2 : xv2 = zi v2) (iv2 : ir v2) (ev3 : xv3 = zi v3) (iv3 : ir v3) (hv : v_X2_shoesHeard_4 J o oh a1 post' k42' v2 v3) : w_X2_shoesHeard_4 (zz J) o oh (zi a1) post k42 xv2 xv3 := by
  subst ev2
  subst ev3
  unfold v_X2_shoesHeard_4 at hv
  unfold w_X2_shoesHeard_4
  intro ZZ hZ
  refine hv (fun v2 v3 => ∀ (xv2 : Int32) (xv3 : Int32), xv2 = zi v2 → ir v2 → xv3 = zi v3 → ir v3 → ZZ xv2 xv3) ?_ _ _ rfl iv2 rfl iv3
  clear hv iv2 iv3
  intro v2 v3 hv xv2 xv3 ev2 iv2 ev3 iv3
  subst ev2
  subst ev3
  refine hZ _ _ ?_
  refine ⟨fun cq => ?_, fun cq => ?_⟩
  · have hv := hv.1 ((zle zrf (rfl : zi v3 = zi v3) (hJ _ _) iv3).mp cq)
    exact hk42 _ _ (rfl : zi v2 = zi v2) iv2 hv
  · have hv := hv.2 (fun q => cq ((zle zrf (rfl : zi v3 = zi v3) (hJ _ _) iv3).mpr q))
    obtain ⟨g1, hv⟩ := hv
    refine ⟨zvp (rfl : zi v3 = zi v3) iv3 g1.1 g1.2, ?_⟩
    refine vw_X11_has (zrd (rfl : zi v3 = zi v3) iv3 g1.1) (hJ _ _) (rfl : zi a1 = zi a1) ia1 (fun b2  hv => ?_) hv
    refine ⟨fun cq => ?_, fun cq => ?_⟩
    · have hv := hv.1 cq
      obtain ⟨g3, hv⟩ := hv
      intro xy4 exy4
      obtain ⟨y4, eyy4⟩ : ∃ q9 : Int, q9 = v3 + 1 := ⟨_, rfl⟩
      have hv := hv y4 eyy4
      have Ey4 : xy4 = zi y4 := exy4.trans (((za (rfl : zi v3 = zi v3) (by decide : (1 : Int32) = zi 1))).trans (congrArg zi eyy4.symm))
      have Iy4 : ir y4 := by rw [eyy4]; exact g3
      clear exy4
      exact hv _ _ (rfl : zi v2 = zi v2) iv2 Ey4 Iy4
    · have hv := hv.2 cq
      obtain ⟨g5, hv⟩ := hv
      refine ⟨zvp (rfl : zi v3 = zi v3) iv3 g5.1 g5.2, ?_⟩
      intro xy6 exy6
      obtain ⟨y6, eyy6⟩ : ∃ q9 : Int, q9 = (orZ v2 (shlZ 1 (J (o + 4) v3.toNat))) := ⟨_, rfl⟩
      have hv := hv y6 eyy6
      have Ey6 : xy6 = zi y6 := exy6.trans (((z_or (rfl : zi v2 = zi v2) (z_shl (by decide : (1 : Int32) = zi 1) (zrd (rfl : zi v3 = zi v3) iv3 g5.1)))).trans (congrArg zi eyy6.symm))
      have Iy6 : ir y6 := by rw [eyy6]; exact (ir_toInt _)
      clear exy6
      obtain ⟨g7, hv⟩ := hv
      intro xy8 exy8
      obtain ⟨y8, eyy8⟩ : ∃ q9 : Int, q9 = v3 + 1 := ⟨_, rfl⟩
      have hv := hv y8 eyy8
      have Ey8 : xy8 = zi y8 := exy8.trans (((za (rfl : zi v3 = zi v3) (by decide : (1 : Int32) = zi 1))).trans (congrArg zi eyy8.symm))
      have Iy8 : ir y8 := by rw [eyy8]; exact g7
      clear exy8
      exact hv _ _ Ey6 Iy6 Ey8 Iy8
def v_X2_shoesHeard_42 (J : mJ) (o : Nat) (oh : Nat) (a1 : Int) (post' : Int → Prop) (v2 : Int) : Prop := v_J6_bitCount_0f7a4 v2 (fun r9 => post' r9)
theorem vw_X2_shoesHeard_42 {J : mJ} {o : Nat} {oh : Nat} {a1 : Int} (hJ : irm J) (ia1 : ir a1) {post : Int32 → Prop} {post' : Int → Prop} (hp : ∀ (x : Int32) (r : Int), x = zi r → ir r → post' r → post x) {xv2 : Int32} {v2 : Int} (ev2 : xv2 = zi v2) (iv2 : ir v2) (hv : v_X2_shoesHeard_42 J o oh a1 post' v2) : w_X2_shoesHeard_42 (zz J) o oh (zi a1) post xv2 := by
  subst ev2
  unfold v_X2_shoesHeard_42 at hv
  unfold w_X2_shoesHeard_42
  refine vw_J6_bitCount_0f7a4 (rfl : zi v2 = zi v2) iv2 (fun xr9 r9 Er9 Ir9 hv => ?_) hv
  exact hp _ _ Er9 Ir9 hv
def v_X2_shoesHeard (J : mJ) (o : Nat) (oh : Nat) (a1 : Int) (post' : Int → Prop) : Prop := (v_X2_shoesHeard_4 J o oh a1 post' (v_X2_shoesHeard_42 J o oh a1 post')) 0 0
theorem vw_X2_shoesHeard {J : mJ} {o : Nat} {oh : Nat} {xa1 : Int32} {a1 : Int} (hJ : irm J)    (ea1 : xa1 = zi a1) (ia1 : ir a1) {post : Int32 → Prop} {post' : Int → Prop} (hp : ∀ (x : Int32) (r : Int), x = zi r → ir r → post' r → post x) (hv : v_X2_shoesHeard J o oh a1 post') : w_X2_shoesHeard (zz J) o oh xa1 post := by
  subst ea1
  unfold v_X2_shoesHeard at hv
  unfold w_X2_shoesHeard
  refine vw_X2_shoesHeard_4 hJ ia1 hp ?_ (by decide : (0 : Int32) = zi 0) (by decide : ir 0) (by decide : (0 : Int32) = zi 0) (by decide : ir 0) hv
  · intro xx vv ev2 iv2 hv
    exact vw_X2_shoesHeard_42 hJ ia1 hp ev2 iv2 hv
def v_X2_quietestStep_51 (o : Nat) (oh : Nat) (a1 : Int) (post' : Int → mJ → Prop) (k10' : mJ → Int → Prop) (J : mJ) (v2 : Int) (s0 : Int) (s1 : Int) : Prop := ∀ y6, y6 = (maxZ s0 s1) → (y6 ≤ 0 → ir (v2 + 1) ∧ ∀ y8, y8 = v2 + 1 → k10' J y8) ∧ (¬ y6 ≤ 0 → (0 ≤ a1 ∧ a1 < 6) ∧ ir ((J (oh + 3) a1.toNat) + y6) ∧ ∀ y11, y11 = ((J (oh + 3) a1.toNat) + y6) → (0 ≤ v2 ∧ v2 < 600) ∧ ir ((J (o + 2) v2.toNat) - y11) ∧ (0 ≤ (maxZ 0 ((J (o + 2) v2.toNat) - y11)) ∧ (maxZ 0 ((J (o + 2) v2.toNat) - y11)) < 25) ∧ ir ((J (o + 11) (maxZ 0 ((J (o + 2) v2.toNat) - y11)).toNat) + 1) ∧ (0 ≤ (maxZ 0 ((J (o + 2) v2.toNat) - y11)) ∧ (maxZ 0 ((J (o + 2) v2.toNat) - y11)) < 25) ∧ ∀ J17, J17 = up2 J (o + 11) ((maxZ 0 ((J (o + 2) v2.toNat) - y11)).toNat) ((J (o + 11) (maxZ 0 ((J (o + 2) v2.toNat) - y11)).toNat) + 1) → (0 ≤ v2 ∧ v2 < 600) ∧ ir ((J17 (o + 2) v2.toNat) + y11) ∧ ir (((J17 (o + 2) v2.toNat) + y11) + 1) ∧ (0 ≤ (minZ (J17 oh 0) (((J17 (o + 2) v2.toNat) + y11) + 1)) ∧ (minZ (J17 oh 0) (((J17 (o + 2) v2.toNat) + y11) + 1)) < 25) ∧ ir ((J17 (o + 11) (minZ (J17 oh 0) (((J17 (o + 2) v2.toNat) + y11) + 1)).toNat) - 1) ∧ (0 ≤ (minZ (J17 oh 0) (((J17 (o + 2) v2.toNat) + y11) + 1)) ∧ (minZ (J17 oh 0) (((J17 (o + 2) v2.toNat) + y11) + 1)) < 25) ∧ ∀ J24, J24 = up2 J17 (o + 11) ((minZ (J17 oh 0) (((J17 (o + 2) v2.toNat) + y11) + 1)).toNat) ((J17 (o + 11) (minZ (J17 oh 0) (((J17 (o + 2) v2.toNat) + y11) + 1)).toNat) - 1) → ir (v2 + 1) ∧ ∀ y26, y26 = v2 + 1 → k10' J24 y26)
theorem vw_X2_quietestStep_51 {o : Nat} {oh : Nat} {a1 : Int}  (ia1 : ir a1) {post : Int32 → mI → Prop} {post' : Int → mJ → Prop} {k10' : mJ → Int → Prop} {k10 : mI → Int32 → Prop} (hp : ∀ (x : Int32) (r : Int) (J1 : mJ), x = zi r → ir r → irm J1 → post' r J1 → post x (zz J1)) (hk10 : ∀ (J : mJ) (xv2 : Int32) (v2 : Int), irm J → xv2 = zi v2 → ir v2 → k10' J v2 → k10 (zz J) xv2) {J : mJ} {xv2 : Int32} {v2 : Int} {xs0 : Int32} {s0 : Int} {xs1 : Int32} {s1 : Int} (hJ : irm J) (ev2 : xv2 = zi v2) (iv2 : ir v2) (es0 : xs0 = zi s0) (is0 : ir s0) (es1 : xs1 = zi s1) (is1 : ir s1) (hv : v_X2_quietestStep_51 o oh a1 post' k10' J v2 s0 s1) : w_X2_quietestStep_51 o oh (zi a1) post k10 (zz J) xv2 xs0 xs1 := by
  subst ev2
  subst es0
  subst es1
  unfold v_X2_quietestStep_51 at hv
  unfold w_X2_quietestStep_51
  intro xy6 exy6
  obtain ⟨y6, eyy6⟩ : ∃ q9 : Int, q9 = (maxZ s0 s1) := ⟨_, rfl⟩
  have hv := hv y6 eyy6
  have Ey6 : xy6 = zi y6 := exy6.trans (((z_max (rfl : zi s0 = zi s0) (rfl : zi s1 = zi s1) is0 is1)).trans (congrArg zi eyy6.symm))
  have Iy6 : ir y6 := by rw [eyy6]; exact (ir_max is0 is1)
  clear exy6
  refine ⟨fun cq => ?_, fun cq => ?_⟩
  · have hv := hv.1 ((zle Ey6 (by decide : (0 : Int32) = zi 0) Iy6 (by decide : ir 0)).mp cq)
    obtain ⟨g7, hv⟩ := hv
    intro xy8 exy8
    obtain ⟨y8, eyy8⟩ : ∃ q9 : Int, q9 = v2 + 1 := ⟨_, rfl⟩
    have hv := hv y8 eyy8
    have Ey8 : xy8 = zi y8 := exy8.trans (((za (rfl : zi v2 = zi v2) (by decide : (1 : Int32) = zi 1))).trans (congrArg zi eyy8.symm))
    have Iy8 : ir y8 := by rw [eyy8]; exact g7
    clear exy8
    exact hk10 _ _ _ hJ Ey8 Iy8 hv
  · have hv := hv.2 (fun q => cq ((zle Ey6 (by decide : (0 : Int32) = zi 0) Iy6 (by decide : ir 0)).mpr q))
    obtain ⟨g9, hv⟩ := hv
    refine ⟨zvp (rfl : zi a1 = zi a1) ia1 g9.1 g9.2, ?_⟩
    obtain ⟨g10, hv⟩ := hv
    intro xy11 exy11
    obtain ⟨y11, eyy11⟩ : ∃ q9 : Int, q9 = ((J (oh + 3) a1.toNat) + y6) := ⟨_, rfl⟩
    have hv := hv y11 eyy11
    have Ey11 : xy11 = zi y11 := exy11.trans (((za (zrd (rfl : zi a1 = zi a1) ia1 g9.1) Ey6)).trans (congrArg zi eyy11.symm))
    have Iy11 : ir y11 := by rw [eyy11]; exact g10
    clear exy11
    obtain ⟨g12, hv⟩ := hv
    refine ⟨zvp (rfl : zi v2 = zi v2) iv2 g12.1 g12.2, ?_⟩
    obtain ⟨g13, hv⟩ := hv
    obtain ⟨g14, hv⟩ := hv
    refine ⟨zvp (z_max (by decide : (0 : Int32) = zi 0) (zs (zrd (rfl : zi v2 = zi v2) iv2 g12.1) Ey11) (by decide : ir 0) g13) (ir_max (by decide : ir 0) g13) g14.1 g14.2, ?_⟩
    obtain ⟨g15, hv⟩ := hv
    obtain ⟨g16, hv⟩ := hv
    refine ⟨zvp (z_max (by decide : (0 : Int32) = zi 0) (zs (zrd (rfl : zi v2 = zi v2) iv2 g12.1) Ey11) (by decide : ir 0) g13) (ir_max (by decide : ir 0) g13) g16.1 g16.2, ?_⟩
    intro I1 eI1
    obtain ⟨J17, eJ17⟩ : ∃ q9 : mJ, q9 = up2 J (o + 11) ((maxZ 0 ((J (o + 2) v2.toNat) - y11)).toNat) ((J (o + 11) (maxZ 0 ((J (o + 2) v2.toNat) - y11)).toNat) + 1) := ⟨_, rfl⟩
    have eI1 : I1 = zz J17 := by rw [eI1, eJ17]; exact zupa (z_max (by decide : (0 : Int32) = zi 0) (zs (zrd (rfl : zi v2 = zi v2) iv2 g12.1) Ey11) (by decide : ir 0) g13) (ir_max (by decide : ir 0) g13) g16.1 (za (zrd (z_max (by decide : (0 : Int32) = zi 0) (zs (zrd (rfl : zi v2 = zi v2) iv2 g12.1) Ey11) (by decide : ir 0) g13) (ir_max (by decide : ir 0) g13) g14.1) (by decide : (1 : Int32) = zi 1))
    subst eI1
    have hv := hv J17 eJ17
    have hJ : irm J17 := by rw [eJ17]; exact irm_up hJ g15
    obtain ⟨g18, hv⟩ := hv
    refine ⟨zvp (rfl : zi v2 = zi v2) iv2 g18.1 g18.2, ?_⟩
    obtain ⟨g19, hv⟩ := hv
    obtain ⟨g20, hv⟩ := hv
    obtain ⟨g21, hv⟩ := hv
    refine ⟨zvp (z_min zrf (za (za (zrd (rfl : zi v2 = zi v2) iv2 g18.1) Ey11) (by decide : (1 : Int32) = zi 1)) (hJ _ _) g20) (ir_min (hJ _ _) g20) g21.1 g21.2, ?_⟩
    obtain ⟨g22, hv⟩ := hv
    obtain ⟨g23, hv⟩ := hv
    refine ⟨zvp (z_min zrf (za (za (zrd (rfl : zi v2 = zi v2) iv2 g18.1) Ey11) (by decide : (1 : Int32) = zi 1)) (hJ _ _) g20) (ir_min (hJ _ _) g20) g23.1 g23.2, ?_⟩
    intro I1 eI1
    obtain ⟨J24, eJ24⟩ : ∃ q9 : mJ, q9 = up2 J17 (o + 11) ((minZ (J17 oh 0) (((J17 (o + 2) v2.toNat) + y11) + 1)).toNat) ((J17 (o + 11) (minZ (J17 oh 0) (((J17 (o + 2) v2.toNat) + y11) + 1)).toNat) - 1) := ⟨_, rfl⟩
    have eI1 : I1 = zz J24 := by rw [eI1, eJ24]; exact zupa (z_min zrf (za (za (zrd (rfl : zi v2 = zi v2) iv2 g18.1) Ey11) (by decide : (1 : Int32) = zi 1)) (hJ _ _) g20) (ir_min (hJ _ _) g20) g23.1 (zs (zrd (z_min zrf (za (za (zrd (rfl : zi v2 = zi v2) iv2 g18.1) Ey11) (by decide : (1 : Int32) = zi 1)) (hJ _ _) g20) (ir_min (hJ _ _) g20) g21.1) (by decide : (1 : Int32) = zi 1))
    subst eI1
    have hv := hv J24 eJ24
    have hJ : irm J24 := by rw [eJ24]; exact irm_up hJ g22
    obtain ⟨g25, hv⟩ := hv
    intro xy26 exy26
    obtain ⟨y26, eyy26⟩ : ∃ q9 : Int, q9 = v2 + 1 := ⟨_, rfl⟩
    have hv := hv y26 eyy26
    have Ey26 : xy26 = zi y26 := exy26.trans (((za (rfl : zi v2 = zi v2) (by decide : (1 : Int32) = zi 1))).trans (congrArg zi eyy26.symm))
    have Iy26 : ir y26 := by rw [eyy26]; exact g25
    clear exy26
    exact hk10 _ _ _ hJ Ey26 Iy26 hv
def v_X2_quietestStep_10 (o : Nat) (oh : Nat) (a1 : Int) (post' : Int → mJ → Prop) (k130' : mJ → Prop) (J : mJ) (v2 : Int) : Prop := ∀ ZZ : (mJ → Int → Prop), (∀ (J : mJ) (v2 : Int), (((J o 2) ≤ v2 → k130' J) ∧ (¬ (J o 2) ≤ v2 → (0 ≤ v2 ∧ v2 < 600) ∧ (0 ≤ v2 ∧ v2 < 600) ∧ (¬ (J (o + 6) v2.toNat) = (-1) → (0 ≤ v2 ∧ v2 < 600) ∧ (0 ≤ (J (o + 6) v2.toNat) ∧ (J (o + 6) v2.toNat) < 600) ∧ (v_X2_quietestStep_51 o oh a1 post' ZZ) J v2 (J (o + 5) v2.toNat) (divZ (J (o + 5) (J (o + 6) v2.toNat).toNat) 2)) ∧ ((J (o + 6) v2.toNat) = (-1) → (v_X2_quietestStep_51 o oh a1 post' ZZ) J v2 (J (o + 5) v2.toNat) 0))) → ZZ J v2) → ZZ J v2
theorem vw_X2_quietestStep_10 {o : Nat} {oh : Nat} {a1 : Int}  (ia1 : ir a1) {post : Int32 → mI → Prop} {post' : Int → mJ → Prop} {k130' : mJ → Prop} {k130 : mI → Prop} (hp : ∀ (x : Int32) (r : Int) (J1 : mJ), x = zi r → ir r → irm J1 → post' r J1 → post x (zz J1)) (hk130 : ∀ (J : mJ), irm J → k130' J → k130 (zz J)) {J : mJ} {xv2 : Int32} {v2 : Int} (hJ : irm J) (ev2 : xv2 = zi v2) (iv2 : ir v2) (hv : v_X2_quietestStep_10 o oh a1 post' k130' J v2) : w_X2_quietestStep_10 o oh (zi a1) post k130 (zz J) xv2 := by
  subst ev2
  unfold v_X2_quietestStep_10 at hv
  unfold w_X2_quietestStep_10
  intro ZZ hZ
  refine hv (fun J v2 => ∀ (xv2 : Int32), irm J → xv2 = zi v2 → ir v2 → ZZ (zz J) xv2) ?_ _ hJ rfl iv2
  clear hv hJ iv2
  intro J v2 hv xv2 hJ ev2 iv2
  subst ev2
  refine hZ _ _ ?_
  refine ⟨fun cq => ?_, fun cq => ?_⟩
  · have hv := hv.1 ((zle zrf (rfl : zi v2 = zi v2) (hJ _ _) iv2).mp cq)
    exact hk130 _ hJ hv
  · have hv := hv.2 (fun q => cq ((zle zrf (rfl : zi v2 = zi v2) (hJ _ _) iv2).mpr q))
    obtain ⟨g2, hv⟩ := hv
    refine ⟨zvp (rfl : zi v2 = zi v2) iv2 g2.1 g2.2, ?_⟩
    obtain ⟨g3, hv⟩ := hv
    refine ⟨zvp (rfl : zi v2 = zi v2) iv2 g3.1 g3.2, ?_⟩
    refine ⟨fun cq => ?_, fun cq => ?_⟩
    · have hv := hv.1 (fun q => cq ((zeq (zrd (rfl : zi v2 = zi v2) iv2 g3.1) (by decide : ((-1) : Int32) = zi (-1)) (hJ _ _) (by decide : ir (-1))).mpr q))
      obtain ⟨g4, hv⟩ := hv
      refine ⟨zvp (rfl : zi v2 = zi v2) iv2 g4.1 g4.2, ?_⟩
      obtain ⟨g5, hv⟩ := hv
      refine ⟨zvp (zrd (rfl : zi v2 = zi v2) iv2 g4.1) (hJ _ _) g5.1 g5.2, ?_⟩
      refine vw_X2_quietestStep_51 ia1 hp ?_ hJ (rfl : zi v2 = zi v2) iv2 (zrd (rfl : zi v2 = zi v2) iv2 g2.1) (hJ _ _) (z_div (zrd (zrd (rfl : zi v2 = zi v2) iv2 g4.1) (hJ _ _) g5.1) (by decide : (2 : Int32) = zi 2)) (ir_toInt _) hv
      · intro qq xx vv hJ ev2 iv2 hv
        exact hv _ hJ ev2 iv2
    · have hv := hv.2 ((zeq (zrd (rfl : zi v2 = zi v2) iv2 g3.1) (by decide : ((-1) : Int32) = zi (-1)) (hJ _ _) (by decide : ir (-1))).mp cq)
      refine vw_X2_quietestStep_51 ia1 hp ?_ hJ (rfl : zi v2 = zi v2) iv2 (zrd (rfl : zi v2 = zi v2) iv2 g2.1) (hJ _ _) (by decide : (0 : Int32) = zi 0) (by decide : ir 0) hv
      · intro qq xx vv hJ ev2 iv2 hv
        exact hv _ hJ ev2 iv2
def v_X2_quietestStep_145 (o : Nat) (oh : Nat) (a1 : Int) (post' : Int → mJ → Prop) (J : mJ) (v2 : Int) (v3 : Int) (v4 : Int) (v5 : Int) : Prop := ∀ ZZ : (mJ → Int → Int → Int → Int → Prop), (∀ (J : mJ) (v2 : Int) (v3 : Int) (v4 : Int) (v5 : Int), (((J oh 0) ≤ v5 → post' v4 J) ∧ (¬ (J oh 0) ≤ v5 → (0 ≤ v5 ∧ v5 < 25) ∧ ir (v2 + (J (o + 11) v5.toNat)) ∧ ∀ y31, y31 = (v2 + (J (o + 11) v5.toNat)) → (v3 ≤ y31 → ir (v5 + 1) ∧ ∀ y33, y33 = v5 + 1 → ZZ J y31 v3 v4 y33) ∧ (¬ v3 ≤ y31 → ir (v5 + 1) ∧ ∀ y35, y35 = v5 + 1 → ZZ J y31 y31 v5 y35))) → ZZ J v2 v3 v4 v5) → ZZ J v2 v3 v4 v5
theorem vw_X2_quietestStep_145 {o : Nat} {oh : Nat} {a1 : Int}  (ia1 : ir a1) {post : Int32 → mI → Prop} {post' : Int → mJ → Prop} (hp : ∀ (x : Int32) (r : Int) (J1 : mJ), x = zi r → ir r → irm J1 → post' r J1 → post x (zz J1)) {J : mJ} {xv2 : Int32} {v2 : Int} {xv3 : Int32} {v3 : Int} {xv4 : Int32} {v4 : Int} {xv5 : Int32} {v5 : Int} (hJ : irm J) (ev2 : xv2 = zi v2) (iv2 : ir v2) (ev3 : xv3 = zi v3) (iv3 : ir v3) (ev4 : xv4 = zi v4) (iv4 : ir v4) (ev5 : xv5 = zi v5) (iv5 : ir v5) (hv : v_X2_quietestStep_145 o oh a1 post' J v2 v3 v4 v5) : w_X2_quietestStep_145 o oh (zi a1) post (zz J) xv2 xv3 xv4 xv5 := by
  subst ev2
  subst ev3
  subst ev4
  subst ev5
  unfold v_X2_quietestStep_145 at hv
  unfold w_X2_quietestStep_145
  intro ZZ hZ
  refine hv (fun J v2 v3 v4 v5 => ∀ (xv2 : Int32) (xv3 : Int32) (xv4 : Int32) (xv5 : Int32), irm J → xv2 = zi v2 → ir v2 → xv3 = zi v3 → ir v3 → xv4 = zi v4 → ir v4 → xv5 = zi v5 → ir v5 → ZZ (zz J) xv2 xv3 xv4 xv5) ?_ _ _ _ _ hJ rfl iv2 rfl iv3 rfl iv4 rfl iv5
  clear hv hJ iv2 iv3 iv4 iv5
  intro J v2 v3 v4 v5 hv xv2 xv3 xv4 xv5 hJ ev2 iv2 ev3 iv3 ev4 iv4 ev5 iv5
  subst ev2
  subst ev3
  subst ev4
  subst ev5
  refine hZ _ _ _ _ _ ?_
  refine ⟨fun cq => ?_, fun cq => ?_⟩
  · have hv := hv.1 ((zle zrf (rfl : zi v5 = zi v5) (hJ _ _) iv5).mp cq)
    exact hp _ _ _ (rfl : zi v4 = zi v4) iv4 hJ hv
  · have hv := hv.2 (fun q => cq ((zle zrf (rfl : zi v5 = zi v5) (hJ _ _) iv5).mpr q))
    obtain ⟨g29, hv⟩ := hv
    refine ⟨zvp (rfl : zi v5 = zi v5) iv5 g29.1 g29.2, ?_⟩
    obtain ⟨g30, hv⟩ := hv
    intro xy31 exy31
    obtain ⟨y31, eyy31⟩ : ∃ q9 : Int, q9 = (v2 + (J (o + 11) v5.toNat)) := ⟨_, rfl⟩
    have hv := hv y31 eyy31
    have Ey31 : xy31 = zi y31 := exy31.trans (((za (rfl : zi v2 = zi v2) (zrd (rfl : zi v5 = zi v5) iv5 g29.1))).trans (congrArg zi eyy31.symm))
    have Iy31 : ir y31 := by rw [eyy31]; exact g30
    clear exy31
    refine ⟨fun cq => ?_, fun cq => ?_⟩
    · have hv := hv.1 ((zle (rfl : zi v3 = zi v3) Ey31 iv3 Iy31).mp cq)
      obtain ⟨g32, hv⟩ := hv
      intro xy33 exy33
      obtain ⟨y33, eyy33⟩ : ∃ q9 : Int, q9 = v5 + 1 := ⟨_, rfl⟩
      have hv := hv y33 eyy33
      have Ey33 : xy33 = zi y33 := exy33.trans (((za (rfl : zi v5 = zi v5) (by decide : (1 : Int32) = zi 1))).trans (congrArg zi eyy33.symm))
      have Iy33 : ir y33 := by rw [eyy33]; exact g32
      clear exy33
      exact hv _ _ _ _ hJ Ey31 Iy31 (rfl : zi v3 = zi v3) iv3 (rfl : zi v4 = zi v4) iv4 Ey33 Iy33
    · have hv := hv.2 (fun q => cq ((zle (rfl : zi v3 = zi v3) Ey31 iv3 Iy31).mpr q))
      obtain ⟨g34, hv⟩ := hv
      intro xy35 exy35
      obtain ⟨y35, eyy35⟩ : ∃ q9 : Int, q9 = v5 + 1 := ⟨_, rfl⟩
      have hv := hv y35 eyy35
      have Ey35 : xy35 = zi y35 := exy35.trans (((za (rfl : zi v5 = zi v5) (by decide : (1 : Int32) = zi 1))).trans (congrArg zi eyy35.symm))
      have Iy35 : ir y35 := by rw [eyy35]; exact g34
      clear exy35
      exact hv _ _ _ _ hJ Ey31 Iy31 Ey31 Iy31 (rfl : zi v5 = zi v5) iv5 Ey35 Iy35
def v_X2_quietestStep_130 (o : Nat) (oh : Nat) (a1 : Int) (post' : Int → mJ → Prop) (J : mJ) : Prop := ∀ y28, y28 = (J (o + 11) 0) → (v_X2_quietestStep_145 o oh a1 post') J y28 y28 0 1
theorem vw_X2_quietestStep_130 {o : Nat} {oh : Nat} {a1 : Int}  (ia1 : ir a1) {post : Int32 → mI → Prop} {post' : Int → mJ → Prop} (hp : ∀ (x : Int32) (r : Int) (J1 : mJ), x = zi r → ir r → irm J1 → post' r J1 → post x (zz J1)) {J : mJ} (hJ : irm J) (hv : v_X2_quietestStep_130 o oh a1 post' J) : w_X2_quietestStep_130 o oh (zi a1) post (zz J) := by
  unfold v_X2_quietestStep_130 at hv
  unfold w_X2_quietestStep_130
  intro xy28 exy28
  obtain ⟨y28, eyy28⟩ : ∃ q9 : Int, q9 = (J (o + 11) 0) := ⟨_, rfl⟩
  have hv := hv y28 eyy28
  have Ey28 : xy28 = zi y28 := exy28.trans (((zrd (by decide : (0 : Int32) = zi 0) (by decide : ir 0) (by decide))).trans (congrArg zi eyy28.symm))
  have Iy28 : ir y28 := by rw [eyy28]; exact (hJ _ _)
  clear exy28
  exact vw_X2_quietestStep_145 ia1 hp hJ Ey28 Iy28 Ey28 Iy28 (by decide : (0 : Int32) = zi 0) (by decide : ir 0) (by decide : (1 : Int32) = zi 1) (by decide : ir 1) hv
def v_X2_quietestStep (J : mJ) (o : Nat) (oh : Nat) (a1 : Int) (post' : Int → mJ → Prop) : Prop := v_J7_fill_53178 J (o + 11) 25 0 (fun J1 => (v_X2_quietestStep_10 o oh a1 post' (v_X2_quietestStep_130 o oh a1 post')) J1 0)
theorem vw_X2_quietestStep {J : mJ} {o : Nat} {oh : Nat} {xa1 : Int32} {a1 : Int} (hJ : irm J)    (ea1 : xa1 = zi a1) (ia1 : ir a1) {post : Int32 → mI → Prop} {post' : Int → mJ → Prop} (hp : ∀ (x : Int32) (r : Int) (J1 : mJ), x = zi r → ir r → irm J1 → post' r J1 → post x (zz J1)) (hv : v_X2_quietestStep J o oh a1 post') : w_X2_quietestStep (zz J) o oh xa1 post := by
  subst ea1
  unfold v_X2_quietestStep at hv
  unfold w_X2_quietestStep
  refine vw_J7_fill_53178 hJ (by decide : (0 : Int32) = zi 0) (by decide : ir 0) (fun J1 hJ hv => ?_) hv
  refine vw_X2_quietestStep_10 ia1 hp ?_ hJ (by decide : (0 : Int32) = zi 0) (by decide : ir 0) hv
  · intro qq hJ hv
    exact vw_X2_quietestStep_130 ia1 hp hJ hv
def v_X2_isUnheardIn_2 (J : mJ) (o : Nat) (oh : Nat) (a1 : Int) (a2 : Int) (post' : Bool → Prop) (v3 : Int) : Prop := ∀ ZZ : (Int → Prop), (∀ (v3 : Int), (((J o 2) ≤ v3 → post' true) ∧ (¬ (J o 2) ≤ v3 → (0 ≤ v3 ∧ v3 < 600) ∧ (¬ (J (o + 1) v3.toNat) = a1 → ir (v3 + 1) ∧ ∀ y3, y3 = v3 + 1 → ZZ y3) ∧ ((J (o + 1) v3.toNat) = a1 → (0 ≤ v3 ∧ v3 < 600) ∧ (0 ≤ v3 ∧ v3 < 600) ∧ v_X3_loudOf J oh a1 (J (o + 2) v3.toNat) a2 (fun r6 => v_X2_hearers J o oh (J (o + 2) v3.toNat) r6 (fun r7 => (r7 = 0 → ir (v3 + 1) ∧ ∀ y9, y9 = v3 + 1 → ZZ y9) ∧ (¬ r7 = 0 → post' false)))))) → ZZ v3) → ZZ v3
theorem vw_X2_isUnheardIn_2 {J : mJ} {o : Nat} {oh : Nat} {a1 : Int} {a2 : Int} (hJ : irm J) (ia1 : ir a1) (ia2 : ir a2) {post : Bool → Prop} {post' : Bool → Prop} (hp : ∀ (r : Bool), post' r → post r) {xv3 : Int32} {v3 : Int} (ev3 : xv3 = zi v3) (iv3 : ir v3) (hv : v_X2_isUnheardIn_2 J o oh a1 a2 post' v3) : w_X2_isUnheardIn_2 (zz J) o oh (zi a1) (zi a2) post xv3 := by
  subst ev3
  unfold v_X2_isUnheardIn_2 at hv
  unfold w_X2_isUnheardIn_2
  intro ZZ hZ
  refine hv (fun v3 => ∀ (xv3 : Int32), xv3 = zi v3 → ir v3 → ZZ xv3) ?_ _ rfl iv3
  clear hv iv3
  intro v3 hv xv3 ev3 iv3
  subst ev3
  refine hZ _ ?_
  refine ⟨fun cq => ?_, fun cq => ?_⟩
  · have hv := hv.1 ((zle zrf (rfl : zi v3 = zi v3) (hJ _ _) iv3).mp cq)
    exact hp _ hv
  · have hv := hv.2 (fun q => cq ((zle zrf (rfl : zi v3 = zi v3) (hJ _ _) iv3).mpr q))
    obtain ⟨g1, hv⟩ := hv
    refine ⟨zvp (rfl : zi v3 = zi v3) iv3 g1.1 g1.2, ?_⟩
    refine ⟨fun cq => ?_, fun cq => ?_⟩
    · have hv := hv.1 (fun q => cq ((zeq (zrd (rfl : zi v3 = zi v3) iv3 g1.1) (rfl : zi a1 = zi a1) (hJ _ _) ia1).mpr q))
      obtain ⟨g2, hv⟩ := hv
      intro xy3 exy3
      obtain ⟨y3, eyy3⟩ : ∃ q9 : Int, q9 = v3 + 1 := ⟨_, rfl⟩
      have hv := hv y3 eyy3
      have Ey3 : xy3 = zi y3 := exy3.trans (((za (rfl : zi v3 = zi v3) (by decide : (1 : Int32) = zi 1))).trans (congrArg zi eyy3.symm))
      have Iy3 : ir y3 := by rw [eyy3]; exact g2
      clear exy3
      exact hv _ Ey3 Iy3
    · have hv := hv.2 ((zeq (zrd (rfl : zi v3 = zi v3) iv3 g1.1) (rfl : zi a1 = zi a1) (hJ _ _) ia1).mp cq)
      obtain ⟨g4, hv⟩ := hv
      refine ⟨zvp (rfl : zi v3 = zi v3) iv3 g4.1 g4.2, ?_⟩
      obtain ⟨g5, hv⟩ := hv
      refine ⟨zvp (rfl : zi v3 = zi v3) iv3 g5.1 g5.2, ?_⟩
      refine vw_X3_loudOf hJ (rfl : zi a1 = zi a1) ia1 (zrd (rfl : zi v3 = zi v3) iv3 g5.1) (hJ _ _) (rfl : zi a2 = zi a2) ia2 (fun xr6 r6 Er6 Ir6 hv => ?_) hv
      refine vw_X2_hearers hJ (zrd (rfl : zi v3 = zi v3) iv3 g4.1) (hJ _ _) Er6 Ir6 (fun xr7 r7 Er7 Ir7 hv => ?_) hv
      refine ⟨fun cq => ?_, fun cq => ?_⟩
      · have hv := hv.1 ((zeq Er7 (by decide : (0 : Int32) = zi 0) Ir7 (by decide : ir 0)).mp cq)
        obtain ⟨g8, hv⟩ := hv
        intro xy9 exy9
        obtain ⟨y9, eyy9⟩ : ∃ q9 : Int, q9 = v3 + 1 := ⟨_, rfl⟩
        have hv := hv y9 eyy9
        have Ey9 : xy9 = zi y9 := exy9.trans (((za (rfl : zi v3 = zi v3) (by decide : (1 : Int32) = zi 1))).trans (congrArg zi eyy9.symm))
        have Iy9 : ir y9 := by rw [eyy9]; exact g8
        clear exy9
        exact hv _ Ey9 Iy9
      · have hv := hv.2 (fun q => cq ((zeq Er7 (by decide : (0 : Int32) = zi 0) Ir7 (by decide : ir 0)).mpr q))
        exact hp _ hv
def v_X2_isUnheardIn (J : mJ) (o : Nat) (oh : Nat) (a1 : Int) (a2 : Int) (post' : Bool → Prop) : Prop := (v_X2_isUnheardIn_2 J o oh a1 a2 post') 0
theorem vw_X2_isUnheardIn {J : mJ} {o : Nat} {oh : Nat} {xa1 : Int32} {a1 : Int} {xa2 : Int32} {a2 : Int} (hJ : irm J)    (ea1 : xa1 = zi a1) (ia1 : ir a1) (ea2 : xa2 = zi a2) (ia2 : ir a2) {post : Bool → Prop} {post' : Bool → Prop} (hp : ∀ (r : Bool), post' r → post r) (hv : v_X2_isUnheardIn J o oh a1 a2 post') : w_X2_isUnheardIn (zz J) o oh xa1 xa2 post := by
  subst ea1
  subst ea2
  unfold v_X2_isUnheardIn at hv
  unfold w_X2_isUnheardIn
  exact vw_X2_isUnheardIn_2 hJ ia1 ia2 hp (by decide : (0 : Int32) = zi 0) (by decide : ir 0) hv
def v_X2_loudestUnheardShoe_3 (J : mJ) (o : Nat) (oh : Nat) (a1 : Int) (post' : Int → Prop) (v2 : Int) : Prop := ∀ ZZ : (Int → Prop), (∀ (v2 : Int), ((v2 < 0 → post' (-1)) ∧ (¬ v2 < 0 → v_X2_isUnheardIn J o oh a1 v2 (fun b1 => (b1 = false → ir (v2 + (-1)) ∧ ∀ y3, y3 = v2 + (-1) → ZZ y3) ∧ (b1 = true → post' v2)))) → ZZ v2) → ZZ v2
theorem vw_X2_loudestUnheardShoe_3 {J : mJ} {o : Nat} {oh : Nat} {a1 : Int} (hJ : irm J) (ia1 : ir a1) {post : Int32 → Prop} {post' : Int → Prop} (hp : ∀ (x : Int32) (r : Int), x = zi r → ir r → post' r → post x) {xv2 : Int32} {v2 : Int} (ev2 : xv2 = zi v2) (iv2 : ir v2) (hv : v_X2_loudestUnheardShoe_3 J o oh a1 post' v2) : w_X2_loudestUnheardShoe_3 (zz J) o oh (zi a1) post xv2 := by
  subst ev2
  unfold v_X2_loudestUnheardShoe_3 at hv
  unfold w_X2_loudestUnheardShoe_3
  intro ZZ hZ
  refine hv (fun v2 => ∀ (xv2 : Int32), xv2 = zi v2 → ir v2 → ZZ xv2) ?_ _ rfl iv2
  clear hv iv2
  intro v2 hv xv2 ev2 iv2
  subst ev2
  refine hZ _ ?_
  refine ⟨fun cq => ?_, fun cq => ?_⟩
  · have hv := hv.1 ((zlt (rfl : zi v2 = zi v2) (by decide : (0 : Int32) = zi 0) iv2 (by decide : ir 0)).mp cq)
    exact hp _ _ (by decide : ((-1) : Int32) = zi (-1)) (by decide : ir (-1)) hv
  · have hv := hv.2 (fun q => cq ((zlt (rfl : zi v2 = zi v2) (by decide : (0 : Int32) = zi 0) iv2 (by decide : ir 0)).mpr q))
    refine vw_X2_isUnheardIn hJ (rfl : zi a1 = zi a1) ia1 (rfl : zi v2 = zi v2) iv2 (fun b1  hv => ?_) hv
    refine ⟨fun cq => ?_, fun cq => ?_⟩
    · have hv := hv.1 cq
      obtain ⟨g2, hv⟩ := hv
      intro xy3 exy3
      obtain ⟨y3, eyy3⟩ : ∃ q9 : Int, q9 = v2 + (-1) := ⟨_, rfl⟩
      have hv := hv y3 eyy3
      have Ey3 : xy3 = zi y3 := exy3.trans (((za (rfl : zi v2 = zi v2) (by decide : ((-1) : Int32) = zi (-1)))).trans (congrArg zi eyy3.symm))
      have Iy3 : ir y3 := by rw [eyy3]; exact g2
      clear exy3
      exact hv _ Ey3 Iy3
    · have hv := hv.2 cq
      exact hp _ _ (rfl : zi v2 = zi v2) iv2 hv
def v_X2_loudestUnheardShoe (J : mJ) (o : Nat) (oh : Nat) (a1 : Int) (post' : Int → Prop) : Prop := (v_X2_loudestUnheardShoe_3 J o oh a1 post') 9
theorem vw_X2_loudestUnheardShoe {J : mJ} {o : Nat} {oh : Nat} {xa1 : Int32} {a1 : Int} (hJ : irm J)    (ea1 : xa1 = zi a1) (ia1 : ir a1) {post : Int32 → Prop} {post' : Int → Prop} (hp : ∀ (x : Int32) (r : Int), x = zi r → ir r → post' r → post x) (hv : v_X2_loudestUnheardShoe J o oh a1 post') : w_X2_loudestUnheardShoe (zz J) o oh xa1 post := by
  subst ea1
  unfold v_X2_loudestUnheardShoe at hv
  unfold w_X2_loudestUnheardShoe
  exact vw_X2_loudestUnheardShoe_3 hJ ia1 hp (by decide : (9 : Int32) = zi 9) (by decide : ir 9) hv
def v_X3_clear (J : mJ) (o : Nat) (post' : mJ → Prop) : Prop := ∀ J1, J1 = up2 J o 0 12 → ∀ J2, J2 = up2 J1 o 1 60 → ∀ J3, J3 = up2 J2 o 2 0 → ∀ J4, J4 = up2 J3 o 3 0 → ∀ J5, J5 = up2 J4 o 4 0 → v_J7_fill_53178 J5 (o + 1) 24 0 (fun J6 => v_J7_fill_53178 J6 (o + 7) 6 (-1) (fun J7 => v_J7_fill_53178 J7 (o + 8) 6 (-1) (fun J8 => v_J7_fill_53178 J8 (o + 9) 6 0 (fun J9 => post' J9))))
theorem vw_X3_clear {J : mJ} {o : Nat} (hJ : irm J)   {post : mI → Prop} {post' : mJ → Prop} (hp : ∀ (J1 : mJ), irm J1 → post' J1 → post (zz J1)) (hv : v_X3_clear J o post') : w_X3_clear (zz J) o post := by
  unfold v_X3_clear at hv
  unfold w_X3_clear
  intro I1 eI1
  obtain ⟨J1, eJ1⟩ : ∃ q9 : mJ, q9 = up2 J o 0 12 := ⟨_, rfl⟩
  have eI1 : I1 = zz J1 := by rw [eI1, eJ1]; exact zup (by decide : (12 : Int32) = zi 12)
  subst eI1
  have hv := hv J1 eJ1
  have hJ : irm J1 := by rw [eJ1]; exact irm_up hJ (by decide : ir 12)
  intro I1 eI1
  obtain ⟨J2, eJ2⟩ : ∃ q9 : mJ, q9 = up2 J1 o 1 60 := ⟨_, rfl⟩
  have eI1 : I1 = zz J2 := by rw [eI1, eJ2]; exact zup (by decide : (60 : Int32) = zi 60)
  subst eI1
  have hv := hv J2 eJ2
  have hJ : irm J2 := by rw [eJ2]; exact irm_up hJ (by decide : ir 60)
  intro I1 eI1
  obtain ⟨J3, eJ3⟩ : ∃ q9 : mJ, q9 = up2 J2 o 2 0 := ⟨_, rfl⟩
  have eI1 : I1 = zz J3 := by rw [eI1, eJ3]; exact zup (by decide : (0 : Int32) = zi 0)
  subst eI1
  have hv := hv J3 eJ3
  have hJ : irm J3 := by rw [eJ3]; exact irm_up hJ (by decide : ir 0)
  intro I1 eI1
  obtain ⟨J4, eJ4⟩ : ∃ q9 : mJ, q9 = up2 J3 o 3 0 := ⟨_, rfl⟩
  have eI1 : I1 = zz J4 := by rw [eI1, eJ4]; exact zup (by decide : (0 : Int32) = zi 0)
  subst eI1
  have hv := hv J4 eJ4
  have hJ : irm J4 := by rw [eJ4]; exact irm_up hJ (by decide : ir 0)
  intro I1 eI1
  obtain ⟨J5, eJ5⟩ : ∃ q9 : mJ, q9 = up2 J4 o 4 0 := ⟨_, rfl⟩
  have eI1 : I1 = zz J5 := by rw [eI1, eJ5]; exact zup (by decide : (0 : Int32) = zi 0)
  subst eI1
  have hv := hv J5 eJ5
  have hJ : irm J5 := by rw [eJ5]; exact irm_up hJ (by decide : ir 0)
  refine vw_J7_fill_53178 hJ (by decide : (0 : Int32) = zi 0) (by decide : ir 0) (fun J6 hJ hv => ?_) hv
  refine vw_J7_fill_53178 hJ (by decide : ((-1) : Int32) = zi (-1)) (by decide : ir (-1)) (fun J7 hJ hv => ?_) hv
  refine vw_J7_fill_53178 hJ (by decide : ((-1) : Int32) = zi (-1)) (by decide : ir (-1)) (fun J8 hJ hv => ?_) hv
  refine vw_J7_fill_53178 hJ (by decide : (0 : Int32) = zi 0) (by decide : ir 0) (fun J9 hJ hv => ?_) hv
  exact hp _ hJ hv
def v_X3_copyFrom (J : mJ) (o : Nat) (a1 : Nat) (post' : mJ → Prop) : Prop := ∀ J1, J1 = up2 J o 0 (J a1 0) → ∀ J2, J2 = up2 J1 o 1 (J1 a1 1) → ∀ J3, J3 = up2 J2 o 2 (J2 a1 2) → ∀ J4, J4 = up2 J3 o 3 (J3 a1 3) → ∀ J5, J5 = up2 J4 o 4 (J4 a1 4) → ((a1 + 1) ≠ (o + 1) ∧ (0 : Int) ≤ 0 ∧ (0 : Int) ≤ 0 ∧ (0 : Int) ≤ 24 ∧ 0 + 24 ≤ 24 ∧ 0 + 24 ≤ 24) ∧ ∀ J7, J7 = cpyZ J5 (a1 + 1) (o + 1) 0 0 24 → ((a1 + 2) ≠ (o + 2) ∧ (0 : Int) ≤ 0 ∧ (0 : Int) ≤ 0 ∧ (0 : Int) ≤ 6 ∧ 0 + 6 ≤ 6 ∧ 0 + 6 ≤ 6) ∧ ∀ J9, J9 = cpyZ J7 (a1 + 2) (o + 2) 0 0 6 → ((a1 + 3) ≠ (o + 3) ∧ (0 : Int) ≤ 0 ∧ (0 : Int) ≤ 0 ∧ (0 : Int) ≤ 6 ∧ 0 + 6 ≤ 6 ∧ 0 + 6 ≤ 6) ∧ ∀ J11, J11 = cpyZ J9 (a1 + 3) (o + 3) 0 0 6 → ((a1 + 4) ≠ (o + 4) ∧ (0 : Int) ≤ 0 ∧ (0 : Int) ≤ 0 ∧ (0 : Int) ≤ 6 ∧ 0 + 6 ≤ 6 ∧ 0 + 6 ≤ 6) ∧ ∀ J13, J13 = cpyZ J11 (a1 + 4) (o + 4) 0 0 6 → ((a1 + 5) ≠ (o + 5) ∧ (0 : Int) ≤ 0 ∧ (0 : Int) ≤ 0 ∧ (0 : Int) ≤ 6 ∧ 0 + 6 ≤ 6 ∧ 0 + 6 ≤ 6) ∧ ∀ J15, J15 = cpyZ J13 (a1 + 5) (o + 5) 0 0 6 → ((a1 + 6) ≠ (o + 6) ∧ (0 : Int) ≤ 0 ∧ (0 : Int) ≤ 0 ∧ (0 : Int) ≤ 6 ∧ 0 + 6 ≤ 6 ∧ 0 + 6 ≤ 6) ∧ ∀ J17, J17 = cpyZ J15 (a1 + 6) (o + 6) 0 0 6 → ((a1 + 7) ≠ (o + 7) ∧ (0 : Int) ≤ 0 ∧ (0 : Int) ≤ 0 ∧ (0 : Int) ≤ 6 ∧ 0 + 6 ≤ 6 ∧ 0 + 6 ≤ 6) ∧ ∀ J19, J19 = cpyZ J17 (a1 + 7) (o + 7) 0 0 6 → ((a1 + 8) ≠ (o + 8) ∧ (0 : Int) ≤ 0 ∧ (0 : Int) ≤ 0 ∧ (0 : Int) ≤ 6 ∧ 0 + 6 ≤ 6 ∧ 0 + 6 ≤ 6) ∧ ∀ J21, J21 = cpyZ J19 (a1 + 8) (o + 8) 0 0 6 → ((a1 + 9) ≠ (o + 9) ∧ (0 : Int) ≤ 0 ∧ (0 : Int) ≤ 0 ∧ (0 : Int) ≤ 6 ∧ 0 + 6 ≤ 6 ∧ 0 + 6 ≤ 6) ∧ ∀ J23, J23 = cpyZ J21 (a1 + 9) (o + 9) 0 0 6 → ((a1 + 10) ≠ (o + 10) ∧ (0 : Int) ≤ 0 ∧ (0 : Int) ≤ 0 ∧ (0 : Int) ≤ 48 ∧ 0 + 48 ≤ 48 ∧ 0 + 48 ≤ 48) ∧ ∀ J25, J25 = cpyZ J23 (a1 + 10) (o + 10) 0 0 48 → ((a1 + 11) ≠ (o + 11) ∧ (0 : Int) ≤ 0 ∧ (0 : Int) ≤ 0 ∧ (0 : Int) ≤ 8 ∧ 0 + 8 ≤ 8 ∧ 0 + 8 ≤ 8) ∧ ∀ J27, J27 = cpyZ J25 (a1 + 11) (o + 11) 0 0 8 → ((a1 + 12) ≠ (o + 12) ∧ (0 : Int) ≤ 0 ∧ (0 : Int) ≤ 0 ∧ (0 : Int) ≤ 8 ∧ 0 + 8 ≤ 8 ∧ 0 + 8 ≤ 8) ∧ ∀ J29, J29 = cpyZ J27 (a1 + 12) (o + 12) 0 0 8 → ((a1 + 13) ≠ (o + 13) ∧ (0 : Int) ≤ 0 ∧ (0 : Int) ≤ 0 ∧ (0 : Int) ≤ 8 ∧ 0 + 8 ≤ 8 ∧ 0 + 8 ≤ 8) ∧ ∀ J31, J31 = cpyZ J29 (a1 + 13) (o + 13) 0 0 8 → post' J31
theorem vw_X3_copyFrom {J : mJ} {o : Nat} {a1 : Nat} (hJ : irm J)    {post : mI → Prop} {post' : mJ → Prop} (hp : ∀ (J1 : mJ), irm J1 → post' J1 → post (zz J1)) (hv : v_X3_copyFrom J o a1 post') : w_X3_copyFrom (zz J) o a1 post := by
  unfold v_X3_copyFrom at hv
  unfold w_X3_copyFrom
  intro I1 eI1
  obtain ⟨J1, eJ1⟩ : ∃ q9 : mJ, q9 = up2 J o 0 (J a1 0) := ⟨_, rfl⟩
  have eI1 : I1 = zz J1 := by rw [eI1, eJ1]; exact zup zrf
  subst eI1
  have hv := hv J1 eJ1
  have hJ : irm J1 := by rw [eJ1]; exact irm_up hJ (hJ _ _)
  intro I1 eI1
  obtain ⟨J2, eJ2⟩ : ∃ q9 : mJ, q9 = up2 J1 o 1 (J1 a1 1) := ⟨_, rfl⟩
  have eI1 : I1 = zz J2 := by rw [eI1, eJ2]; exact zup zrf
  subst eI1
  have hv := hv J2 eJ2
  have hJ : irm J2 := by rw [eJ2]; exact irm_up hJ (hJ _ _)
  intro I1 eI1
  obtain ⟨J3, eJ3⟩ : ∃ q9 : mJ, q9 = up2 J2 o 2 (J2 a1 2) := ⟨_, rfl⟩
  have eI1 : I1 = zz J3 := by rw [eI1, eJ3]; exact zup zrf
  subst eI1
  have hv := hv J3 eJ3
  have hJ : irm J3 := by rw [eJ3]; exact irm_up hJ (hJ _ _)
  intro I1 eI1
  obtain ⟨J4, eJ4⟩ : ∃ q9 : mJ, q9 = up2 J3 o 3 (J3 a1 3) := ⟨_, rfl⟩
  have eI1 : I1 = zz J4 := by rw [eI1, eJ4]; exact zup zrf
  subst eI1
  have hv := hv J4 eJ4
  have hJ : irm J4 := by rw [eJ4]; exact irm_up hJ (hJ _ _)
  intro I1 eI1
  obtain ⟨J5, eJ5⟩ : ∃ q9 : mJ, q9 = up2 J4 o 4 (J4 a1 4) := ⟨_, rfl⟩
  have eI1 : I1 = zz J5 := by rw [eI1, eJ5]; exact zup zrf
  subst eI1
  have hv := hv J5 eJ5
  have hJ : irm J5 := by rw [eJ5]; exact irm_up hJ (hJ _ _)
  obtain ⟨⟨hz0, hz1, hz2, hz3, hz4, hz5⟩, hv⟩ := hv
  refine ⟨hz0, z_nn (by decide : (0 : Int32) = zi 0) (by decide : ir 0) hz1, z_nn (by decide : (0 : Int32) = zi 0) (by decide : ir 0) hz2, z_nn (by decide : (24 : Int32) = zi 24) (by decide : ir 24) hz3, z_sum (by decide : (0 : Int32) = zi 0) (by decide : ir 0) hz1 (by decide : (24 : Int32) = zi 24) (by decide : ir 24) hz3 hz4, z_sum (by decide : (0 : Int32) = zi 0) (by decide : ir 0) hz2 (by decide : (24 : Int32) = zi 24) (by decide : ir 24) hz3 hz5, ?_⟩
  intro I1 eI1
  obtain ⟨J7, eJ7⟩ : ∃ q9 : mJ, q9 = cpyZ J5 (a1 + 1) (o + 1) 0 0 24 := ⟨_, rfl⟩
  have eI1 : I1 = zz J7 := by rw [eI1, eJ7]; exact z_cp (by decide : (0 : Int32) = zi 0) (by decide : ir 0) hz1 (by decide : (0 : Int32) = zi 0) (by decide : ir 0) hz2 (by decide : (24 : Int32) = zi 24) (by decide : ir 24) hz3
  subst eI1
  have hv := hv J7 eJ7
  have hJ : irm J7 := by rw [eJ7]; exact irm_cpy hJ
  obtain ⟨⟨hz0, hz1, hz2, hz3, hz4, hz5⟩, hv⟩ := hv
  refine ⟨hz0, z_nn (by decide : (0 : Int32) = zi 0) (by decide : ir 0) hz1, z_nn (by decide : (0 : Int32) = zi 0) (by decide : ir 0) hz2, z_nn (by decide : (6 : Int32) = zi 6) (by decide : ir 6) hz3, z_sum (by decide : (0 : Int32) = zi 0) (by decide : ir 0) hz1 (by decide : (6 : Int32) = zi 6) (by decide : ir 6) hz3 hz4, z_sum (by decide : (0 : Int32) = zi 0) (by decide : ir 0) hz2 (by decide : (6 : Int32) = zi 6) (by decide : ir 6) hz3 hz5, ?_⟩
  intro I1 eI1
  obtain ⟨J9, eJ9⟩ : ∃ q9 : mJ, q9 = cpyZ J7 (a1 + 2) (o + 2) 0 0 6 := ⟨_, rfl⟩
  have eI1 : I1 = zz J9 := by rw [eI1, eJ9]; exact z_cp (by decide : (0 : Int32) = zi 0) (by decide : ir 0) hz1 (by decide : (0 : Int32) = zi 0) (by decide : ir 0) hz2 (by decide : (6 : Int32) = zi 6) (by decide : ir 6) hz3
  subst eI1
  have hv := hv J9 eJ9
  have hJ : irm J9 := by rw [eJ9]; exact irm_cpy hJ
  obtain ⟨⟨hz0, hz1, hz2, hz3, hz4, hz5⟩, hv⟩ := hv
  refine ⟨hz0, z_nn (by decide : (0 : Int32) = zi 0) (by decide : ir 0) hz1, z_nn (by decide : (0 : Int32) = zi 0) (by decide : ir 0) hz2, z_nn (by decide : (6 : Int32) = zi 6) (by decide : ir 6) hz3, z_sum (by decide : (0 : Int32) = zi 0) (by decide : ir 0) hz1 (by decide : (6 : Int32) = zi 6) (by decide : ir 6) hz3 hz4, z_sum (by decide : (0 : Int32) = zi 0) (by decide : ir 0) hz2 (by decide : (6 : Int32) = zi 6) (by decide : ir 6) hz3 hz5, ?_⟩
  intro I1 eI1
  obtain ⟨J11, eJ11⟩ : ∃ q9 : mJ, q9 = cpyZ J9 (a1 + 3) (o + 3) 0 0 6 := ⟨_, rfl⟩
  have eI1 : I1 = zz J11 := by rw [eI1, eJ11]; exact z_cp (by decide : (0 : Int32) = zi 0) (by decide : ir 0) hz1 (by decide : (0 : Int32) = zi 0) (by decide : ir 0) hz2 (by decide : (6 : Int32) = zi 6) (by decide : ir 6) hz3
  subst eI1
  have hv := hv J11 eJ11
  have hJ : irm J11 := by rw [eJ11]; exact irm_cpy hJ
  obtain ⟨⟨hz0, hz1, hz2, hz3, hz4, hz5⟩, hv⟩ := hv
  refine ⟨hz0, z_nn (by decide : (0 : Int32) = zi 0) (by decide : ir 0) hz1, z_nn (by decide : (0 : Int32) = zi 0) (by decide : ir 0) hz2, z_nn (by decide : (6 : Int32) = zi 6) (by decide : ir 6) hz3, z_sum (by decide : (0 : Int32) = zi 0) (by decide : ir 0) hz1 (by decide : (6 : Int32) = zi 6) (by decide : ir 6) hz3 hz4, z_sum (by decide : (0 : Int32) = zi 0) (by decide : ir 0) hz2 (by decide : (6 : Int32) = zi 6) (by decide : ir 6) hz3 hz5, ?_⟩
  intro I1 eI1
  obtain ⟨J13, eJ13⟩ : ∃ q9 : mJ, q9 = cpyZ J11 (a1 + 4) (o + 4) 0 0 6 := ⟨_, rfl⟩
  have eI1 : I1 = zz J13 := by rw [eI1, eJ13]; exact z_cp (by decide : (0 : Int32) = zi 0) (by decide : ir 0) hz1 (by decide : (0 : Int32) = zi 0) (by decide : ir 0) hz2 (by decide : (6 : Int32) = zi 6) (by decide : ir 6) hz3
  subst eI1
  have hv := hv J13 eJ13
  have hJ : irm J13 := by rw [eJ13]; exact irm_cpy hJ
  obtain ⟨⟨hz0, hz1, hz2, hz3, hz4, hz5⟩, hv⟩ := hv
  refine ⟨hz0, z_nn (by decide : (0 : Int32) = zi 0) (by decide : ir 0) hz1, z_nn (by decide : (0 : Int32) = zi 0) (by decide : ir 0) hz2, z_nn (by decide : (6 : Int32) = zi 6) (by decide : ir 6) hz3, z_sum (by decide : (0 : Int32) = zi 0) (by decide : ir 0) hz1 (by decide : (6 : Int32) = zi 6) (by decide : ir 6) hz3 hz4, z_sum (by decide : (0 : Int32) = zi 0) (by decide : ir 0) hz2 (by decide : (6 : Int32) = zi 6) (by decide : ir 6) hz3 hz5, ?_⟩
  intro I1 eI1
  obtain ⟨J15, eJ15⟩ : ∃ q9 : mJ, q9 = cpyZ J13 (a1 + 5) (o + 5) 0 0 6 := ⟨_, rfl⟩
  have eI1 : I1 = zz J15 := by rw [eI1, eJ15]; exact z_cp (by decide : (0 : Int32) = zi 0) (by decide : ir 0) hz1 (by decide : (0 : Int32) = zi 0) (by decide : ir 0) hz2 (by decide : (6 : Int32) = zi 6) (by decide : ir 6) hz3
  subst eI1
  have hv := hv J15 eJ15
  have hJ : irm J15 := by rw [eJ15]; exact irm_cpy hJ
  obtain ⟨⟨hz0, hz1, hz2, hz3, hz4, hz5⟩, hv⟩ := hv
  refine ⟨hz0, z_nn (by decide : (0 : Int32) = zi 0) (by decide : ir 0) hz1, z_nn (by decide : (0 : Int32) = zi 0) (by decide : ir 0) hz2, z_nn (by decide : (6 : Int32) = zi 6) (by decide : ir 6) hz3, z_sum (by decide : (0 : Int32) = zi 0) (by decide : ir 0) hz1 (by decide : (6 : Int32) = zi 6) (by decide : ir 6) hz3 hz4, z_sum (by decide : (0 : Int32) = zi 0) (by decide : ir 0) hz2 (by decide : (6 : Int32) = zi 6) (by decide : ir 6) hz3 hz5, ?_⟩
  intro I1 eI1
  obtain ⟨J17, eJ17⟩ : ∃ q9 : mJ, q9 = cpyZ J15 (a1 + 6) (o + 6) 0 0 6 := ⟨_, rfl⟩
  have eI1 : I1 = zz J17 := by rw [eI1, eJ17]; exact z_cp (by decide : (0 : Int32) = zi 0) (by decide : ir 0) hz1 (by decide : (0 : Int32) = zi 0) (by decide : ir 0) hz2 (by decide : (6 : Int32) = zi 6) (by decide : ir 6) hz3
  subst eI1
  have hv := hv J17 eJ17
  have hJ : irm J17 := by rw [eJ17]; exact irm_cpy hJ
  obtain ⟨⟨hz0, hz1, hz2, hz3, hz4, hz5⟩, hv⟩ := hv
  refine ⟨hz0, z_nn (by decide : (0 : Int32) = zi 0) (by decide : ir 0) hz1, z_nn (by decide : (0 : Int32) = zi 0) (by decide : ir 0) hz2, z_nn (by decide : (6 : Int32) = zi 6) (by decide : ir 6) hz3, z_sum (by decide : (0 : Int32) = zi 0) (by decide : ir 0) hz1 (by decide : (6 : Int32) = zi 6) (by decide : ir 6) hz3 hz4, z_sum (by decide : (0 : Int32) = zi 0) (by decide : ir 0) hz2 (by decide : (6 : Int32) = zi 6) (by decide : ir 6) hz3 hz5, ?_⟩
  intro I1 eI1
  obtain ⟨J19, eJ19⟩ : ∃ q9 : mJ, q9 = cpyZ J17 (a1 + 7) (o + 7) 0 0 6 := ⟨_, rfl⟩
  have eI1 : I1 = zz J19 := by rw [eI1, eJ19]; exact z_cp (by decide : (0 : Int32) = zi 0) (by decide : ir 0) hz1 (by decide : (0 : Int32) = zi 0) (by decide : ir 0) hz2 (by decide : (6 : Int32) = zi 6) (by decide : ir 6) hz3
  subst eI1
  have hv := hv J19 eJ19
  have hJ : irm J19 := by rw [eJ19]; exact irm_cpy hJ
  obtain ⟨⟨hz0, hz1, hz2, hz3, hz4, hz5⟩, hv⟩ := hv
  refine ⟨hz0, z_nn (by decide : (0 : Int32) = zi 0) (by decide : ir 0) hz1, z_nn (by decide : (0 : Int32) = zi 0) (by decide : ir 0) hz2, z_nn (by decide : (6 : Int32) = zi 6) (by decide : ir 6) hz3, z_sum (by decide : (0 : Int32) = zi 0) (by decide : ir 0) hz1 (by decide : (6 : Int32) = zi 6) (by decide : ir 6) hz3 hz4, z_sum (by decide : (0 : Int32) = zi 0) (by decide : ir 0) hz2 (by decide : (6 : Int32) = zi 6) (by decide : ir 6) hz3 hz5, ?_⟩
  intro I1 eI1
  obtain ⟨J21, eJ21⟩ : ∃ q9 : mJ, q9 = cpyZ J19 (a1 + 8) (o + 8) 0 0 6 := ⟨_, rfl⟩
  have eI1 : I1 = zz J21 := by rw [eI1, eJ21]; exact z_cp (by decide : (0 : Int32) = zi 0) (by decide : ir 0) hz1 (by decide : (0 : Int32) = zi 0) (by decide : ir 0) hz2 (by decide : (6 : Int32) = zi 6) (by decide : ir 6) hz3
  subst eI1
  have hv := hv J21 eJ21
  have hJ : irm J21 := by rw [eJ21]; exact irm_cpy hJ
  obtain ⟨⟨hz0, hz1, hz2, hz3, hz4, hz5⟩, hv⟩ := hv
  refine ⟨hz0, z_nn (by decide : (0 : Int32) = zi 0) (by decide : ir 0) hz1, z_nn (by decide : (0 : Int32) = zi 0) (by decide : ir 0) hz2, z_nn (by decide : (6 : Int32) = zi 6) (by decide : ir 6) hz3, z_sum (by decide : (0 : Int32) = zi 0) (by decide : ir 0) hz1 (by decide : (6 : Int32) = zi 6) (by decide : ir 6) hz3 hz4, z_sum (by decide : (0 : Int32) = zi 0) (by decide : ir 0) hz2 (by decide : (6 : Int32) = zi 6) (by decide : ir 6) hz3 hz5, ?_⟩
  intro I1 eI1
  obtain ⟨J23, eJ23⟩ : ∃ q9 : mJ, q9 = cpyZ J21 (a1 + 9) (o + 9) 0 0 6 := ⟨_, rfl⟩
  have eI1 : I1 = zz J23 := by rw [eI1, eJ23]; exact z_cp (by decide : (0 : Int32) = zi 0) (by decide : ir 0) hz1 (by decide : (0 : Int32) = zi 0) (by decide : ir 0) hz2 (by decide : (6 : Int32) = zi 6) (by decide : ir 6) hz3
  subst eI1
  have hv := hv J23 eJ23
  have hJ : irm J23 := by rw [eJ23]; exact irm_cpy hJ
  obtain ⟨⟨hz0, hz1, hz2, hz3, hz4, hz5⟩, hv⟩ := hv
  refine ⟨hz0, z_nn (by decide : (0 : Int32) = zi 0) (by decide : ir 0) hz1, z_nn (by decide : (0 : Int32) = zi 0) (by decide : ir 0) hz2, z_nn (by decide : (48 : Int32) = zi 48) (by decide : ir 48) hz3, z_sum (by decide : (0 : Int32) = zi 0) (by decide : ir 0) hz1 (by decide : (48 : Int32) = zi 48) (by decide : ir 48) hz3 hz4, z_sum (by decide : (0 : Int32) = zi 0) (by decide : ir 0) hz2 (by decide : (48 : Int32) = zi 48) (by decide : ir 48) hz3 hz5, ?_⟩
  intro I1 eI1
  obtain ⟨J25, eJ25⟩ : ∃ q9 : mJ, q9 = cpyZ J23 (a1 + 10) (o + 10) 0 0 48 := ⟨_, rfl⟩
  have eI1 : I1 = zz J25 := by rw [eI1, eJ25]; exact z_cp (by decide : (0 : Int32) = zi 0) (by decide : ir 0) hz1 (by decide : (0 : Int32) = zi 0) (by decide : ir 0) hz2 (by decide : (48 : Int32) = zi 48) (by decide : ir 48) hz3
  subst eI1
  have hv := hv J25 eJ25
  have hJ : irm J25 := by rw [eJ25]; exact irm_cpy hJ
  obtain ⟨⟨hz0, hz1, hz2, hz3, hz4, hz5⟩, hv⟩ := hv
  refine ⟨hz0, z_nn (by decide : (0 : Int32) = zi 0) (by decide : ir 0) hz1, z_nn (by decide : (0 : Int32) = zi 0) (by decide : ir 0) hz2, z_nn (by decide : (8 : Int32) = zi 8) (by decide : ir 8) hz3, z_sum (by decide : (0 : Int32) = zi 0) (by decide : ir 0) hz1 (by decide : (8 : Int32) = zi 8) (by decide : ir 8) hz3 hz4, z_sum (by decide : (0 : Int32) = zi 0) (by decide : ir 0) hz2 (by decide : (8 : Int32) = zi 8) (by decide : ir 8) hz3 hz5, ?_⟩
  intro I1 eI1
  obtain ⟨J27, eJ27⟩ : ∃ q9 : mJ, q9 = cpyZ J25 (a1 + 11) (o + 11) 0 0 8 := ⟨_, rfl⟩
  have eI1 : I1 = zz J27 := by rw [eI1, eJ27]; exact z_cp (by decide : (0 : Int32) = zi 0) (by decide : ir 0) hz1 (by decide : (0 : Int32) = zi 0) (by decide : ir 0) hz2 (by decide : (8 : Int32) = zi 8) (by decide : ir 8) hz3
  subst eI1
  have hv := hv J27 eJ27
  have hJ : irm J27 := by rw [eJ27]; exact irm_cpy hJ
  obtain ⟨⟨hz0, hz1, hz2, hz3, hz4, hz5⟩, hv⟩ := hv
  refine ⟨hz0, z_nn (by decide : (0 : Int32) = zi 0) (by decide : ir 0) hz1, z_nn (by decide : (0 : Int32) = zi 0) (by decide : ir 0) hz2, z_nn (by decide : (8 : Int32) = zi 8) (by decide : ir 8) hz3, z_sum (by decide : (0 : Int32) = zi 0) (by decide : ir 0) hz1 (by decide : (8 : Int32) = zi 8) (by decide : ir 8) hz3 hz4, z_sum (by decide : (0 : Int32) = zi 0) (by decide : ir 0) hz2 (by decide : (8 : Int32) = zi 8) (by decide : ir 8) hz3 hz5, ?_⟩
  intro I1 eI1
  obtain ⟨J29, eJ29⟩ : ∃ q9 : mJ, q9 = cpyZ J27 (a1 + 12) (o + 12) 0 0 8 := ⟨_, rfl⟩
  have eI1 : I1 = zz J29 := by rw [eI1, eJ29]; exact z_cp (by decide : (0 : Int32) = zi 0) (by decide : ir 0) hz1 (by decide : (0 : Int32) = zi 0) (by decide : ir 0) hz2 (by decide : (8 : Int32) = zi 8) (by decide : ir 8) hz3
  subst eI1
  have hv := hv J29 eJ29
  have hJ : irm J29 := by rw [eJ29]; exact irm_cpy hJ
  obtain ⟨⟨hz0, hz1, hz2, hz3, hz4, hz5⟩, hv⟩ := hv
  refine ⟨hz0, z_nn (by decide : (0 : Int32) = zi 0) (by decide : ir 0) hz1, z_nn (by decide : (0 : Int32) = zi 0) (by decide : ir 0) hz2, z_nn (by decide : (8 : Int32) = zi 8) (by decide : ir 8) hz3, z_sum (by decide : (0 : Int32) = zi 0) (by decide : ir 0) hz1 (by decide : (8 : Int32) = zi 8) (by decide : ir 8) hz3 hz4, z_sum (by decide : (0 : Int32) = zi 0) (by decide : ir 0) hz2 (by decide : (8 : Int32) = zi 8) (by decide : ir 8) hz3 hz5, ?_⟩
  intro I1 eI1
  obtain ⟨J31, eJ31⟩ : ∃ q9 : mJ, q9 = cpyZ J29 (a1 + 13) (o + 13) 0 0 8 := ⟨_, rfl⟩
  have eI1 : I1 = zz J31 := by rw [eI1, eJ31]; exact z_cp (by decide : (0 : Int32) = zi 0) (by decide : ir 0) hz1 (by decide : (0 : Int32) = zi 0) (by decide : ir 0) hz2 (by decide : (8 : Int32) = zi 8) (by decide : ir 8) hz3
  subst eI1
  have hv := hv J31 eJ31
  have hJ : irm J31 := by rw [eJ31]; exact irm_cpy hJ
  exact hp _ hJ hv
def v_X3_hasFlat (J : mJ) (o : Nat) (a1 : Int) (post' : Bool → Prop) : Prop := (a1 < 0 → post' false) ∧ (¬ a1 < 0 → ((J o 2) ≤ a1 → post' false) ∧ (¬ (J o 2) ≤ a1 → post' true))
theorem vw_X3_hasFlat {J : mJ} {o : Nat} {xa1 : Int32} {a1 : Int} (hJ : irm J)   (ea1 : xa1 = zi a1) (ia1 : ir a1) {post : Bool → Prop} {post' : Bool → Prop} (hp : ∀ (r : Bool), post' r → post r) (hv : v_X3_hasFlat J o a1 post') : w_X3_hasFlat (zz J) o xa1 post := by
  subst ea1
  unfold v_X3_hasFlat at hv
  unfold w_X3_hasFlat
  refine ⟨fun cq => ?_, fun cq => ?_⟩
  · have hv := hv.1 ((zlt (rfl : zi a1 = zi a1) (by decide : (0 : Int32) = zi 0) ia1 (by decide : ir 0)).mp cq)
    exact hp _ hv
  · have hv := hv.2 (fun q => cq ((zlt (rfl : zi a1 = zi a1) (by decide : (0 : Int32) = zi 0) ia1 (by decide : ir 0)).mpr q))
    refine ⟨fun cq => ?_, fun cq => ?_⟩
    · have hv := hv.1 ((zle zrf (rfl : zi a1 = zi a1) (hJ _ _) ia1).mp cq)
      exact hp _ hv
    · have hv := hv.2 (fun q => cq ((zle zrf (rfl : zi a1 = zi a1) (hJ _ _) ia1).mpr q))
      exact hp _ hv
def v_X3_hasPerson (J : mJ) (o : Nat) (a1 : Int) (post' : Bool → Prop) : Prop := (a1 < 0 → post' false) ∧ (¬ a1 < 0 → ((J o 3) ≤ a1 → post' false) ∧ (¬ (J o 3) ≤ a1 → post' true))
theorem vw_X3_hasPerson {J : mJ} {o : Nat} {xa1 : Int32} {a1 : Int} (hJ : irm J)   (ea1 : xa1 = zi a1) (ia1 : ir a1) {post : Bool → Prop} {post' : Bool → Prop} (hp : ∀ (r : Bool), post' r → post r) (hv : v_X3_hasPerson J o a1 post') : w_X3_hasPerson (zz J) o xa1 post := by
  subst ea1
  unfold v_X3_hasPerson at hv
  unfold w_X3_hasPerson
  refine ⟨fun cq => ?_, fun cq => ?_⟩
  · have hv := hv.1 ((zlt (rfl : zi a1 = zi a1) (by decide : (0 : Int32) = zi 0) ia1 (by decide : ir 0)).mp cq)
    exact hp _ hv
  · have hv := hv.2 (fun q => cq ((zlt (rfl : zi a1 = zi a1) (by decide : (0 : Int32) = zi 0) ia1 (by decide : ir 0)).mpr q))
    refine ⟨fun cq => ?_, fun cq => ?_⟩
    · have hv := hv.1 ((zle zrf (rfl : zi a1 = zi a1) (hJ _ _) ia1).mp cq)
      exact hp _ hv
    · have hv := hv.2 (fun q => cq ((zle zrf (rfl : zi a1 = zi a1) (hJ _ _) ia1).mpr q))
      exact hp _ hv
def v_X3_allFlats (J : mJ) (o : Nat) (post' : Int → Prop) : Prop := ir ((shlZ 1 (J o 2)) - 1) ∧ post' ((shlZ 1 (J o 2)) - 1)
theorem vw_X3_allFlats {J : mJ} {o : Nat} (hJ : irm J)   {post : Int32 → Prop} {post' : Int → Prop} (hp : ∀ (x : Int32) (r : Int), x = zi r → ir r → post' r → post x) (hv : v_X3_allFlats J o post') : w_X3_allFlats (zz J) o post := by
  unfold v_X3_allFlats at hv
  unfold w_X3_allFlats
  obtain ⟨g1, hv⟩ := hv
  exact hp _ _ (zs (z_shl (by decide : (1 : Int32) = zi 1) zrf) (by decide : (1 : Int32) = zi 1)) g1 hv
def v_X3_hears (J : mJ) (o : Nat) (a1 : Int) (a2 : Int) (a3 : Int) (post' : Bool → Prop) : Prop := (a3 ≤ 0 → post' false) ∧ (¬ a3 ≤ 0 → (0 ≤ a1 ∧ a1 < 6) ∧ ir ((J (o + 2) a1.toNat) - a2) ∧ ir (absZ ((J (o + 2) a1.toNat) - a2)) ∧ (0 ≤ a1 ∧ a1 < 6) ∧ ir ((J (o + 3) a1.toNat) + a3) ∧ (((J (o + 3) a1.toNat) + a3) < (absZ ((J (o + 2) a1.toNat) - a2)) → post' false) ∧ (¬ ((J (o + 3) a1.toNat) + a3) < (absZ ((J (o + 2) a1.toNat) - a2)) → post' true))
theorem vw_X3_hears {J : mJ} {o : Nat} {xa1 : Int32} {a1 : Int} {xa2 : Int32} {a2 : Int} {xa3 : Int32} {a3 : Int} (hJ : irm J)   (ea1 : xa1 = zi a1) (ia1 : ir a1) (ea2 : xa2 = zi a2) (ia2 : ir a2) (ea3 : xa3 = zi a3) (ia3 : ir a3) {post : Bool → Prop} {post' : Bool → Prop} (hp : ∀ (r : Bool), post' r → post r) (hv : v_X3_hears J o a1 a2 a3 post') : w_X3_hears (zz J) o xa1 xa2 xa3 post := by
  subst ea1
  subst ea2
  subst ea3
  unfold v_X3_hears at hv
  unfold w_X3_hears
  refine ⟨fun cq => ?_, fun cq => ?_⟩
  · have hv := hv.1 ((zle (rfl : zi a3 = zi a3) (by decide : (0 : Int32) = zi 0) ia3 (by decide : ir 0)).mp cq)
    exact hp _ hv
  · have hv := hv.2 (fun q => cq ((zle (rfl : zi a3 = zi a3) (by decide : (0 : Int32) = zi 0) ia3 (by decide : ir 0)).mpr q))
    obtain ⟨g1, hv⟩ := hv
    refine ⟨zvp (rfl : zi a1 = zi a1) ia1 g1.1 g1.2, ?_⟩
    obtain ⟨g2, hv⟩ := hv
    obtain ⟨g3, hv⟩ := hv
    obtain ⟨g4, hv⟩ := hv
    refine ⟨zvp (rfl : zi a1 = zi a1) ia1 g4.1 g4.2, ?_⟩
    obtain ⟨g5, hv⟩ := hv
    refine ⟨fun cq => ?_, fun cq => ?_⟩
    · have hv := hv.1 ((zlt (za (zrd (rfl : zi a1 = zi a1) ia1 g4.1) (rfl : zi a3 = zi a3)) (z_abs (zs (zrd (rfl : zi a1 = zi a1) ia1 g1.1) (rfl : zi a2 = zi a2)) g2) g5 g3).mp cq)
      exact hp _ hv
    · have hv := hv.2 (fun q => cq ((zlt (za (zrd (rfl : zi a1 = zi a1) ia1 g4.1) (rfl : zi a3 = zi a3)) (z_abs (zs (zrd (rfl : zi a1 = zi a1) ia1 g1.1) (rfl : zi a2 = zi a2)) g2) g5 g3).mpr q))
      exact hp _ hv
def v_X3_wearTheSame_2 (J : mJ) (o : Nat) (a1 : Int) (a2 : Int) (post' : Bool → Prop) (v3 : Int) : Prop := ∀ ZZ : (Int → Prop), (∀ (v3 : Int), ((100 ≤ v3 → post' true) ∧ (¬ 100 ≤ v3 → v_X3_shoeAt J o a1 v3 (fun r1 => v_X3_shoeAt J o a2 v3 (fun r2 => (r1 = r2 → ir (v3 + 1) ∧ ∀ y4, y4 = v3 + 1 → ZZ y4) ∧ (¬ r1 = r2 → post' false))))) → ZZ v3) → ZZ v3
theorem vw_X3_wearTheSame_2 {J : mJ} {o : Nat} {a1 : Int} {a2 : Int} (hJ : irm J) (ia1 : ir a1) (ia2 : ir a2) {post : Bool → Prop} {post' : Bool → Prop} (hp : ∀ (r : Bool), post' r → post r) {xv3 : Int32} {v3 : Int} (ev3 : xv3 = zi v3) (iv3 : ir v3) (hv : v_X3_wearTheSame_2 J o a1 a2 post' v3) : w_X3_wearTheSame_2 (zz J) o (zi a1) (zi a2) post xv3 := by
  subst ev3
  unfold v_X3_wearTheSame_2 at hv
  unfold w_X3_wearTheSame_2
  intro ZZ hZ
  refine hv (fun v3 => ∀ (xv3 : Int32), xv3 = zi v3 → ir v3 → ZZ xv3) ?_ _ rfl iv3
  clear hv iv3
  intro v3 hv xv3 ev3 iv3
  subst ev3
  refine hZ _ ?_
  refine ⟨fun cq => ?_, fun cq => ?_⟩
  · have hv := hv.1 ((zle (by decide : (100 : Int32) = zi 100) (rfl : zi v3 = zi v3) (by decide : ir 100) iv3).mp cq)
    exact hp _ hv
  · have hv := hv.2 (fun q => cq ((zle (by decide : (100 : Int32) = zi 100) (rfl : zi v3 = zi v3) (by decide : ir 100) iv3).mpr q))
    refine vw_X3_shoeAt hJ (rfl : zi a1 = zi a1) ia1 (rfl : zi v3 = zi v3) iv3 (fun xr1 r1 Er1 Ir1 hv => ?_) hv
    refine vw_X3_shoeAt hJ (rfl : zi a2 = zi a2) ia2 (rfl : zi v3 = zi v3) iv3 (fun xr2 r2 Er2 Ir2 hv => ?_) hv
    refine ⟨fun cq => ?_, fun cq => ?_⟩
    · have hv := hv.1 ((zeq Er1 Er2 Ir1 Ir2).mp cq)
      obtain ⟨g3, hv⟩ := hv
      intro xy4 exy4
      obtain ⟨y4, eyy4⟩ : ∃ q9 : Int, q9 = v3 + 1 := ⟨_, rfl⟩
      have hv := hv y4 eyy4
      have Ey4 : xy4 = zi y4 := exy4.trans (((za (rfl : zi v3 = zi v3) (by decide : (1 : Int32) = zi 1))).trans (congrArg zi eyy4.symm))
      have Iy4 : ir y4 := by rw [eyy4]; exact g3
      clear exy4
      exact hv _ Ey4 Iy4
    · have hv := hv.2 (fun q => cq ((zeq Er1 Er2 Ir1 Ir2).mpr q))
      exact hp _ hv
def v_X3_wearTheSame (J : mJ) (o : Nat) (a1 : Int) (a2 : Int) (post' : Bool → Prop) : Prop := (v_X3_wearTheSame_2 J o a1 a2 post') 0
theorem vw_X3_wearTheSame {J : mJ} {o : Nat} {xa1 : Int32} {a1 : Int} {xa2 : Int32} {a2 : Int} (hJ : irm J)   (ea1 : xa1 = zi a1) (ia1 : ir a1) (ea2 : xa2 = zi a2) (ia2 : ir a2) {post : Bool → Prop} {post' : Bool → Prop} (hp : ∀ (r : Bool), post' r → post r) (hv : v_X3_wearTheSame J o a1 a2 post') : w_X3_wearTheSame (zz J) o xa1 xa2 post := by
  subst ea1
  subst ea2
  unfold v_X3_wearTheSame at hv
  unfold w_X3_wearTheSame
  exact vw_X3_wearTheSame_2 hJ ia1 ia2 hp (by decide : (0 : Int32) = zi 0) (by decide : ir 0) hv
def v_X3_copies_16 (J : mJ) (o : Nat) (post' : Int → Prop) (k4' : Int → Int → Prop) (v1 : Int) (v2 : Int) (v3 : Int) : Prop := ∀ ZZ : (Int → Int → Int → Prop), (∀ (v1 : Int) (v2 : Int) (v3 : Int), (((J o 3) ≤ v3 → ir (v2 + 1) ∧ ∀ y4, y4 = v2 + 1 → k4' v1 y4) ∧ (¬ (J o 3) ≤ v3 → (0 ≤ v2 ∧ v2 < 6) ∧ (0 ≤ v3 ∧ v3 < 6) ∧ (¬ (J (o + 5) v2.toNat) = (J (o + 5) v3.toNat) → ir (v3 + 1) ∧ ∀ y8, y8 = v3 + 1 → ZZ v1 v2 y8) ∧ ((J (o + 5) v2.toNat) = (J (o + 5) v3.toNat) → v_X3_wearTheSame J o v2 v3 (fun b9 => (b9 = false → ir (v3 + 1) ∧ ∀ y11, y11 = v3 + 1 → ZZ v1 v2 y11) ∧ (b9 = true → ir (v1 + 1) ∧ ∀ y13, y13 = v1 + 1 → ir (v3 + 1) ∧ ∀ y15, y15 = v3 + 1 → ZZ y13 v2 y15))))) → ZZ v1 v2 v3) → ZZ v1 v2 v3
theorem vw_X3_copies_16 {J : mJ} {o : Nat} (hJ : irm J)  {post : Int32 → Prop} {post' : Int → Prop} {k4' : Int → Int → Prop} {k4 : Int32 → Int32 → Prop} (hp : ∀ (x : Int32) (r : Int), x = zi r → ir r → post' r → post x) (hk4 : ∀ (xv1 : Int32) (v1 : Int) (xv2 : Int32) (v2 : Int), xv1 = zi v1 → ir v1 → xv2 = zi v2 → ir v2 → k4' v1 v2 → k4 xv1 xv2) {xv1 : Int32} {v1 : Int} {xv2 : Int32} {v2 : Int} {xv3 : Int32} {v3 : Int} (ev1 : xv1 = zi v1) (iv1 : ir v1) (ev2 : xv2 = zi v2) (iv2 : ir v2) (ev3 : xv3 = zi v3) (iv3 : ir v3) (hv : v_X3_copies_16 J o post' k4' v1 v2 v3) : w_X3_copies_16 (zz J) o post k4 xv1 xv2 xv3 := by
  subst ev1
  subst ev2
  subst ev3
  unfold v_X3_copies_16 at hv
  unfold w_X3_copies_16
  intro ZZ hZ
  refine hv (fun v1 v2 v3 => ∀ (xv1 : Int32) (xv2 : Int32) (xv3 : Int32), xv1 = zi v1 → ir v1 → xv2 = zi v2 → ir v2 → xv3 = zi v3 → ir v3 → ZZ xv1 xv2 xv3) ?_ _ _ _ rfl iv1 rfl iv2 rfl iv3
  clear hv iv1 iv2 iv3
  intro v1 v2 v3 hv xv1 xv2 xv3 ev1 iv1 ev2 iv2 ev3 iv3
  subst ev1
  subst ev2
  subst ev3
  refine hZ _ _ _ ?_
  refine ⟨fun cq => ?_, fun cq => ?_⟩
  · have hv := hv.1 ((zle zrf (rfl : zi v3 = zi v3) (hJ _ _) iv3).mp cq)
    obtain ⟨g3, hv⟩ := hv
    intro xy4 exy4
    obtain ⟨y4, eyy4⟩ : ∃ q9 : Int, q9 = v2 + 1 := ⟨_, rfl⟩
    have hv := hv y4 eyy4
    have Ey4 : xy4 = zi y4 := exy4.trans (((za (rfl : zi v2 = zi v2) (by decide : (1 : Int32) = zi 1))).trans (congrArg zi eyy4.symm))
    have Iy4 : ir y4 := by rw [eyy4]; exact g3
    clear exy4
    exact hk4 _ _ _ _ (rfl : zi v1 = zi v1) iv1 Ey4 Iy4 hv
  · have hv := hv.2 (fun q => cq ((zle zrf (rfl : zi v3 = zi v3) (hJ _ _) iv3).mpr q))
    obtain ⟨g5, hv⟩ := hv
    refine ⟨zvp (rfl : zi v2 = zi v2) iv2 g5.1 g5.2, ?_⟩
    obtain ⟨g6, hv⟩ := hv
    refine ⟨zvp (rfl : zi v3 = zi v3) iv3 g6.1 g6.2, ?_⟩
    refine ⟨fun cq => ?_, fun cq => ?_⟩
    · have hv := hv.1 (fun q => cq ((zeq (zrd (rfl : zi v2 = zi v2) iv2 g5.1) (zrd (rfl : zi v3 = zi v3) iv3 g6.1) (hJ _ _) (hJ _ _)).mpr q))
      obtain ⟨g7, hv⟩ := hv
      intro xy8 exy8
      obtain ⟨y8, eyy8⟩ : ∃ q9 : Int, q9 = v3 + 1 := ⟨_, rfl⟩
      have hv := hv y8 eyy8
      have Ey8 : xy8 = zi y8 := exy8.trans (((za (rfl : zi v3 = zi v3) (by decide : (1 : Int32) = zi 1))).trans (congrArg zi eyy8.symm))
      have Iy8 : ir y8 := by rw [eyy8]; exact g7
      clear exy8
      exact hv _ _ _ (rfl : zi v1 = zi v1) iv1 (rfl : zi v2 = zi v2) iv2 Ey8 Iy8
    · have hv := hv.2 ((zeq (zrd (rfl : zi v2 = zi v2) iv2 g5.1) (zrd (rfl : zi v3 = zi v3) iv3 g6.1) (hJ _ _) (hJ _ _)).mp cq)
      refine vw_X3_wearTheSame hJ (rfl : zi v2 = zi v2) iv2 (rfl : zi v3 = zi v3) iv3 (fun b9  hv => ?_) hv
      refine ⟨fun cq => ?_, fun cq => ?_⟩
      · have hv := hv.1 cq
        obtain ⟨g10, hv⟩ := hv
        intro xy11 exy11
        obtain ⟨y11, eyy11⟩ : ∃ q9 : Int, q9 = v3 + 1 := ⟨_, rfl⟩
        have hv := hv y11 eyy11
        have Ey11 : xy11 = zi y11 := exy11.trans (((za (rfl : zi v3 = zi v3) (by decide : (1 : Int32) = zi 1))).trans (congrArg zi eyy11.symm))
        have Iy11 : ir y11 := by rw [eyy11]; exact g10
        clear exy11
        exact hv _ _ _ (rfl : zi v1 = zi v1) iv1 (rfl : zi v2 = zi v2) iv2 Ey11 Iy11
      · have hv := hv.2 cq
        obtain ⟨g12, hv⟩ := hv
        intro xy13 exy13
        obtain ⟨y13, eyy13⟩ : ∃ q9 : Int, q9 = v1 + 1 := ⟨_, rfl⟩
        have hv := hv y13 eyy13
        have Ey13 : xy13 = zi y13 := exy13.trans (((za (rfl : zi v1 = zi v1) (by decide : (1 : Int32) = zi 1))).trans (congrArg zi eyy13.symm))
        have Iy13 : ir y13 := by rw [eyy13]; exact g12
        clear exy13
        obtain ⟨g14, hv⟩ := hv
        intro xy15 exy15
        obtain ⟨y15, eyy15⟩ : ∃ q9 : Int, q9 = v3 + 1 := ⟨_, rfl⟩
        have hv := hv y15 eyy15
        have Ey15 : xy15 = zi y15 := exy15.trans (((za (rfl : zi v3 = zi v3) (by decide : (1 : Int32) = zi 1))).trans (congrArg zi eyy15.symm))
        have Iy15 : ir y15 := by rw [eyy15]; exact g14
        clear exy15
        exact hv _ _ _ Ey13 Iy13 (rfl : zi v2 = zi v2) iv2 Ey15 Iy15
def v_X3_copies_4 (J : mJ) (o : Nat) (post' : Int → Prop) (v1 : Int) (v2 : Int) : Prop := ∀ ZZ : (Int → Int → Prop), (∀ (v1 : Int) (v2 : Int), (((J o 3) ≤ v2 → post' v1) ∧ (¬ (J o 3) ≤ v2 → ir (v2 + 1) ∧ ∀ y2, y2 = (v2 + 1) → (v_X3_copies_16 J o post' ZZ) v1 v2 y2)) → ZZ v1 v2) → ZZ v1 v2
theorem vw_X3_copies_4 {J : mJ} {o : Nat} (hJ : irm J)  {post : Int32 → Prop} {post' : Int → Prop} (hp : ∀ (x : Int32) (r : Int), x = zi r → ir r → post' r → post x) {xv1 : Int32} {v1 : Int} {xv2 : Int32} {v2 : Int} (ev1 : xv1 = zi v1) (iv1 : ir v1) (ev2 : xv2 = zi v2) (iv2 : ir v2) (hv : v_X3_copies_4 J o post' v1 v2) : w_X3_copies_4 (zz J) o post xv1 xv2 := by
  subst ev1
  subst ev2
  unfold v_X3_copies_4 at hv
  unfold w_X3_copies_4
  intro ZZ hZ
  refine hv (fun v1 v2 => ∀ (xv1 : Int32) (xv2 : Int32), xv1 = zi v1 → ir v1 → xv2 = zi v2 → ir v2 → ZZ xv1 xv2) ?_ _ _ rfl iv1 rfl iv2
  clear hv iv1 iv2
  intro v1 v2 hv xv1 xv2 ev1 iv1 ev2 iv2
  subst ev1
  subst ev2
  refine hZ _ _ ?_
  refine ⟨fun cq => ?_, fun cq => ?_⟩
  · have hv := hv.1 ((zle zrf (rfl : zi v2 = zi v2) (hJ _ _) iv2).mp cq)
    exact hp _ _ (rfl : zi v1 = zi v1) iv1 hv
  · have hv := hv.2 (fun q => cq ((zle zrf (rfl : zi v2 = zi v2) (hJ _ _) iv2).mpr q))
    obtain ⟨g1, hv⟩ := hv
    intro xy2 exy2
    obtain ⟨y2, eyy2⟩ : ∃ q9 : Int, q9 = (v2 + 1) := ⟨_, rfl⟩
    have hv := hv y2 eyy2
    have Ey2 : xy2 = zi y2 := exy2.trans (((za (rfl : zi v2 = zi v2) (by decide : (1 : Int32) = zi 1))).trans (congrArg zi eyy2.symm))
    have Iy2 : ir y2 := by rw [eyy2]; exact g1
    clear exy2
    refine vw_X3_copies_16 hJ  hp ?_ (rfl : zi v1 = zi v1) iv1 (rfl : zi v2 = zi v2) iv2 Ey2 Iy2 hv
    · intro xx vv xx vv ev1 iv1 ev2 iv2 hv
      exact hv _ _ ev1 iv1 ev2 iv2
def v_X3_copies (J : mJ) (o : Nat) (post' : Int → Prop) : Prop := (v_X3_copies_4 J o post') 0 0
theorem vw_X3_copies {J : mJ} {o : Nat} (hJ : irm J)   {post : Int32 → Prop} {post' : Int → Prop} (hp : ∀ (x : Int32) (r : Int), x = zi r → ir r → post' r → post x) (hv : v_X3_copies J o post') : w_X3_copies (zz J) o post := by
  unfold v_X3_copies at hv
  unfold w_X3_copies
  exact vw_X3_copies_4 hJ  hp (by decide : (0 : Int32) = zi 0) (by decide : ir 0) (by decide : (0 : Int32) = zi 0) (by decide : ir 0) hv
def v_X4_isAhead (J : mJ) (a1 : Nat) (a1h : Nat) (a2 : Int) (a3 : Int) (a4 : Int) (post' : Bool → Prop) : Prop := (0 ≤ a2 ∧ a2 < 600) ∧ ((J (a1 + 3) a2.toNat) < a4 → post' true) ∧ (¬ (J (a1 + 3) a2.toNat) < a4 → (0 ≤ a2 ∧ a2 < 600) ∧ (¬ (J (a1 + 3) a2.toNat) = a4 → post' false) ∧ ((J (a1 + 3) a2.toNat) = a4 → (0 ≤ a2 ∧ a2 < 600) ∧ (a3 ≤ (J (a1 + 1) a2.toNat) → post' false) ∧ (¬ a3 ≤ (J (a1 + 1) a2.toNat) → post' true)))
theorem vw_X4_isAhead {J : mJ} {a1 : Nat} {a1h : Nat} {xa2 : Int32} {a2 : Int} {xa3 : Int32} {a3 : Int} {xa4 : Int32} {a4 : Int} (hJ : irm J)    (ea2 : xa2 = zi a2) (ia2 : ir a2) (ea3 : xa3 = zi a3) (ia3 : ir a3) (ea4 : xa4 = zi a4) (ia4 : ir a4) {post : Bool → Prop} {post' : Bool → Prop} (hp : ∀ (r : Bool), post' r → post r) (hv : v_X4_isAhead J a1 a1h a2 a3 a4 post') : w_X4_isAhead (zz J) a1 a1h xa2 xa3 xa4 post := by
  subst ea2
  subst ea3
  subst ea4
  unfold v_X4_isAhead at hv
  unfold w_X4_isAhead
  obtain ⟨g1, hv⟩ := hv
  refine ⟨zvp (rfl : zi a2 = zi a2) ia2 g1.1 g1.2, ?_⟩
  refine ⟨fun cq => ?_, fun cq => ?_⟩
  · have hv := hv.1 ((zlt (zrd (rfl : zi a2 = zi a2) ia2 g1.1) (rfl : zi a4 = zi a4) (hJ _ _) ia4).mp cq)
    exact hp _ hv
  · have hv := hv.2 (fun q => cq ((zlt (zrd (rfl : zi a2 = zi a2) ia2 g1.1) (rfl : zi a4 = zi a4) (hJ _ _) ia4).mpr q))
    obtain ⟨g2, hv⟩ := hv
    refine ⟨zvp (rfl : zi a2 = zi a2) ia2 g2.1 g2.2, ?_⟩
    refine ⟨fun cq => ?_, fun cq => ?_⟩
    · have hv := hv.1 (fun q => cq ((zeq (zrd (rfl : zi a2 = zi a2) ia2 g2.1) (rfl : zi a4 = zi a4) (hJ _ _) ia4).mpr q))
      exact hp _ hv
    · have hv := hv.2 ((zeq (zrd (rfl : zi a2 = zi a2) ia2 g2.1) (rfl : zi a4 = zi a4) (hJ _ _) ia4).mp cq)
      obtain ⟨g3, hv⟩ := hv
      refine ⟨zvp (rfl : zi a2 = zi a2) ia2 g3.1 g3.2, ?_⟩
      refine ⟨fun cq => ?_, fun cq => ?_⟩
      · have hv := hv.1 ((zle (rfl : zi a3 = zi a3) (zrd (rfl : zi a2 = zi a2) ia2 g3.1) ia3 (hJ _ _)).mp cq)
        exact hp _ hv
      · have hv := hv.2 (fun q => cq ((zle (rfl : zi a3 = zi a3) (zrd (rfl : zi a2 = zi a2) ia2 g3.1) ia3 (hJ _ _)).mpr q))
        exact hp _ hv
def v_X4_markTrodden_2 (o : Nat) (a1 : Nat) (a1h : Nat) (a2 : Int) (post' : mJ → Prop) (J : mJ) (v3 : Int) : Prop := ∀ ZZ : (mJ → Int → Prop), (∀ (J : mJ) (v3 : Int), (((J a1 2) ≤ v3 → post' J) ∧ (¬ (J a1 2) ≤ v3 → (0 ≤ v3 ∧ v3 < 600) ∧ ir ((J (a1 + 3) v3.toNat) - (J o 0)) ∧ ∀ y3, y3 = ((J (a1 + 3) v3.toNat) - (J o 0)) → (0 ≤ v3 ∧ v3 < 600) ∧ ((J (a1 + 1) v3.toNat) = a2 → ir (v3 + 1) ∧ ∀ y6, y6 = v3 + 1 → ZZ J y6) ∧ (¬ (J (a1 + 1) v3.toNat) = a2 → (y3 < 0 → ir (v3 + 1) ∧ ∀ y8, y8 = v3 + 1 → ZZ J y8) ∧ (¬ y3 < 0 → ((J o 1) ≤ y3 → ir (v3 + 1) ∧ ∀ y10, y10 = v3 + 1 → ZZ J y10) ∧ (¬ (J o 1) ≤ y3 → (0 ≤ y3 ∧ y3 < 100) ∧ (0 ≤ v3 ∧ v3 < 600) ∧ (0 ≤ y3 ∧ y3 < 100) ∧ ∀ J14, J14 = up2 J (o + 2) y3.toNat (orZ (J (o + 2) y3.toNat) (shlZ 1 (J (a1 + 2) v3.toNat))) → ir (v3 + 1) ∧ ∀ y16, y16 = v3 + 1 → ZZ J14 y16))))) → ZZ J v3) → ZZ J v3
theorem vw_X4_markTrodden_2 {o : Nat} {a1 : Nat} {a1h : Nat} {a2 : Int}  (ia2 : ir a2) {post : mI → Prop} {post' : mJ → Prop} (hp : ∀ (J1 : mJ), irm J1 → post' J1 → post (zz J1)) {J : mJ} {xv3 : Int32} {v3 : Int} (hJ : irm J) (ev3 : xv3 = zi v3) (iv3 : ir v3) (hv : v_X4_markTrodden_2 o a1 a1h a2 post' J v3) : w_X4_markTrodden_2 o a1 a1h (zi a2) post (zz J) xv3 := by
  subst ev3
  unfold v_X4_markTrodden_2 at hv
  unfold w_X4_markTrodden_2
  intro ZZ hZ
  refine hv (fun J v3 => ∀ (xv3 : Int32), irm J → xv3 = zi v3 → ir v3 → ZZ (zz J) xv3) ?_ _ hJ rfl iv3
  clear hv hJ iv3
  intro J v3 hv xv3 hJ ev3 iv3
  subst ev3
  refine hZ _ _ ?_
  refine ⟨fun cq => ?_, fun cq => ?_⟩
  · have hv := hv.1 ((zle zrf (rfl : zi v3 = zi v3) (hJ _ _) iv3).mp cq)
    exact hp _ hJ hv
  · have hv := hv.2 (fun q => cq ((zle zrf (rfl : zi v3 = zi v3) (hJ _ _) iv3).mpr q))
    obtain ⟨g1, hv⟩ := hv
    refine ⟨zvp (rfl : zi v3 = zi v3) iv3 g1.1 g1.2, ?_⟩
    obtain ⟨g2, hv⟩ := hv
    intro xy3 exy3
    obtain ⟨y3, eyy3⟩ : ∃ q9 : Int, q9 = ((J (a1 + 3) v3.toNat) - (J o 0)) := ⟨_, rfl⟩
    have hv := hv y3 eyy3
    have Ey3 : xy3 = zi y3 := exy3.trans (((zs (zrd (rfl : zi v3 = zi v3) iv3 g1.1) zrf)).trans (congrArg zi eyy3.symm))
    have Iy3 : ir y3 := by rw [eyy3]; exact g2
    clear exy3
    obtain ⟨g4, hv⟩ := hv
    refine ⟨zvp (rfl : zi v3 = zi v3) iv3 g4.1 g4.2, ?_⟩
    refine ⟨fun cq => ?_, fun cq => ?_⟩
    · have hv := hv.1 ((zeq (zrd (rfl : zi v3 = zi v3) iv3 g4.1) (rfl : zi a2 = zi a2) (hJ _ _) ia2).mp cq)
      obtain ⟨g5, hv⟩ := hv
      intro xy6 exy6
      obtain ⟨y6, eyy6⟩ : ∃ q9 : Int, q9 = v3 + 1 := ⟨_, rfl⟩
      have hv := hv y6 eyy6
      have Ey6 : xy6 = zi y6 := exy6.trans (((za (rfl : zi v3 = zi v3) (by decide : (1 : Int32) = zi 1))).trans (congrArg zi eyy6.symm))
      have Iy6 : ir y6 := by rw [eyy6]; exact g5
      clear exy6
      exact hv _ hJ Ey6 Iy6
    · have hv := hv.2 (fun q => cq ((zeq (zrd (rfl : zi v3 = zi v3) iv3 g4.1) (rfl : zi a2 = zi a2) (hJ _ _) ia2).mpr q))
      refine ⟨fun cq => ?_, fun cq => ?_⟩
      · have hv := hv.1 ((zlt Ey3 (by decide : (0 : Int32) = zi 0) Iy3 (by decide : ir 0)).mp cq)
        obtain ⟨g7, hv⟩ := hv
        intro xy8 exy8
        obtain ⟨y8, eyy8⟩ : ∃ q9 : Int, q9 = v3 + 1 := ⟨_, rfl⟩
        have hv := hv y8 eyy8
        have Ey8 : xy8 = zi y8 := exy8.trans (((za (rfl : zi v3 = zi v3) (by decide : (1 : Int32) = zi 1))).trans (congrArg zi eyy8.symm))
        have Iy8 : ir y8 := by rw [eyy8]; exact g7
        clear exy8
        exact hv _ hJ Ey8 Iy8
      · have hv := hv.2 (fun q => cq ((zlt Ey3 (by decide : (0 : Int32) = zi 0) Iy3 (by decide : ir 0)).mpr q))
        refine ⟨fun cq => ?_, fun cq => ?_⟩
        · have hv := hv.1 ((zle zrf Ey3 (hJ _ _) Iy3).mp cq)
          obtain ⟨g9, hv⟩ := hv
          intro xy10 exy10
          obtain ⟨y10, eyy10⟩ : ∃ q9 : Int, q9 = v3 + 1 := ⟨_, rfl⟩
          have hv := hv y10 eyy10
          have Ey10 : xy10 = zi y10 := exy10.trans (((za (rfl : zi v3 = zi v3) (by decide : (1 : Int32) = zi 1))).trans (congrArg zi eyy10.symm))
          have Iy10 : ir y10 := by rw [eyy10]; exact g9
          clear exy10
          exact hv _ hJ Ey10 Iy10
        · have hv := hv.2 (fun q => cq ((zle zrf Ey3 (hJ _ _) Iy3).mpr q))
          obtain ⟨g11, hv⟩ := hv
          refine ⟨zvp Ey3 Iy3 g11.1 g11.2, ?_⟩
          obtain ⟨g12, hv⟩ := hv
          refine ⟨zvp (rfl : zi v3 = zi v3) iv3 g12.1 g12.2, ?_⟩
          obtain ⟨g13, hv⟩ := hv
          refine ⟨zvp Ey3 Iy3 g13.1 g13.2, ?_⟩
          intro I1 eI1
          obtain ⟨J14, eJ14⟩ : ∃ q9 : mJ, q9 = up2 J (o + 2) y3.toNat (orZ (J (o + 2) y3.toNat) (shlZ 1 (J (a1 + 2) v3.toNat))) := ⟨_, rfl⟩
          have eI1 : I1 = zz J14 := by rw [eI1, eJ14]; exact zupa Ey3 Iy3 g13.1 (z_or (zrd Ey3 Iy3 g11.1) (z_shl (by decide : (1 : Int32) = zi 1) (zrd (rfl : zi v3 = zi v3) iv3 g12.1)))
          subst eI1
          have hv := hv J14 eJ14
          have hJ : irm J14 := by rw [eJ14]; exact irm_up hJ (ir_toInt _)
          obtain ⟨g15, hv⟩ := hv
          intro xy16 exy16
          obtain ⟨y16, eyy16⟩ : ∃ q9 : Int, q9 = v3 + 1 := ⟨_, rfl⟩
          have hv := hv y16 eyy16
          have Ey16 : xy16 = zi y16 := exy16.trans (((za (rfl : zi v3 = zi v3) (by decide : (1 : Int32) = zi 1))).trans (congrArg zi eyy16.symm))
          have Iy16 : ir y16 := by rw [eyy16]; exact g15
          clear exy16
          exact hv _ hJ Ey16 Iy16
def v_X4_markTrodden (J : mJ) (o : Nat) (a1 : Nat) (a1h : Nat) (a2 : Int) (post' : mJ → Prop) : Prop := (v_X4_markTrodden_2 o a1 a1h a2 post') J 0
theorem vw_X4_markTrodden {J : mJ} {o : Nat} {a1 : Nat} {a1h : Nat} {xa2 : Int32} {a2 : Int} (hJ : irm J)     (ea2 : xa2 = zi a2) (ia2 : ir a2) {post : mI → Prop} {post' : mJ → Prop} (hp : ∀ (J1 : mJ), irm J1 → post' J1 → post (zz J1)) (hv : v_X4_markTrodden J o a1 a1h a2 post') : w_X4_markTrodden (zz J) o a1 a1h xa2 post := by
  subst ea2
  unfold v_X4_markTrodden at hv
  unfold w_X4_markTrodden
  exact vw_X4_markTrodden_2 ia2 hp hJ (by decide : (0 : Int32) = zi 0) (by decide : ir 0) hv
def v_X4_watch_47 (o : Nat) (a1 : Nat) (a1h : Nat) (a2 : Int) (a3 : Int) (a4 : Int) (post' : mJ → Prop) (k104' : mJ → Int → Int → Prop) (J : mJ) (v5 : Int) (v6 : Int) : Prop := ∀ ZZ : (mJ → Int → Int → Prop), (∀ (J : mJ) (v5 : Int) (v6 : Int), (((J a1 2) ≤ v5 → k104' J v5 v6) ∧ (¬ (J a1 2) ≤ v5 → ir ((J o 0) + v6) ∧ v_X4_isAhead J a1 a1h v5 a2 ((J o 0) + v6) (fun b6 => (b6 = false → k104' J v5 v6) ∧ (b6 = true → (0 ≤ v5 ∧ v5 < 600) ∧ ((J (a1 + 1) v5.toNat) = a2 → ir (v5 + 1) ∧ ∀ y9, y9 = v5 + 1 → ZZ J y9 v6) ∧ (¬ (J (a1 + 1) v5.toNat) = a2 → (0 ≤ v5 ∧ v5 < 600) ∧ (0 ≤ (J (a1 + 2) v5.toNat) ∧ (J (a1 + 2) v5.toNat) < 24) ∧ ∀ J12, J12 = up2 J (o + 3) ((J (a1 + 2) v5.toNat).toNat) v5 → ir (v5 + 1) ∧ ∀ y14, y14 = v5 + 1 → ZZ J12 y14 v6))))) → ZZ J v5 v6) → ZZ J v5 v6
theorem vw_X4_watch_47 {o : Nat} {a1 : Nat} {a1h : Nat} {a2 : Int} {a3 : Int} {a4 : Int}  (ia2 : ir a2) (ia3 : ir a3) (ia4 : ir a4) {post : mI → Prop} {post' : mJ → Prop} {k104' : mJ → Int → Int → Prop} {k104 : mI → Int32 → Int32 → Prop} (hp : ∀ (J1 : mJ), irm J1 → post' J1 → post (zz J1)) (hk104 : ∀ (J : mJ) (xv5 : Int32) (v5 : Int) (xv6 : Int32) (v6 : Int), irm J → xv5 = zi v5 → ir v5 → xv6 = zi v6 → ir v6 → k104' J v5 v6 → k104 (zz J) xv5 xv6) {J : mJ} {xv5 : Int32} {v5 : Int} {xv6 : Int32} {v6 : Int} (hJ : irm J) (ev5 : xv5 = zi v5) (iv5 : ir v5) (ev6 : xv6 = zi v6) (iv6 : ir v6) (hv : v_X4_watch_47 o a1 a1h a2 a3 a4 post' k104' J v5 v6) : w_X4_watch_47 o a1 a1h (zi a2) (zi a3) (zi a4) post k104 (zz J) xv5 xv6 := by
  subst ev5
  subst ev6
  unfold v_X4_watch_47 at hv
  unfold w_X4_watch_47
  intro ZZ hZ
  refine hv (fun J v5 v6 => ∀ (xv5 : Int32) (xv6 : Int32), irm J → xv5 = zi v5 → ir v5 → xv6 = zi v6 → ir v6 → ZZ (zz J) xv5 xv6) ?_ _ _ hJ rfl iv5 rfl iv6
  clear hv hJ iv5 iv6
  intro J v5 v6 hv xv5 xv6 hJ ev5 iv5 ev6 iv6
  subst ev5
  subst ev6
  refine hZ _ _ _ ?_
  refine ⟨fun cq => ?_, fun cq => ?_⟩
  · have hv := hv.1 ((zle zrf (rfl : zi v5 = zi v5) (hJ _ _) iv5).mp cq)
    exact hk104 _ _ _ _ _ hJ (rfl : zi v5 = zi v5) iv5 (rfl : zi v6 = zi v6) iv6 hv
  · have hv := hv.2 (fun q => cq ((zle zrf (rfl : zi v5 = zi v5) (hJ _ _) iv5).mpr q))
    obtain ⟨g5, hv⟩ := hv
    refine vw_X4_isAhead hJ (rfl : zi v5 = zi v5) iv5 (rfl : zi a2 = zi a2) ia2 (za zrf (rfl : zi v6 = zi v6)) g5 (fun b6  hv => ?_) hv
    refine ⟨fun cq => ?_, fun cq => ?_⟩
    · have hv := hv.1 cq
      exact hk104 _ _ _ _ _ hJ (rfl : zi v5 = zi v5) iv5 (rfl : zi v6 = zi v6) iv6 hv
    · have hv := hv.2 cq
      obtain ⟨g7, hv⟩ := hv
      refine ⟨zvp (rfl : zi v5 = zi v5) iv5 g7.1 g7.2, ?_⟩
      refine ⟨fun cq => ?_, fun cq => ?_⟩
      · have hv := hv.1 ((zeq (zrd (rfl : zi v5 = zi v5) iv5 g7.1) (rfl : zi a2 = zi a2) (hJ _ _) ia2).mp cq)
        obtain ⟨g8, hv⟩ := hv
        intro xy9 exy9
        obtain ⟨y9, eyy9⟩ : ∃ q9 : Int, q9 = v5 + 1 := ⟨_, rfl⟩
        have hv := hv y9 eyy9
        have Ey9 : xy9 = zi y9 := exy9.trans (((za (rfl : zi v5 = zi v5) (by decide : (1 : Int32) = zi 1))).trans (congrArg zi eyy9.symm))
        have Iy9 : ir y9 := by rw [eyy9]; exact g8
        clear exy9
        exact hv _ _ hJ Ey9 Iy9 (rfl : zi v6 = zi v6) iv6
      · have hv := hv.2 (fun q => cq ((zeq (zrd (rfl : zi v5 = zi v5) iv5 g7.1) (rfl : zi a2 = zi a2) (hJ _ _) ia2).mpr q))
        obtain ⟨g10, hv⟩ := hv
        refine ⟨zvp (rfl : zi v5 = zi v5) iv5 g10.1 g10.2, ?_⟩
        obtain ⟨g11, hv⟩ := hv
        refine ⟨zvp (zrd (rfl : zi v5 = zi v5) iv5 g10.1) (hJ _ _) g11.1 g11.2, ?_⟩
        intro I1 eI1
        obtain ⟨J12, eJ12⟩ : ∃ q9 : mJ, q9 = up2 J (o + 3) ((J (a1 + 2) v5.toNat).toNat) v5 := ⟨_, rfl⟩
        have eI1 : I1 = zz J12 := by rw [eI1, eJ12]; exact zupa (zrd (rfl : zi v5 = zi v5) iv5 g10.1) (hJ _ _) g11.1 (rfl : zi v5 = zi v5)
        subst eI1
        have hv := hv J12 eJ12
        have hJ : irm J12 := by rw [eJ12]; exact irm_up hJ iv5
        obtain ⟨g13, hv⟩ := hv
        intro xy14 exy14
        obtain ⟨y14, eyy14⟩ : ∃ q9 : Int, q9 = v5 + 1 := ⟨_, rfl⟩
        have hv := hv y14 eyy14
        have Ey14 : xy14 = zi y14 := exy14.trans (((za (rfl : zi v5 = zi v5) (by decide : (1 : Int32) = zi 1))).trans (congrArg zi eyy14.symm))
        have Iy14 : ir y14 := by rw [eyy14]; exact g13
        clear exy14
        exact hv _ _ hJ Ey14 Iy14 (rfl : zi v6 = zi v6) iv6
def v_X4_watch_104 (o : Nat) (a1 : Nat) (a1h : Nat) (a2 : Int) (a3 : Int) (a4 : Int) (post' : mJ → Prop) (k38' : mJ → Int → Int → Prop) (J : mJ) (v5 : Int) (v6 : Int) : Prop := ir (v6 * 24) ∧ ((o + 3) ≠ (o + 1) ∧ (0 : Int) ≤ 0 ∧ (0 : Int) ≤ (v6 * 24) ∧ (0 : Int) ≤ 24 ∧ 0 + 24 ≤ 24 ∧ (v6 * 24).toNat + 24 ≤ 2400) ∧ ∀ J17, J17 = cpyZ J (o + 3) (o + 1) 0 ((v6 * 24).toNat) 24 → ir (v6 + 1) ∧ ∀ y19, y19 = v6 + 1 → k38' J17 v5 y19
theorem vw_X4_watch_104 {o : Nat} {a1 : Nat} {a1h : Nat} {a2 : Int} {a3 : Int} {a4 : Int}  (ia2 : ir a2) (ia3 : ir a3) (ia4 : ir a4) {post : mI → Prop} {post' : mJ → Prop} {k38' : mJ → Int → Int → Prop} {k38 : mI → Int32 → Int32 → Prop} (hp : ∀ (J1 : mJ), irm J1 → post' J1 → post (zz J1)) (hk38 : ∀ (J : mJ) (xv5 : Int32) (v5 : Int) (xv6 : Int32) (v6 : Int), irm J → xv5 = zi v5 → ir v5 → xv6 = zi v6 → ir v6 → k38' J v5 v6 → k38 (zz J) xv5 xv6) {J : mJ} {xv5 : Int32} {v5 : Int} {xv6 : Int32} {v6 : Int} (hJ : irm J) (ev5 : xv5 = zi v5) (iv5 : ir v5) (ev6 : xv6 = zi v6) (iv6 : ir v6) (hv : v_X4_watch_104 o a1 a1h a2 a3 a4 post' k38' J v5 v6) : w_X4_watch_104 o a1 a1h (zi a2) (zi a3) (zi a4) post k38 (zz J) xv5 xv6 := by
  subst ev5
  subst ev6
  unfold v_X4_watch_104 at hv
  unfold w_X4_watch_104
  obtain ⟨g15, hv⟩ := hv
  obtain ⟨⟨hz0, hz1, hz2, hz3, hz4, hz5⟩, hv⟩ := hv
  refine ⟨hz0, z_nn (by decide : (0 : Int32) = zi 0) (by decide : ir 0) hz1, z_nn (zm (rfl : zi v6 = zi v6) (by decide : (24 : Int32) = zi 24)) g15 hz2, z_nn (by decide : (24 : Int32) = zi 24) (by decide : ir 24) hz3, z_sum (by decide : (0 : Int32) = zi 0) (by decide : ir 0) hz1 (by decide : (24 : Int32) = zi 24) (by decide : ir 24) hz3 hz4, z_sum (zm (rfl : zi v6 = zi v6) (by decide : (24 : Int32) = zi 24)) g15 hz2 (by decide : (24 : Int32) = zi 24) (by decide : ir 24) hz3 hz5, ?_⟩
  intro I1 eI1
  obtain ⟨J17, eJ17⟩ : ∃ q9 : mJ, q9 = cpyZ J (o + 3) (o + 1) 0 ((v6 * 24).toNat) 24 := ⟨_, rfl⟩
  have eI1 : I1 = zz J17 := by rw [eI1, eJ17]; exact z_cp (by decide : (0 : Int32) = zi 0) (by decide : ir 0) hz1 (zm (rfl : zi v6 = zi v6) (by decide : (24 : Int32) = zi 24)) g15 hz2 (by decide : (24 : Int32) = zi 24) (by decide : ir 24) hz3
  subst eI1
  have hv := hv J17 eJ17
  have hJ : irm J17 := by rw [eJ17]; exact irm_cpy hJ
  obtain ⟨g18, hv⟩ := hv
  intro xy19 exy19
  obtain ⟨y19, eyy19⟩ : ∃ q9 : Int, q9 = v6 + 1 := ⟨_, rfl⟩
  have hv := hv y19 eyy19
  have Ey19 : xy19 = zi y19 := exy19.trans (((za (rfl : zi v6 = zi v6) (by decide : (1 : Int32) = zi 1))).trans (congrArg zi eyy19.symm))
  have Iy19 : ir y19 := by rw [eyy19]; exact g18
  clear exy19
  exact hk38 _ _ _ _ _ hJ (rfl : zi v5 = zi v5) iv5 Ey19 Iy19 hv
def v_X4_watch_38 (o : Nat) (a1 : Nat) (a1h : Nat) (a2 : Int) (a3 : Int) (a4 : Int) (post' : mJ → Prop) (k129' : mJ → Prop) (J : mJ) (v5 : Int) (v6 : Int) : Prop := ∀ ZZ : (mJ → Int → Int → Prop), (∀ (J : mJ) (v5 : Int) (v6 : Int), (((J o 1) ≤ v6 → k129' J) ∧ (¬ (J o 1) ≤ v6 → (v_X4_watch_47 o a1 a1h a2 a3 a4 post' (v_X4_watch_104 o a1 a1h a2 a3 a4 post' ZZ)) J v5 v6)) → ZZ J v5 v6) → ZZ J v5 v6
theorem vw_X4_watch_38 {o : Nat} {a1 : Nat} {a1h : Nat} {a2 : Int} {a3 : Int} {a4 : Int}  (ia2 : ir a2) (ia3 : ir a3) (ia4 : ir a4) {post : mI → Prop} {post' : mJ → Prop} {k129' : mJ → Prop} {k129 : mI → Prop} (hp : ∀ (J1 : mJ), irm J1 → post' J1 → post (zz J1)) (hk129 : ∀ (J : mJ), irm J → k129' J → k129 (zz J)) {J : mJ} {xv5 : Int32} {v5 : Int} {xv6 : Int32} {v6 : Int} (hJ : irm J) (ev5 : xv5 = zi v5) (iv5 : ir v5) (ev6 : xv6 = zi v6) (iv6 : ir v6) (hv : v_X4_watch_38 o a1 a1h a2 a3 a4 post' k129' J v5 v6) : w_X4_watch_38 o a1 a1h (zi a2) (zi a3) (zi a4) post k129 (zz J) xv5 xv6 := by
  subst ev5
  subst ev6
  unfold v_X4_watch_38 at hv
  unfold w_X4_watch_38
  intro ZZ hZ
  refine hv (fun J v5 v6 => ∀ (xv5 : Int32) (xv6 : Int32), irm J → xv5 = zi v5 → ir v5 → xv6 = zi v6 → ir v6 → ZZ (zz J) xv5 xv6) ?_ _ _ hJ rfl iv5 rfl iv6
  clear hv hJ iv5 iv6
  intro J v5 v6 hv xv5 xv6 hJ ev5 iv5 ev6 iv6
  subst ev5
  subst ev6
  refine hZ _ _ _ ?_
  refine ⟨fun cq => ?_, fun cq => ?_⟩
  · have hv := hv.1 ((zle zrf (rfl : zi v6 = zi v6) (hJ _ _) iv6).mp cq)
    exact hk129 _ hJ hv
  · have hv := hv.2 (fun q => cq ((zle zrf (rfl : zi v6 = zi v6) (hJ _ _) iv6).mpr q))
    refine vw_X4_watch_47 ia2 ia3 ia4 hp ?_ hJ (rfl : zi v5 = zi v5) iv5 (rfl : zi v6 = zi v6) iv6 hv
    · intro qq xx vv xx vv hJ ev5 iv5 ev6 iv6 hv
      refine vw_X4_watch_104 ia2 ia3 ia4 hp ?_ hJ ev5 iv5 ev6 iv6 hv
      · intro qq xx vv xx vv hJ ev5 iv5 ev6 iv6 hv
        exact hv _ _ hJ ev5 iv5 ev6 iv6
def v_X4_watch_129 (o : Nat) (a1 : Nat) (a1h : Nat) (a2 : Int) (a3 : Int) (a4 : Int) (post' : mJ → Prop) (J : mJ) : Prop := v_X4_markTrodden J o a1 a1h a2 (fun J20 => post' J20)
theorem vw_X4_watch_129 {o : Nat} {a1 : Nat} {a1h : Nat} {a2 : Int} {a3 : Int} {a4 : Int}  (ia2 : ir a2) (ia3 : ir a3) (ia4 : ir a4) {post : mI → Prop} {post' : mJ → Prop} (hp : ∀ (J1 : mJ), irm J1 → post' J1 → post (zz J1)) {J : mJ} (hJ : irm J) (hv : v_X4_watch_129 o a1 a1h a2 a3 a4 post' J) : w_X4_watch_129 o a1 a1h (zi a2) (zi a3) (zi a4) post (zz J) := by
  unfold v_X4_watch_129 at hv
  unfold w_X4_watch_129
  refine vw_X4_markTrodden hJ (rfl : zi a2 = zi a2) ia2 (fun J20 hJ hv => ?_) hv
  exact hp _ hJ hv
def v_X4_watch (J : mJ) (o : Nat) (a1 : Nat) (a1h : Nat) (a2 : Int) (a3 : Int) (a4 : Int) (post' : mJ → Prop) : Prop := ∀ J1, J1 = up2 J o 0 a3 → ∀ J2, J2 = up2 J1 o 1 (minZ a4 100) → v_J7_fill_53178 J2 (o + 3) 24 (-1) (fun J3 => v_J7_fill_53178 J3 (o + 2) 100 0 (fun J4 => (v_X4_watch_38 o a1 a1h a2 a3 a4 post' (v_X4_watch_129 o a1 a1h a2 a3 a4 post')) J4 0 0))
theorem vw_X4_watch {J : mJ} {o : Nat} {a1 : Nat} {a1h : Nat} {xa2 : Int32} {a2 : Int} {xa3 : Int32} {a3 : Int} {xa4 : Int32} {a4 : Int} (hJ : irm J)     (ea2 : xa2 = zi a2) (ia2 : ir a2) (ea3 : xa3 = zi a3) (ia3 : ir a3) (ea4 : xa4 = zi a4) (ia4 : ir a4) {post : mI → Prop} {post' : mJ → Prop} (hp : ∀ (J1 : mJ), irm J1 → post' J1 → post (zz J1)) (hv : v_X4_watch J o a1 a1h a2 a3 a4 post') : w_X4_watch (zz J) o a1 a1h xa2 xa3 xa4 post := by
  subst ea2
  subst ea3
  subst ea4
  unfold v_X4_watch at hv
  unfold w_X4_watch
  intro I1 eI1
  obtain ⟨J1, eJ1⟩ : ∃ q9 : mJ, q9 = up2 J o 0 a3 := ⟨_, rfl⟩
  have eI1 : I1 = zz J1 := by rw [eI1, eJ1]; exact zup (rfl : zi a3 = zi a3)
  subst eI1
  have hv := hv J1 eJ1
  have hJ : irm J1 := by rw [eJ1]; exact irm_up hJ ia3
  intro I1 eI1
  obtain ⟨J2, eJ2⟩ : ∃ q9 : mJ, q9 = up2 J1 o 1 (minZ a4 100) := ⟨_, rfl⟩
  have eI1 : I1 = zz J2 := by rw [eI1, eJ2]; exact zup (z_min (rfl : zi a4 = zi a4) (by decide : (100 : Int32) = zi 100) ia4 (by decide : ir 100))
  subst eI1
  have hv := hv J2 eJ2
  have hJ : irm J2 := by rw [eJ2]; exact irm_up hJ (ir_min ia4 (by decide : ir 100))
  refine vw_J7_fill_53178 hJ (by decide : ((-1) : Int32) = zi (-1)) (by decide : ir (-1)) (fun J3 hJ hv => ?_) hv
  refine vw_J7_fill_53178 hJ (by decide : (0 : Int32) = zi 0) (by decide : ir 0) (fun J4 hJ hv => ?_) hv
  refine vw_X4_watch_38 ia2 ia3 ia4 hp ?_ hJ (by decide : (0 : Int32) = zi 0) (by decide : ir 0) (by decide : (0 : Int32) = zi 0) (by decide : ir 0) hv
  · intro qq hJ hv
    exact vw_X4_watch_129 ia2 ia3 ia4 hp hJ hv
def v_X4_cover (J : mJ) (o : Nat) (a1 : Int) (a2 : Int) (post' : Bool → Prop) : Prop := ir (a2 - (J o 0)) ∧ ∀ y2, y2 = (a2 - (J o 0)) → (y2 < 0 → post' false) ∧ (¬ y2 < 0 → ((J o 1) ≤ y2 → post' false) ∧ (¬ (J o 1) ≤ y2 → (0 ≤ y2 ∧ y2 < 100) ∧ v_X11_has (J (o + 2) y2.toNat) a1 (fun b4 => (b4 = false → post' false) ∧ (b4 = true → post' true))))
theorem vw_X4_cover {J : mJ} {o : Nat} {xa1 : Int32} {a1 : Int} {xa2 : Int32} {a2 : Int} (hJ : irm J)   (ea1 : xa1 = zi a1) (ia1 : ir a1) (ea2 : xa2 = zi a2) (ia2 : ir a2) {post : Bool → Prop} {post' : Bool → Prop} (hp : ∀ (r : Bool), post' r → post r) (hv : v_X4_cover J o a1 a2 post') : w_X4_cover (zz J) o xa1 xa2 post := by
  subst ea1
  subst ea2
  unfold v_X4_cover at hv
  unfold w_X4_cover
  obtain ⟨g1, hv⟩ := hv
  intro xy2 exy2
  obtain ⟨y2, eyy2⟩ : ∃ q9 : Int, q9 = (a2 - (J o 0)) := ⟨_, rfl⟩
  have hv := hv y2 eyy2
  have Ey2 : xy2 = zi y2 := exy2.trans (((zs (rfl : zi a2 = zi a2) zrf)).trans (congrArg zi eyy2.symm))
  have Iy2 : ir y2 := by rw [eyy2]; exact g1
  clear exy2
  refine ⟨fun cq => ?_, fun cq => ?_⟩
  · have hv := hv.1 ((zlt Ey2 (by decide : (0 : Int32) = zi 0) Iy2 (by decide : ir 0)).mp cq)
    exact hp _ hv
  · have hv := hv.2 (fun q => cq ((zlt Ey2 (by decide : (0 : Int32) = zi 0) Iy2 (by decide : ir 0)).mpr q))
    refine ⟨fun cq => ?_, fun cq => ?_⟩
    · have hv := hv.1 ((zle zrf Ey2 (hJ _ _) Iy2).mp cq)
      exact hp _ hv
    · have hv := hv.2 (fun q => cq ((zle zrf Ey2 (hJ _ _) Iy2).mpr q))
      obtain ⟨g3, hv⟩ := hv
      refine ⟨zvp Ey2 Iy2 g3.1 g3.2, ?_⟩
      refine vw_X11_has (zrd Ey2 Iy2 g3.1) (hJ _ _) (rfl : zi a1 = zi a1) ia1 (fun b4  hv => ?_) hv
      refine ⟨fun cq => ?_, fun cq => ?_⟩
      · have hv := hv.1 cq
        exact hp _ hv
      · have hv := hv.2 cq
        exact hp _ hv
def v_X5_isBlank (a1 : Int) (post' : Bool → Prop) : Prop := (a1 = 10 → post' true) ∧ (¬ a1 = 10 → (¬ a1 = 32 → post' false) ∧ (a1 = 32 → post' true))
theorem vw_X5_isBlank {xa1 : Int32} {a1 : Int}  (ea1 : xa1 = zi a1) (ia1 : ir a1) {post : Bool → Prop} {post' : Bool → Prop} (hp : ∀ (r : Bool), post' r → post r) (hv : v_X5_isBlank a1 post') : w_X5_isBlank xa1 post := by
  subst ea1
  unfold v_X5_isBlank at hv
  unfold w_X5_isBlank
  refine ⟨fun cq => ?_, fun cq => ?_⟩
  · have hv := hv.1 ((zeq (rfl : zi a1 = zi a1) (by decide : (10 : Int32) = zi 10) ia1 (by decide : ir 10)).mp cq)
    exact hp _ hv
  · have hv := hv.2 (fun q => cq ((zeq (rfl : zi a1 = zi a1) (by decide : (10 : Int32) = zi 10) ia1 (by decide : ir 10)).mpr q))
    refine ⟨fun cq => ?_, fun cq => ?_⟩
    · have hv := hv.1 (fun q => cq ((zeq (rfl : zi a1 = zi a1) (by decide : (32 : Int32) = zi 32) ia1 (by decide : ir 32)).mpr q))
      exact hp _ hv
    · have hv := hv.2 ((zeq (rfl : zi a1 = zi a1) (by decide : (32 : Int32) = zi 32) ia1 (by decide : ir 32)).mp cq)
      exact hp _ hv
def v_X5_isLetter (a1 : Int) (post' : Bool → Prop) : Prop := (a1 < 97 → post' false) ∧ (¬ a1 < 97 → (122 < a1 → post' false) ∧ (¬ 122 < a1 → post' true))
theorem vw_X5_isLetter {xa1 : Int32} {a1 : Int}  (ea1 : xa1 = zi a1) (ia1 : ir a1) {post : Bool → Prop} {post' : Bool → Prop} (hp : ∀ (r : Bool), post' r → post r) (hv : v_X5_isLetter a1 post') : w_X5_isLetter xa1 post := by
  subst ea1
  unfold v_X5_isLetter at hv
  unfold w_X5_isLetter
  refine ⟨fun cq => ?_, fun cq => ?_⟩
  · have hv := hv.1 ((zlt (rfl : zi a1 = zi a1) (by decide : (97 : Int32) = zi 97) ia1 (by decide : ir 97)).mp cq)
    exact hp _ hv
  · have hv := hv.2 (fun q => cq ((zlt (rfl : zi a1 = zi a1) (by decide : (97 : Int32) = zi 97) ia1 (by decide : ir 97)).mpr q))
    refine ⟨fun cq => ?_, fun cq => ?_⟩
    · have hv := hv.1 ((zlt (by decide : (122 : Int32) = zi 122) (rfl : zi a1 = zi a1) (by decide : ir 122) ia1).mp cq)
      exact hp _ hv
    · have hv := hv.2 (fun q => cq ((zlt (by decide : (122 : Int32) = zi 122) (rfl : zi a1 = zi a1) (by decide : ir 122) ia1).mpr q))
      exact hp _ hv
def v_X5_readWord_5 (o : Nat) (otp : Nat) (post' : mJ → Prop) (J : mJ) : Prop := ∀ ZZ : (mJ → Prop), (∀ (J : mJ), (((J o 5) ≤ (J o 6) → post' J) ∧ (¬ (J o 5) ≤ (J o 6) → (0 ≤ (J o 6) ∧ (J o 6) < 600) ∧ v_X5_isLetter (J otp (J o 6).toNat) (fun b3 => (b3 = false → post' J) ∧ (b3 = true → ir ((J o 6) + 1) ∧ ∀ J5, J5 = up2 J o 6 ((J o 6) + 1) → ZZ J5)))) → ZZ J) → ZZ J
theorem vw_X5_readWord_5 {o : Nat} {otp : Nat}   {post : mI → Prop} {post' : mJ → Prop} (hp : ∀ (J1 : mJ), irm J1 → post' J1 → post (zz J1)) {J : mJ} (hJ : irm J) (hv : v_X5_readWord_5 o otp post' J) : w_X5_readWord_5 o otp post (zz J) := by
  unfold v_X5_readWord_5 at hv
  unfold w_X5_readWord_5
  intro ZZ hZ
  refine hv (fun J => irm J → ZZ (zz J)) ?_ hJ
  clear hv hJ
  intro J hv hJ
  refine hZ _ ?_
  refine ⟨fun cq => ?_, fun cq => ?_⟩
  · have hv := hv.1 ((zle zrf zrf (hJ _ _) (hJ _ _)).mp cq)
    exact hp _ hJ hv
  · have hv := hv.2 (fun q => cq ((zle zrf zrf (hJ _ _) (hJ _ _)).mpr q))
    obtain ⟨g2, hv⟩ := hv
    refine ⟨zvp zrf (hJ _ _) g2.1 g2.2, ?_⟩
    refine vw_X5_isLetter (zrd zrf (hJ _ _) g2.1) (hJ _ _) (fun b3  hv => ?_) hv
    refine ⟨fun cq => ?_, fun cq => ?_⟩
    · have hv := hv.1 cq
      exact hp _ hJ hv
    · have hv := hv.2 cq
      obtain ⟨g4, hv⟩ := hv
      intro I1 eI1
      obtain ⟨J5, eJ5⟩ : ∃ q9 : mJ, q9 = up2 J o 6 ((J o 6) + 1) := ⟨_, rfl⟩
      have eI1 : I1 = zz J5 := by rw [eI1, eJ5]; exact zup (za zrf (by decide : (1 : Int32) = zi 1))
      subst eI1
      have hv := hv J5 eJ5
      have hJ : irm J5 := by rw [eJ5]; exact irm_up hJ g4
      exact hv  hJ
def v_X5_readWord (J : mJ) (o : Nat) (otp : Nat) (post' : mJ → Prop) : Prop := ∀ J1, J1 = up2 J o 7 1 → (v_X5_readWord_5 o otp post') J1
theorem vw_X5_readWord {J : mJ} {o : Nat} {otp : Nat} (hJ : irm J)    {post : mI → Prop} {post' : mJ → Prop} (hp : ∀ (J1 : mJ), irm J1 → post' J1 → post (zz J1)) (hv : v_X5_readWord J o otp post') : w_X5_readWord (zz J) o otp post := by
  unfold v_X5_readWord at hv
  unfold w_X5_readWord
  intro I1 eI1
  obtain ⟨J1, eJ1⟩ : ∃ q9 : mJ, q9 = up2 J o 7 1 := ⟨_, rfl⟩
  have eI1 : I1 = zz J1 := by rw [eI1, eJ1]; exact zup (by decide : (1 : Int32) = zi 1)
  subst eI1
  have hv := hv J1 eJ1
  have hJ : irm J1 := by rw [eJ1]; exact irm_up hJ (by decide : ir 1)
  exact vw_X5_readWord_5  hp hJ hv
def v_X5_isDigit (a1 : Int) (post' : Bool → Prop) : Prop := (a1 < 48 → post' false) ∧ (¬ a1 < 48 → (57 < a1 → post' false) ∧ (¬ 57 < a1 → post' true))
theorem vw_X5_isDigit {xa1 : Int32} {a1 : Int}  (ea1 : xa1 = zi a1) (ia1 : ir a1) {post : Bool → Prop} {post' : Bool → Prop} (hp : ∀ (r : Bool), post' r → post r) (hv : v_X5_isDigit a1 post') : w_X5_isDigit xa1 post := by
  subst ea1
  unfold v_X5_isDigit at hv
  unfold w_X5_isDigit
  refine ⟨fun cq => ?_, fun cq => ?_⟩
  · have hv := hv.1 ((zlt (rfl : zi a1 = zi a1) (by decide : (48 : Int32) = zi 48) ia1 (by decide : ir 48)).mp cq)
    exact hp _ hv
  · have hv := hv.2 (fun q => cq ((zlt (rfl : zi a1 = zi a1) (by decide : (48 : Int32) = zi 48) ia1 (by decide : ir 48)).mpr q))
    refine ⟨fun cq => ?_, fun cq => ?_⟩
    · have hv := hv.1 ((zlt (by decide : (57 : Int32) = zi 57) (rfl : zi a1 = zi a1) (by decide : ir 57) ia1).mp cq)
      exact hp _ hv
    · have hv := hv.2 (fun q => cq ((zlt (by decide : (57 : Int32) = zi 57) (rfl : zi a1 = zi a1) (by decide : ir 57) ia1).mpr q))
      exact hp _ hv
def v_X5_readNumber_68 (o : Nat) (otp : Nat) (post' : mJ → Prop) (k5' : mJ → Prop) (J : mJ) : Prop := ir ((J o 6) + 1) ∧ ∀ J11, J11 = up2 J o 6 ((J o 6) + 1) → k5' J11
theorem vw_X5_readNumber_68 {o : Nat} {otp : Nat}   {post : mI → Prop} {post' : mJ → Prop} {k5' : mJ → Prop} {k5 : mI → Prop} (hp : ∀ (J1 : mJ), irm J1 → post' J1 → post (zz J1)) (hk5 : ∀ (J : mJ), irm J → k5' J → k5 (zz J)) {J : mJ} (hJ : irm J) (hv : v_X5_readNumber_68 o otp post' k5' J) : w_X5_readNumber_68 o otp post k5 (zz J) := by
  unfold v_X5_readNumber_68 at hv
  unfold w_X5_readNumber_68
  obtain ⟨g10, hv⟩ := hv
  intro I1 eI1
  obtain ⟨J11, eJ11⟩ : ∃ q9 : mJ, q9 = up2 J o 6 ((J o 6) + 1) := ⟨_, rfl⟩
  have eI1 : I1 = zz J11 := by rw [eI1, eJ11]; exact zup (za zrf (by decide : (1 : Int32) = zi 1))
  subst eI1
  have hv := hv J11 eJ11
  have hJ : irm J11 := by rw [eJ11]; exact irm_up hJ g10
  exact hk5 _ hJ hv
def v_X5_readNumber_5 (o : Nat) (otp : Nat) (post' : mJ → Prop) (k81' : mJ → Prop) (J : mJ) : Prop := ∀ ZZ : (mJ → Prop), (∀ (J : mJ), (((J o 5) ≤ (J o 6) → k81' J) ∧ (¬ (J o 5) ≤ (J o 6) → (0 ≤ (J o 6) ∧ (J o 6) < 600) ∧ v_X5_isDigit (J otp (J o 6).toNat) (fun b3 => (b3 = false → k81' J) ∧ (b3 = true → ir ((J o 6) - (J o 8)) ∧ (2 ≤ ((J o 6) - (J o 8)) → (v_X5_readNumber_68 o otp post' ZZ) J) ∧ (¬ 2 ≤ ((J o 6) - (J o 8)) → ir ((J o 9) * 10) ∧ (0 ≤ (J o 6) ∧ (J o 6) < 600) ∧ ir (((J o 9) * 10) + (J otp (J o 6).toNat)) ∧ ir ((((J o 9) * 10) + (J otp (J o 6).toNat)) - 48) ∧ ∀ J9, J9 = up2 J o 9 ((((J o 9) * 10) + (J otp (J o 6).toNat)) - 48) → (v_X5_readNumber_68 o otp post' ZZ) J9))))) → ZZ J) → ZZ J
theorem vw_X5_readNumber_5 {o : Nat} {otp : Nat}   {post : mI → Prop} {post' : mJ → Prop} {k81' : mJ → Prop} {k81 : mI → Prop} (hp : ∀ (J1 : mJ), irm J1 → post' J1 → post (zz J1)) (hk81 : ∀ (J : mJ), irm J → k81' J → k81 (zz J)) {J : mJ} (hJ : irm J) (hv : v_X5_readNumber_5 o otp post' k81' J) : w_X5_readNumber_5 o otp post k81 (zz J) := by
  unfold v_X5_readNumber_5 at hv
  unfold w_X5_readNumber_5
  intro ZZ hZ
  refine hv (fun J => irm J → ZZ (zz J)) ?_ hJ
  clear hv hJ
  intro J hv hJ
  refine hZ _ ?_
  refine ⟨fun cq => ?_, fun cq => ?_⟩
  · have hv := hv.1 ((zle zrf zrf (hJ _ _) (hJ _ _)).mp cq)
    exact hk81 _ hJ hv
  · have hv := hv.2 (fun q => cq ((zle zrf zrf (hJ _ _) (hJ _ _)).mpr q))
    obtain ⟨g2, hv⟩ := hv
    refine ⟨zvp zrf (hJ _ _) g2.1 g2.2, ?_⟩
    refine vw_X5_isDigit (zrd zrf (hJ _ _) g2.1) (hJ _ _) (fun b3  hv => ?_) hv
    refine ⟨fun cq => ?_, fun cq => ?_⟩
    · have hv := hv.1 cq
      exact hk81 _ hJ hv
    · have hv := hv.2 cq
      obtain ⟨g4, hv⟩ := hv
      refine ⟨fun cq => ?_, fun cq => ?_⟩
      · have hv := hv.1 ((zle (by decide : (2 : Int32) = zi 2) (zs zrf zrf) (by decide : ir 2) g4).mp cq)
        refine vw_X5_readNumber_68  hp ?_ hJ hv
        · intro qq hJ hv
          exact hv  hJ
      · have hv := hv.2 (fun q => cq ((zle (by decide : (2 : Int32) = zi 2) (zs zrf zrf) (by decide : ir 2) g4).mpr q))
        obtain ⟨g5, hv⟩ := hv
        obtain ⟨g6, hv⟩ := hv
        refine ⟨zvp zrf (hJ _ _) g6.1 g6.2, ?_⟩
        obtain ⟨g7, hv⟩ := hv
        obtain ⟨g8, hv⟩ := hv
        intro I1 eI1
        obtain ⟨J9, eJ9⟩ : ∃ q9 : mJ, q9 = up2 J o 9 ((((J o 9) * 10) + (J otp (J o 6).toNat)) - 48) := ⟨_, rfl⟩
        have eI1 : I1 = zz J9 := by rw [eI1, eJ9]; exact zup (zs (za (zm zrf (by decide : (10 : Int32) = zi 10)) (zrd zrf (hJ _ _) g6.1)) (by decide : (48 : Int32) = zi 48))
        subst eI1
        have hv := hv J9 eJ9
        have hJ : irm J9 := by rw [eJ9]; exact irm_up hJ g8
        refine vw_X5_readNumber_68  hp ?_ hJ hv
        · intro qq hJ hv
          exact hv  hJ
def v_X5_readNumber_100 (o : Nat) (otp : Nat) (post' : mJ → Prop) (J : mJ) (s1 : Int) : Prop := ∀ J13, J13 = up2 J o 7 s1 → post' J13
theorem vw_X5_readNumber_100 {o : Nat} {otp : Nat}   {post : mI → Prop} {post' : mJ → Prop} (hp : ∀ (J1 : mJ), irm J1 → post' J1 → post (zz J1)) {J : mJ} {xs1 : Int32} {s1 : Int} (hJ : irm J) (es1 : xs1 = zi s1) (is1 : ir s1) (hv : v_X5_readNumber_100 o otp post' J s1) : w_X5_readNumber_100 o otp post (zz J) xs1 := by
  subst es1
  unfold v_X5_readNumber_100 at hv
  unfold w_X5_readNumber_100
  intro I1 eI1
  obtain ⟨J13, eJ13⟩ : ∃ q9 : mJ, q9 = up2 J o 7 s1 := ⟨_, rfl⟩
  have eI1 : I1 = zz J13 := by rw [eI1, eJ13]; exact zup (rfl : zi s1 = zi s1)
  subst eI1
  have hv := hv J13 eJ13
  have hJ : irm J13 := by rw [eJ13]; exact irm_up hJ is1
  exact hp _ hJ hv
def v_X5_readNumber_81 (o : Nat) (otp : Nat) (post' : mJ → Prop) (J : mJ) : Prop := ir ((J o 6) - (J o 8)) ∧ (2 < ((J o 6) - (J o 8)) → (v_X5_readNumber_100 o otp post') J 5) ∧ (¬ 2 < ((J o 6) - (J o 8)) → (v_X5_readNumber_100 o otp post') J 2)
theorem vw_X5_readNumber_81 {o : Nat} {otp : Nat}   {post : mI → Prop} {post' : mJ → Prop} (hp : ∀ (J1 : mJ), irm J1 → post' J1 → post (zz J1)) {J : mJ} (hJ : irm J) (hv : v_X5_readNumber_81 o otp post' J) : w_X5_readNumber_81 o otp post (zz J) := by
  unfold v_X5_readNumber_81 at hv
  unfold w_X5_readNumber_81
  obtain ⟨g12, hv⟩ := hv
  refine ⟨fun cq => ?_, fun cq => ?_⟩
  · have hv := hv.1 ((zlt (by decide : (2 : Int32) = zi 2) (zs zrf zrf) (by decide : ir 2) g12).mp cq)
    exact vw_X5_readNumber_100  hp hJ (by decide : (5 : Int32) = zi 5) (by decide : ir 5) hv
  · have hv := hv.2 (fun q => cq ((zlt (by decide : (2 : Int32) = zi 2) (zs zrf zrf) (by decide : ir 2) g12).mpr q))
    exact vw_X5_readNumber_100  hp hJ (by decide : (2 : Int32) = zi 2) (by decide : ir 2) hv
def v_X5_readNumber (J : mJ) (o : Nat) (otp : Nat) (post' : mJ → Prop) : Prop := ∀ J1, J1 = up2 J o 9 0 → (v_X5_readNumber_5 o otp post' (v_X5_readNumber_81 o otp post')) J1
theorem vw_X5_readNumber {J : mJ} {o : Nat} {otp : Nat} (hJ : irm J)    {post : mI → Prop} {post' : mJ → Prop} (hp : ∀ (J1 : mJ), irm J1 → post' J1 → post (zz J1)) (hv : v_X5_readNumber J o otp post') : w_X5_readNumber (zz J) o otp post := by
  unfold v_X5_readNumber at hv
  unfold w_X5_readNumber
  intro I1 eI1
  obtain ⟨J1, eJ1⟩ : ∃ q9 : mJ, q9 = up2 J o 9 0 := ⟨_, rfl⟩
  have eI1 : I1 = zz J1 := by rw [eI1, eJ1]; exact zup (by decide : (0 : Int32) = zi 0)
  subst eI1
  have hv := hv J1 eJ1
  have hJ : irm J1 := by rw [eJ1]; exact irm_up hJ (by decide : ir 0)
  refine vw_X5_readNumber_5  hp ?_ hJ hv
  · intro qq hJ hv
    exact vw_X5_readNumber_81  hp hJ hv
def v_X5_nextToken_0 (o : Nat) (otp : Nat) (post' : mJ → Prop) (k39' : mJ → Prop) (J : mJ) : Prop := ∀ ZZ : (mJ → Prop), (∀ (J : mJ), (((J o 5) ≤ (J o 6) → k39' J) ∧ (¬ (J o 5) ≤ (J o 6) → (0 ≤ (J o 6) ∧ (J o 6) < 600) ∧ v_X5_isBlank (J otp (J o 6).toNat) (fun b2 => (b2 = false → k39' J) ∧ (b2 = true → ir ((J o 6) + 1) ∧ ∀ J4, J4 = up2 J o 6 ((J o 6) + 1) → ZZ J4)))) → ZZ J) → ZZ J
theorem vw_X5_nextToken_0 {o : Nat} {otp : Nat}   {post : mI → Prop} {post' : mJ → Prop} {k39' : mJ → Prop} {k39 : mI → Prop} (hp : ∀ (J1 : mJ), irm J1 → post' J1 → post (zz J1)) (hk39 : ∀ (J : mJ), irm J → k39' J → k39 (zz J)) {J : mJ} (hJ : irm J) (hv : v_X5_nextToken_0 o otp post' k39' J) : w_X5_nextToken_0 o otp post k39 (zz J) := by
  unfold v_X5_nextToken_0 at hv
  unfold w_X5_nextToken_0
  intro ZZ hZ
  refine hv (fun J => irm J → ZZ (zz J)) ?_ hJ
  clear hv hJ
  intro J hv hJ
  refine hZ _ ?_
  refine ⟨fun cq => ?_, fun cq => ?_⟩
  · have hv := hv.1 ((zle zrf zrf (hJ _ _) (hJ _ _)).mp cq)
    exact hk39 _ hJ hv
  · have hv := hv.2 (fun q => cq ((zle zrf zrf (hJ _ _) (hJ _ _)).mpr q))
    obtain ⟨g1, hv⟩ := hv
    refine ⟨zvp zrf (hJ _ _) g1.1 g1.2, ?_⟩
    refine vw_X5_isBlank (zrd zrf (hJ _ _) g1.1) (hJ _ _) (fun b2  hv => ?_) hv
    refine ⟨fun cq => ?_, fun cq => ?_⟩
    · have hv := hv.1 cq
      exact hk39 _ hJ hv
    · have hv := hv.2 cq
      obtain ⟨g3, hv⟩ := hv
      intro I1 eI1
      obtain ⟨J4, eJ4⟩ : ∃ q9 : mJ, q9 = up2 J o 6 ((J o 6) + 1) := ⟨_, rfl⟩
      have eI1 : I1 = zz J4 := by rw [eI1, eJ4]; exact zup (za zrf (by decide : (1 : Int32) = zi 1))
      subst eI1
      have hv := hv J4 eJ4
      have hJ : irm J4 := by rw [eJ4]; exact irm_up hJ g3
      exact hv  hJ
def v_X5_nextToken_148 (o : Nat) (otp : Nat) (post' : mJ → Prop) (J : mJ) (s1 : Int) : Prop := ∀ J15, J15 = up2 J o 7 s1 → ir ((J15 o 6) + 1) ∧ ∀ J17, J17 = up2 J15 o 6 ((J15 o 6) + 1) → post' J17
theorem vw_X5_nextToken_148 {o : Nat} {otp : Nat}   {post : mI → Prop} {post' : mJ → Prop} (hp : ∀ (J1 : mJ), irm J1 → post' J1 → post (zz J1)) {J : mJ} {xs1 : Int32} {s1 : Int} (hJ : irm J) (es1 : xs1 = zi s1) (is1 : ir s1) (hv : v_X5_nextToken_148 o otp post' J s1) : w_X5_nextToken_148 o otp post (zz J) xs1 := by
  subst es1
  unfold v_X5_nextToken_148 at hv
  unfold w_X5_nextToken_148
  intro I1 eI1
  obtain ⟨J15, eJ15⟩ : ∃ q9 : mJ, q9 = up2 J o 7 s1 := ⟨_, rfl⟩
  have eI1 : I1 = zz J15 := by rw [eI1, eJ15]; exact zup (rfl : zi s1 = zi s1)
  subst eI1
  have hv := hv J15 eJ15
  have hJ : irm J15 := by rw [eJ15]; exact irm_up hJ is1
  obtain ⟨g16, hv⟩ := hv
  intro I1 eI1
  obtain ⟨J17, eJ17⟩ : ∃ q9 : mJ, q9 = up2 J15 o 6 ((J15 o 6) + 1) := ⟨_, rfl⟩
  have eI1 : I1 = zz J17 := by rw [eI1, eJ17]; exact zup (za zrf (by decide : (1 : Int32) = zi 1))
  subst eI1
  have hv := hv J17 eJ17
  have hJ : irm J17 := by rw [eJ17]; exact irm_up hJ g16
  exact hp _ hJ hv
def v_X5_nextToken_39 (o : Nat) (otp : Nat) (post' : mJ → Prop) (J : mJ) : Prop := ∀ J5, J5 = up2 J o 8 (J o 6) → ((J5 o 6) < (J5 o 5) → (0 ≤ (J5 o 6) ∧ (J5 o 6) < 600) ∧ v_X5_isLetter (J5 otp (J5 o 6).toNat) (fun b7 => (b7 = false → (0 ≤ (J5 o 6) ∧ (J5 o 6) < 600) ∧ v_X5_isDigit (J5 otp (J5 o 6).toNat) (fun b9 => (b9 = false → (0 ≤ (J5 o 6) ∧ (J5 o 6) < 600) ∧ (¬ (J5 otp (J5 o 6).toNat) = 45 → (0 ≤ (J5 o 6) ∧ (J5 o 6) < 600) ∧ (¬ (J5 otp (J5 o 6).toNat) = 59 → (v_X5_nextToken_148 o otp post') J5 5) ∧ ((J5 otp (J5 o 6).toNat) = 59 → (v_X5_nextToken_148 o otp post') J5 4)) ∧ ((J5 otp (J5 o 6).toNat) = 45 → (v_X5_nextToken_148 o otp post') J5 3)) ∧ (b9 = true → v_X5_readNumber J5 o otp (fun J12 => post' J12)))) ∧ (b7 = true → v_X5_readWord J5 o otp (fun J13 => post' J13)))) ∧ (¬ (J5 o 6) < (J5 o 5) → ∀ J14, J14 = up2 J5 o 7 0 → post' J14)
theorem vw_X5_nextToken_39 {o : Nat} {otp : Nat}   {post : mI → Prop} {post' : mJ → Prop} (hp : ∀ (J1 : mJ), irm J1 → post' J1 → post (zz J1)) {J : mJ} (hJ : irm J) (hv : v_X5_nextToken_39 o otp post' J) : w_X5_nextToken_39 o otp post (zz J) := by
  unfold v_X5_nextToken_39 at hv
  unfold w_X5_nextToken_39
  intro I1 eI1
  obtain ⟨J5, eJ5⟩ : ∃ q9 : mJ, q9 = up2 J o 8 (J o 6) := ⟨_, rfl⟩
  have eI1 : I1 = zz J5 := by rw [eI1, eJ5]; exact zup zrf
  subst eI1
  have hv := hv J5 eJ5
  have hJ : irm J5 := by rw [eJ5]; exact irm_up hJ (hJ _ _)
  refine ⟨fun cq => ?_, fun cq => ?_⟩
  · have hv := hv.1 ((zlt zrf zrf (hJ _ _) (hJ _ _)).mp cq)
    obtain ⟨g6, hv⟩ := hv
    refine ⟨zvp zrf (hJ _ _) g6.1 g6.2, ?_⟩
    refine vw_X5_isLetter (zrd zrf (hJ _ _) g6.1) (hJ _ _) (fun b7  hv => ?_) hv
    refine ⟨fun cq => ?_, fun cq => ?_⟩
    · have hv := hv.1 cq
      obtain ⟨g8, hv⟩ := hv
      refine ⟨zvp zrf (hJ _ _) g8.1 g8.2, ?_⟩
      refine vw_X5_isDigit (zrd zrf (hJ _ _) g8.1) (hJ _ _) (fun b9  hv => ?_) hv
      refine ⟨fun cq => ?_, fun cq => ?_⟩
      · have hv := hv.1 cq
        obtain ⟨g10, hv⟩ := hv
        refine ⟨zvp zrf (hJ _ _) g10.1 g10.2, ?_⟩
        refine ⟨fun cq => ?_, fun cq => ?_⟩
        · have hv := hv.1 (fun q => cq ((zeq (zrd zrf (hJ _ _) g10.1) (by decide : (45 : Int32) = zi 45) (hJ _ _) (by decide : ir 45)).mpr q))
          obtain ⟨g11, hv⟩ := hv
          refine ⟨zvp zrf (hJ _ _) g11.1 g11.2, ?_⟩
          refine ⟨fun cq => ?_, fun cq => ?_⟩
          · have hv := hv.1 (fun q => cq ((zeq (zrd zrf (hJ _ _) g11.1) (by decide : (59 : Int32) = zi 59) (hJ _ _) (by decide : ir 59)).mpr q))
            exact vw_X5_nextToken_148  hp hJ (by decide : (5 : Int32) = zi 5) (by decide : ir 5) hv
          · have hv := hv.2 ((zeq (zrd zrf (hJ _ _) g11.1) (by decide : (59 : Int32) = zi 59) (hJ _ _) (by decide : ir 59)).mp cq)
            exact vw_X5_nextToken_148  hp hJ (by decide : (4 : Int32) = zi 4) (by decide : ir 4) hv
        · have hv := hv.2 ((zeq (zrd zrf (hJ _ _) g10.1) (by decide : (45 : Int32) = zi 45) (hJ _ _) (by decide : ir 45)).mp cq)
          exact vw_X5_nextToken_148  hp hJ (by decide : (3 : Int32) = zi 3) (by decide : ir 3) hv
      · have hv := hv.2 cq
        refine vw_X5_readNumber hJ  (fun J12 hJ hv => ?_) hv
        exact hp _ hJ hv
    · have hv := hv.2 cq
      refine vw_X5_readWord hJ  (fun J13 hJ hv => ?_) hv
      exact hp _ hJ hv
  · have hv := hv.2 (fun q => cq ((zlt zrf zrf (hJ _ _) (hJ _ _)).mpr q))
    intro I1 eI1
    obtain ⟨J14, eJ14⟩ : ∃ q9 : mJ, q9 = up2 J5 o 7 0 := ⟨_, rfl⟩
    have eI1 : I1 = zz J14 := by rw [eI1, eJ14]; exact zup (by decide : (0 : Int32) = zi 0)
    subst eI1
    have hv := hv J14 eJ14
    have hJ : irm J14 := by rw [eJ14]; exact irm_up hJ (by decide : ir 0)
    exact hp _ hJ hv
def v_X5_nextToken (J : mJ) (o : Nat) (otp : Nat) (post' : mJ → Prop) : Prop := (v_X5_nextToken_0 o otp post' (v_X5_nextToken_39 o otp post')) J
theorem vw_X5_nextToken {J : mJ} {o : Nat} {otp : Nat} (hJ : irm J)    {post : mI → Prop} {post' : mJ → Prop} (hp : ∀ (J1 : mJ), irm J1 → post' J1 → post (zz J1)) (hv : v_X5_nextToken J o otp post') : w_X5_nextToken (zz J) o otp post := by
  unfold v_X5_nextToken at hv
  unfold w_X5_nextToken
  refine vw_X5_nextToken_0  hp ?_ hJ hv
  · intro qq hJ hv
    exact vw_X5_nextToken_39  hp hJ hv
def v_X5_breakOff (J : mJ) (o : Nat) (otp : Nat) (post' : mJ → Prop) : Prop := ∀ J1, J1 = up2 J o 2 1 → ∀ J2, J2 = up2 J1 o 3 (J1 o 8) → post' J2
theorem vw_X5_breakOff {J : mJ} {o : Nat} {otp : Nat} (hJ : irm J)    {post : mI → Prop} {post' : mJ → Prop} (hp : ∀ (J1 : mJ), irm J1 → post' J1 → post (zz J1)) (hv : v_X5_breakOff J o otp post') : w_X5_breakOff (zz J) o otp post := by
  unfold v_X5_breakOff at hv
  unfold w_X5_breakOff
  intro I1 eI1
  obtain ⟨J1, eJ1⟩ : ∃ q9 : mJ, q9 = up2 J o 2 1 := ⟨_, rfl⟩
  have eI1 : I1 = zz J1 := by rw [eI1, eJ1]; exact zup (by decide : (1 : Int32) = zi 1)
  subst eI1
  have hv := hv J1 eJ1
  have hJ : irm J1 := by rw [eJ1]; exact irm_up hJ (by decide : ir 1)
  intro I1 eI1
  obtain ⟨J2, eJ2⟩ : ∃ q9 : mJ, q9 = up2 J1 o 3 (J1 o 8) := ⟨_, rfl⟩
  have eI1 : I1 = zz J2 := by rw [eI1, eJ2]; exact zup zrf
  subst eI1
  have hv := hv J2 eJ2
  have hJ : irm J2 := by rw [eJ2]; exact irm_up hJ (hJ _ _)
  exact hp _ hJ hv
def v_X5_isFull (J : mJ) (o : Nat) (otp : Nat) (a1 : Int) (post' : Bool → Prop) : Prop := (a1 = 3 → ((J (o + 1) 2) < 6 → post' false) ∧ (¬ (J (o + 1) 2) < 6 → post' true)) ∧ (a1 = 4 → ((J (o + 1) 3) < 6 → post' false) ∧ (¬ (J (o + 1) 3) < 6 → post' true)) ∧ (a1 = 5 → post' false) ∧ (a1 = 6 → ((J (o + 1) 4) < 8 → post' false) ∧ (¬ (J (o + 1) 4) < 8 → post' true)) ∧ (a1 = 7 → ((J (o + 15) 0) < 10 → post' false) ∧ (¬ (J (o + 15) 0) < 10 → post' true)) ∧ (¬ a1 = 3 → ¬ a1 = 4 → ¬ a1 = 5 → ¬ a1 = 6 → ¬ a1 = 7 → post' false)
theorem vw_X5_isFull {J : mJ} {o : Nat} {otp : Nat} {xa1 : Int32} {a1 : Int} (hJ : irm J)    (ea1 : xa1 = zi a1) (ia1 : ir a1) {post : Bool → Prop} {post' : Bool → Prop} (hp : ∀ (r : Bool), post' r → post r) (hv : v_X5_isFull J o otp a1 post') : w_X5_isFull (zz J) o otp xa1 post := by
  subst ea1
  unfold v_X5_isFull at hv
  unfold w_X5_isFull
  refine ⟨fun cq => ?_, fun cq => ?_, fun cq => ?_, fun cq => ?_, fun cq => ?_, fun c0 c1 c2 c3 c4 => ?_⟩
  · have hv := hv.1 ((zeq (rfl : zi a1 = zi a1) (by decide : (3 : Int32) = zi 3) ia1 (by decide : ir 3)).mp cq)
    refine ⟨fun cq => ?_, fun cq => ?_⟩
    · have hv := hv.1 ((zlt zrf (by decide : (6 : Int32) = zi 6) (hJ _ _) (by decide : ir 6)).mp cq)
      exact hp _ hv
    · have hv := hv.2 (fun q => cq ((zlt zrf (by decide : (6 : Int32) = zi 6) (hJ _ _) (by decide : ir 6)).mpr q))
      exact hp _ hv
  · have hv := hv.2.1 ((zeq (rfl : zi a1 = zi a1) (by decide : (4 : Int32) = zi 4) ia1 (by decide : ir 4)).mp cq)
    refine ⟨fun cq => ?_, fun cq => ?_⟩
    · have hv := hv.1 ((zlt zrf (by decide : (6 : Int32) = zi 6) (hJ _ _) (by decide : ir 6)).mp cq)
      exact hp _ hv
    · have hv := hv.2 (fun q => cq ((zlt zrf (by decide : (6 : Int32) = zi 6) (hJ _ _) (by decide : ir 6)).mpr q))
      exact hp _ hv
  · have hv := hv.2.2.1 ((zeq (rfl : zi a1 = zi a1) (by decide : (5 : Int32) = zi 5) ia1 (by decide : ir 5)).mp cq)
    exact hp _ hv
  · have hv := hv.2.2.2.1 ((zeq (rfl : zi a1 = zi a1) (by decide : (6 : Int32) = zi 6) ia1 (by decide : ir 6)).mp cq)
    refine ⟨fun cq => ?_, fun cq => ?_⟩
    · have hv := hv.1 ((zlt zrf (by decide : (8 : Int32) = zi 8) (hJ _ _) (by decide : ir 8)).mp cq)
      exact hp _ hv
    · have hv := hv.2 (fun q => cq ((zlt zrf (by decide : (8 : Int32) = zi 8) (hJ _ _) (by decide : ir 8)).mpr q))
      exact hp _ hv
  · have hv := hv.2.2.2.2.1 ((zeq (rfl : zi a1 = zi a1) (by decide : (7 : Int32) = zi 7) ia1 (by decide : ir 7)).mp cq)
    refine ⟨fun cq => ?_, fun cq => ?_⟩
    · have hv := hv.1 ((zlt zrf (by decide : (10 : Int32) = zi 10) (hJ _ _) (by decide : ir 10)).mp cq)
      exact hp _ hv
    · have hv := hv.2 (fun q => cq ((zlt zrf (by decide : (10 : Int32) = zi 10) (hJ _ _) (by decide : ir 10)).mpr q))
      exact hp _ hv
  · have hv := hv.2.2.2.2.2 (fun q => c0 ((zeq (rfl : zi a1 = zi a1) (by decide : (3 : Int32) = zi 3) ia1 (by decide : ir 3)).mpr q)) (fun q => c1 ((zeq (rfl : zi a1 = zi a1) (by decide : (4 : Int32) = zi 4) ia1 (by decide : ir 4)).mpr q)) (fun q => c2 ((zeq (rfl : zi a1 = zi a1) (by decide : (5 : Int32) = zi 5) ia1 (by decide : ir 5)).mpr q)) (fun q => c3 ((zeq (rfl : zi a1 = zi a1) (by decide : (6 : Int32) = zi 6) ia1 (by decide : ir 6)).mpr q)) (fun q => c4 ((zeq (rfl : zi a1 = zi a1) (by decide : (7 : Int32) = zi 7) ia1 (by decide : ir 7)).mpr q))
    exact hp _ hv
