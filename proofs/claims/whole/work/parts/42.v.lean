def v_J7_fill_53178_5 (a1 : Nat) (a1n : Nat) (a2 : Int) (post' : mJ → Prop) (J : mJ) (v2 : Int) (v3 : Int) : Prop := ∀ ZZ : (mJ → Int → Int → Prop), (∀ (J : mJ) (v2 : Int) (v3 : Int), ((v3 ≤ v2 → post' J) ∧ (¬ v3 ≤ v2 → (0 ≤ v2 ∧ v2 < a1n) ∧ ∀ J4, J4 = up2 J a1 v2.toNat a2 → ir (v2 + 1) ∧ ∀ y6, y6 = v2 + 1 → ZZ J4 y6 v3)) → ZZ J v2 v3) → ZZ J v2 v3
theorem vw_J7_fill_53178_5 {a1 : Nat} {a1n : Nat} {a2 : Int}  (ia2 : ir a2) {post : mI → Prop} {post' : mJ → Prop} (hp : ∀ (J1 : mJ), irm J1 → post' J1 → post (zz J1)) {J : mJ} {xv2 : Int32} {v2 : Int} {xv3 : Int32} {v3 : Int} (hJ : irm J) (ev2 : xv2 = zi v2) (iv2 : ir v2) (ev3 : xv3 = zi v3) (iv3 : ir v3) (hv : v_J7_fill_53178_5 a1 a1n a2 post' J v2 v3) : w_J7_fill_53178_5 a1 a1n (zi a2) post (zz J) xv2 xv3 := by
  subst ev2
  subst ev3
  unfold v_J7_fill_53178_5 at hv
  unfold w_J7_fill_53178_5
  intro ZZ hZ
  refine hv (fun J v2 v3 => ∀ (xv2 : Int32) (xv3 : Int32), irm J → xv2 = zi v2 → ir v2 → xv3 = zi v3 → ir v3 → ZZ (zz J) xv2 xv3) ?_ _ _ hJ rfl iv2 rfl iv3
  clear hv hJ iv2 iv3
  intro J v2 v3 hv xv2 xv3 hJ ev2 iv2 ev3 iv3
  subst ev2
  subst ev3
  refine hZ _ _ _ ?_
  refine ⟨fun cq => ?_, fun cq => ?_⟩
  · have hv := hv.1 ((zle (rfl : zi v3 = zi v3) (rfl : zi v2 = zi v2) iv3 iv2).mp cq)
    exact hp _ hJ hv
  · have hv := hv.2 (fun q => cq ((zle (rfl : zi v3 = zi v3) (rfl : zi v2 = zi v2) iv3 iv2).mpr q))
    obtain ⟨g3, hv⟩ := hv
    refine ⟨zvp (rfl : zi v2 = zi v2) iv2 g3.1 g3.2, ?_⟩
    intro I1 eI1
    obtain ⟨J4, eJ4⟩ : ∃ q9 : mJ, q9 = up2 J a1 v2.toNat a2 := ⟨_, rfl⟩
    have eI1 : I1 = zz J4 := by rw [eI1, eJ4]; exact zupa (rfl : zi v2 = zi v2) iv2 g3.1 (rfl : zi a2 = zi a2)
    subst eI1
    have hv := hv J4 eJ4
    have hJ : irm J4 := by rw [eJ4]; exact irm_up hJ ia2
    obtain ⟨g5, hv⟩ := hv
    intro xy6 exy6
    obtain ⟨y6, eyy6⟩ : ∃ q9 : Int, q9 = v2 + 1 := ⟨_, rfl⟩
    have hv := hv y6 eyy6
    have Ey6 : xy6 = zi y6 := exy6.trans (((za (rfl : zi v2 = zi v2) (by decide : (1 : Int32) = zi 1))).trans (congrArg zi eyy6.symm))
    have Iy6 : ir y6 := by rw [eyy6]; exact g5
    clear exy6
    exact hv _ _ hJ Ey6 Iy6 (rfl : zi v3 = zi v3) iv3
def v_J7_fill_53178 (J : mJ) (a1 : Nat) (a1n : Nat) (a2 : Int) (post' : mJ → Prop) : Prop := ir (a1n : Int) ∧ ∀ y2, y2 = (a1n : Int) → (v_J7_fill_53178_5 a1 a1n a2 post') J 0 y2
theorem vw_J7_fill_53178 {J : mJ} {a1 : Nat} {a1n : Nat} {xa2 : Int32} {a2 : Int} (hJ : irm J)    (ea2 : xa2 = zi a2) (ia2 : ir a2) {post : mI → Prop} {post' : mJ → Prop} (hp : ∀ (J1 : mJ), irm J1 → post' J1 → post (zz J1)) (hv : v_J7_fill_53178 J a1 a1n a2 post') : w_J7_fill_53178 (zz J) a1 a1n xa2 post := by
  subst ea2
  unfold v_J7_fill_53178 at hv
  unfold w_J7_fill_53178
  obtain ⟨g1, hv⟩ := hv
  intro xy2 exy2
  obtain ⟨y2, eyy2⟩ : ∃ q9 : Int, q9 = (a1n : Int) := ⟨_, rfl⟩
  have hv := hv y2 eyy2
  have Ey2 : xy2 = zi y2 := exy2.trans (((z_len (N := a1n))).trans (congrArg zi eyy2.symm))
  have Iy2 : ir y2 := by rw [eyy2]; exact g1
  clear exy2
  exact vw_J7_fill_53178_5 ia2 hp hJ (by decide : (0 : Int32) = zi 0) (by decide : ir 0) Ey2 Iy2 hv
def v_X3_hasStep (J : mJ) (o : Nat) (a1 : Int) (post' : Bool → Prop) : Prop := (a1 < 0 → post' false) ∧ (¬ a1 < 0 → ((J o 0) ≤ a1 → post' false) ∧ (¬ (J o 0) ≤ a1 → post' true))
theorem vw_X3_hasStep {J : mJ} {o : Nat} {xa1 : Int32} {a1 : Int} (hJ : irm J)   (ea1 : xa1 = zi a1) (ia1 : ir a1) {post : Bool → Prop} {post' : Bool → Prop} (hp : ∀ (r : Bool), post' r → post r) (hv : v_X3_hasStep J o a1 post') : w_X3_hasStep (zz J) o xa1 post := by
  subst ea1
  unfold v_X3_hasStep at hv
  unfold w_X3_hasStep
  refine ⟨fun cq => ?_, fun cq => ?_⟩
  · have hv := hv.1 ((zlt (rfl : zi a1 = zi a1) (by decide : (0 : Int32) = zi 0) ia1 (by decide : ir 0)).mp cq)
    exact hp _ hv
  · have hv := hv.2 (fun q => cq ((zlt (rfl : zi a1 = zi a1) (by decide : (0 : Int32) = zi 0) ia1 (by decide : ir 0)).mpr q))
    refine ⟨fun cq => ?_, fun cq => ?_⟩
    · have hv := hv.1 ((zle zrf (rfl : zi a1 = zi a1) (hJ _ _) ia1).mp cq)
      exact hp _ hv
    · have hv := hv.2 (fun q => cq ((zle zrf (rfl : zi a1 = zi a1) (hJ _ _) ia1).mpr q))
      exact hp _ hv
def v_X3_goalOf (J : mJ) (o : Nat) (a1 : Int) (a2 : Int) (post' : Int → Prop) : Prop := ir (a1 * 8) ∧ ir ((a1 * 8) + a2) ∧ (0 ≤ ((a1 * 8) + a2) ∧ ((a1 * 8) + a2) < 48) ∧ post' (J (o + 10) ((a1 * 8) + a2).toNat)
theorem vw_X3_goalOf {J : mJ} {o : Nat} {xa1 : Int32} {a1 : Int} {xa2 : Int32} {a2 : Int} (hJ : irm J)   (ea1 : xa1 = zi a1) (ia1 : ir a1) (ea2 : xa2 = zi a2) (ia2 : ir a2) {post : Int32 → Prop} {post' : Int → Prop} (hp : ∀ (x : Int32) (r : Int), x = zi r → ir r → post' r → post x) (hv : v_X3_goalOf J o a1 a2 post') : w_X3_goalOf (zz J) o xa1 xa2 post := by
  subst ea1
  subst ea2
  unfold v_X3_goalOf at hv
  unfold w_X3_goalOf
  obtain ⟨g1, hv⟩ := hv
  obtain ⟨g2, hv⟩ := hv
  obtain ⟨g3, hv⟩ := hv
  refine ⟨zvp (za (zm (rfl : zi a1 = zi a1) (by decide : (8 : Int32) = zi 8)) (rfl : zi a2 = zi a2)) g2 g3.1 g3.2, ?_⟩
  exact hp _ _ (zrd (za (zm (rfl : zi a1 = zi a1) (by decide : (8 : Int32) = zi 8)) (rfl : zi a2 = zi a2)) g2 g3.1) (hJ _ _) hv
def v_X3_openGoal_3 (J : mJ) (o : Nat) (a1 : Int) (a2 : Int) (a3 : Int) (post' : Int → Prop) (v4 : Int) : Prop := ∀ ZZ : (Int → Prop), (∀ (v4 : Int), ((0 ≤ a1 ∧ a1 < 6) ∧ ((J (o + 9) a1.toNat) ≤ v4 → post' v4) ∧ (¬ (J (o + 9) a1.toNat) ≤ v4 → v_X3_goalOf J o a1 v4 (fun r2 => (¬ r2 = a3 → post' v4) ∧ (r2 = a3 → ir (v4 + 1) ∧ ∀ y4, y4 = v4 + 1 → ZZ y4)))) → ZZ v4) → ZZ v4
theorem vw_X3_openGoal_3 {J : mJ} {o : Nat} {a1 : Int} {a2 : Int} {a3 : Int} (hJ : irm J) (ia1 : ir a1) (ia2 : ir a2) (ia3 : ir a3) {post : Int32 → Prop} {post' : Int → Prop} (hp : ∀ (x : Int32) (r : Int), x = zi r → ir r → post' r → post x) {xv4 : Int32} {v4 : Int} (ev4 : xv4 = zi v4) (iv4 : ir v4) (hv : v_X3_openGoal_3 J o a1 a2 a3 post' v4) : w_X3_openGoal_3 (zz J) o (zi a1) (zi a2) (zi a3) post xv4 := by
  subst ev4
  unfold v_X3_openGoal_3 at hv
  unfold w_X3_openGoal_3
  intro ZZ hZ
  refine hv (fun v4 => ∀ (xv4 : Int32), xv4 = zi v4 → ir v4 → ZZ xv4) ?_ _ rfl iv4
  clear hv iv4
  intro v4 hv xv4 ev4 iv4
  subst ev4
  refine hZ _ ?_
  obtain ⟨g1, hv⟩ := hv
  refine ⟨zvp (rfl : zi a1 = zi a1) ia1 g1.1 g1.2, ?_⟩
  refine ⟨fun cq => ?_, fun cq => ?_⟩
  · have hv := hv.1 ((zle (zrd (rfl : zi a1 = zi a1) ia1 g1.1) (rfl : zi v4 = zi v4) (hJ _ _) iv4).mp cq)
    exact hp _ _ (rfl : zi v4 = zi v4) iv4 hv
  · have hv := hv.2 (fun q => cq ((zle (zrd (rfl : zi a1 = zi a1) ia1 g1.1) (rfl : zi v4 = zi v4) (hJ _ _) iv4).mpr q))
    refine vw_X3_goalOf hJ (rfl : zi a1 = zi a1) ia1 (rfl : zi v4 = zi v4) iv4 (fun xr2 r2 Er2 Ir2 hv => ?_) hv
    refine ⟨fun cq => ?_, fun cq => ?_⟩
    · have hv := hv.1 (fun q => cq ((zeq Er2 (rfl : zi a3 = zi a3) Ir2 ia3).mpr q))
      exact hp _ _ (rfl : zi v4 = zi v4) iv4 hv
    · have hv := hv.2 ((zeq Er2 (rfl : zi a3 = zi a3) Ir2 ia3).mp cq)
      obtain ⟨g3, hv⟩ := hv
      intro xy4 exy4
      obtain ⟨y4, eyy4⟩ : ∃ q9 : Int, q9 = v4 + 1 := ⟨_, rfl⟩
      have hv := hv y4 eyy4
      have Ey4 : xy4 = zi y4 := exy4.trans (((za (rfl : zi v4 = zi v4) (by decide : (1 : Int32) = zi 1))).trans (congrArg zi eyy4.symm))
      have Iy4 : ir y4 := by rw [eyy4]; exact g3
      clear exy4
      exact hv _ Ey4 Iy4
def v_X3_openGoal (J : mJ) (o : Nat) (a1 : Int) (a2 : Int) (a3 : Int) (post' : Int → Prop) : Prop := (v_X3_openGoal_3 J o a1 a2 a3 post') a2
theorem vw_X3_openGoal {J : mJ} {o : Nat} {xa1 : Int32} {a1 : Int} {xa2 : Int32} {a2 : Int} {xa3 : Int32} {a3 : Int} (hJ : irm J)   (ea1 : xa1 = zi a1) (ia1 : ir a1) (ea2 : xa2 = zi a2) (ia2 : ir a2) (ea3 : xa3 = zi a3) (ia3 : ir a3) {post : Int32 → Prop} {post' : Int → Prop} (hp : ∀ (x : Int32) (r : Int), x = zi r → ir r → post' r → post x) (hv : v_X3_openGoal J o a1 a2 a3 post') : w_X3_openGoal (zz J) o xa1 xa2 xa3 post := by
  subst ea1
  subst ea2
  subst ea3
  unfold v_X3_openGoal at hv
  unfold w_X3_openGoal
  exact vw_X3_openGoal_3 hJ ia1 ia2 ia3 hp (rfl : zi a2 = zi a2) ia2 hv
def v_X3_nextStep (J : mJ) (o : Nat) (a1 : Int) (a2 : Int) (a3 : Int) (post' : Int → Prop) : Prop := v_X3_goalOf J o a1 a3 (fun r1 => (r1 ≤ a2 → (0 ≤ a1 ∧ a1 < 6) ∧ ir (a2 - (J (o + 6) a1.toNat)) ∧ post' (maxZ r1 (a2 - (J (o + 6) a1.toNat)))) ∧ (¬ r1 ≤ a2 → (0 ≤ a1 ∧ a1 < 6) ∧ ir (a2 + (J (o + 6) a1.toNat)) ∧ post' (minZ r1 (a2 + (J (o + 6) a1.toNat)))))
theorem vw_X3_nextStep {J : mJ} {o : Nat} {xa1 : Int32} {a1 : Int} {xa2 : Int32} {a2 : Int} {xa3 : Int32} {a3 : Int} (hJ : irm J)   (ea1 : xa1 = zi a1) (ia1 : ir a1) (ea2 : xa2 = zi a2) (ia2 : ir a2) (ea3 : xa3 = zi a3) (ia3 : ir a3) {post : Int32 → Prop} {post' : Int → Prop} (hp : ∀ (x : Int32) (r : Int), x = zi r → ir r → post' r → post x) (hv : v_X3_nextStep J o a1 a2 a3 post') : w_X3_nextStep (zz J) o xa1 xa2 xa3 post := by
  subst ea1
  subst ea2
  subst ea3
  unfold v_X3_nextStep at hv
  unfold w_X3_nextStep
  refine vw_X3_goalOf hJ (rfl : zi a1 = zi a1) ia1 (rfl : zi a3 = zi a3) ia3 (fun xr1 r1 Er1 Ir1 hv => ?_) hv
  refine ⟨fun cq => ?_, fun cq => ?_⟩
  · have hv := hv.1 ((zle Er1 (rfl : zi a2 = zi a2) Ir1 ia2).mp cq)
    obtain ⟨g2, hv⟩ := hv
    refine ⟨zvp (rfl : zi a1 = zi a1) ia1 g2.1 g2.2, ?_⟩
    obtain ⟨g3, hv⟩ := hv
    exact hp _ _ (z_max Er1 (zs (rfl : zi a2 = zi a2) (zrd (rfl : zi a1 = zi a1) ia1 g2.1)) Ir1 g3) (ir_max Ir1 g3) hv
  · have hv := hv.2 (fun q => cq ((zle Er1 (rfl : zi a2 = zi a2) Ir1 ia2).mpr q))
    obtain ⟨g4, hv⟩ := hv
    refine ⟨zvp (rfl : zi a1 = zi a1) ia1 g4.1 g4.2, ?_⟩
    obtain ⟨g5, hv⟩ := hv
    exact hp _ _ (z_min Er1 (za (rfl : zi a2 = zi a2) (zrd (rfl : zi a1 = zi a1) ia1 g4.1)) Ir1 g5) (ir_min Ir1 g5) hv
def v_X0_layPath_115 (o : Nat) (a1 : Nat) (a2 : Int) (post' : mJ → Prop) (k30' : mJ → Int → Int → Int → Prop) (J : mJ) (v3 : Int) (v4 : Int) (s0 : Int) : Prop := (s0 = 0 → k30' J v3 v4 s0) ∧ (¬ s0 = 0 → v_X3_nextStep J a1 a2 v3 v4 (fun r17 => k30' J r17 v4 s0))
theorem vw_X0_layPath_115 {o : Nat} {a1 : Nat} {a2 : Int}  (ia2 : ir a2) {post : mI → Prop} {post' : mJ → Prop} {k30' : mJ → Int → Int → Int → Prop} {k30 : mI → Int32 → Int32 → Int32 → Prop} (hp : ∀ (J1 : mJ), irm J1 → post' J1 → post (zz J1)) (hk30 : ∀ (J : mJ) (xv3 : Int32) (v3 : Int) (xv4 : Int32) (v4 : Int) (xv5 : Int32) (v5 : Int), irm J → xv3 = zi v3 → ir v3 → xv4 = zi v4 → ir v4 → xv5 = zi v5 → ir v5 → k30' J v3 v4 v5 → k30 (zz J) xv3 xv4 xv5) {J : mJ} {xv3 : Int32} {v3 : Int} {xv4 : Int32} {v4 : Int} {xs0 : Int32} {s0 : Int} (hJ : irm J) (ev3 : xv3 = zi v3) (iv3 : ir v3) (ev4 : xv4 = zi v4) (iv4 : ir v4) (es0 : xs0 = zi s0) (is0 : ir s0) (hv : v_X0_layPath_115 o a1 a2 post' k30' J v3 v4 s0) : w_X0_layPath_115 o a1 (zi a2) post k30 (zz J) xv3 xv4 xs0 := by
  subst ev3
  subst ev4
  subst es0
  unfold v_X0_layPath_115 at hv
  unfold w_X0_layPath_115
  refine ⟨fun cq => ?_, fun cq => ?_⟩
  · have hv := hv.1 ((zeq (rfl : zi s0 = zi s0) (by decide : (0 : Int32) = zi 0) is0 (by decide : ir 0)).mp cq)
    exact hk30 _ _ _ _ _ _ _ hJ (rfl : zi v3 = zi v3) iv3 (rfl : zi v4 = zi v4) iv4 (rfl : zi s0 = zi s0) is0 hv
  · have hv := hv.2 (fun q => cq ((zeq (rfl : zi s0 = zi s0) (by decide : (0 : Int32) = zi 0) is0 (by decide : ir 0)).mpr q))
    refine vw_X3_nextStep hJ (rfl : zi a2 = zi a2) ia2 (rfl : zi v3 = zi v3) iv3 (rfl : zi v4 = zi v4) iv4 (fun xr17 r17 Er17 Ir17 hv => ?_) hv
    exact hk30 _ _ _ _ _ _ _ hJ Er17 Ir17 (rfl : zi v4 = zi v4) iv4 (rfl : zi s0 = zi s0) is0 hv
def v_X0_layPath_30 (o : Nat) (a1 : Nat) (a2 : Int) (post' : mJ → Prop) (J : mJ) (v3 : Int) (v4 : Int) (v5 : Int) : Prop := ∀ ZZ : (mJ → Int → Int → Int → Prop), (∀ (J : mJ) (v3 : Int) (v4 : Int) (v5 : Int), ((v5 = 0 → post' J) ∧ (¬ v5 = 0 → (100 ≤ (J o 0) → post' J) ∧ (¬ 100 ≤ (J o 0) → (0 ≤ (J o 0) ∧ (J o 0) < 100) ∧ ∀ J7, J7 = up2 J (o + 1) ((J o 0).toNat) v3 → (0 ≤ v3 ∧ v3 < 24) ∧ (0 ≤ (J7 o 0) ∧ (J7 o 0) < 100) ∧ ∀ J10, J10 = up2 J7 (o + 2) ((J7 o 0).toNat) (J7 (o + 4) v3.toNat) → (0 ≤ v3 ∧ v3 < 24) ∧ ∀ J12, J12 = up2 J10 (o + 4) v3.toNat (J10 o 0) → ir ((J12 o 0) + 1) ∧ ∀ J14, J14 = up2 J12 o 0 ((J12 o 0) + 1) → v_X3_openGoal J14 a1 a2 v4 v3 (fun r15 => (0 ≤ a2 ∧ a2 < 6) ∧ ((J14 (a1 + 9) a2.toNat) ≤ r15 → (v_X0_layPath_115 o a1 a2 post' ZZ) J14 v3 r15 0) ∧ (¬ (J14 (a1 + 9) a2.toNat) ≤ r15 → (v_X0_layPath_115 o a1 a2 post' ZZ) J14 v3 r15 1))))) → ZZ J v3 v4 v5) → ZZ J v3 v4 v5
theorem vw_X0_layPath_30 {o : Nat} {a1 : Nat} {a2 : Int}  (ia2 : ir a2) {post : mI → Prop} {post' : mJ → Prop} (hp : ∀ (J1 : mJ), irm J1 → post' J1 → post (zz J1)) {J : mJ} {xv3 : Int32} {v3 : Int} {xv4 : Int32} {v4 : Int} {xv5 : Int32} {v5 : Int} (hJ : irm J) (ev3 : xv3 = zi v3) (iv3 : ir v3) (ev4 : xv4 = zi v4) (iv4 : ir v4) (ev5 : xv5 = zi v5) (iv5 : ir v5) (hv : v_X0_layPath_30 o a1 a2 post' J v3 v4 v5) : w_X0_layPath_30 o a1 (zi a2) post (zz J) xv3 xv4 xv5 := by
  subst ev3
  subst ev4
  subst ev5
  unfold v_X0_layPath_30 at hv
  unfold w_X0_layPath_30
  intro ZZ hZ
  refine hv (fun J v3 v4 v5 => ∀ (xv3 : Int32) (xv4 : Int32) (xv5 : Int32), irm J → xv3 = zi v3 → ir v3 → xv4 = zi v4 → ir v4 → xv5 = zi v5 → ir v5 → ZZ (zz J) xv3 xv4 xv5) ?_ _ _ _ hJ rfl iv3 rfl iv4 rfl iv5
  clear hv hJ iv3 iv4 iv5
  intro J v3 v4 v5 hv xv3 xv4 xv5 hJ ev3 iv3 ev4 iv4 ev5 iv5
  subst ev3
  subst ev4
  subst ev5
  refine hZ _ _ _ _ ?_
  refine ⟨fun cq => ?_, fun cq => ?_⟩
  · have hv := hv.1 ((zeq (rfl : zi v5 = zi v5) (by decide : (0 : Int32) = zi 0) iv5 (by decide : ir 0)).mp cq)
    exact hp _ hJ hv
  · have hv := hv.2 (fun q => cq ((zeq (rfl : zi v5 = zi v5) (by decide : (0 : Int32) = zi 0) iv5 (by decide : ir 0)).mpr q))
    refine ⟨fun cq => ?_, fun cq => ?_⟩
    · have hv := hv.1 ((zle (by decide : (100 : Int32) = zi 100) zrf (by decide : ir 100) (hJ _ _)).mp cq)
      exact hp _ hJ hv
    · have hv := hv.2 (fun q => cq ((zle (by decide : (100 : Int32) = zi 100) zrf (by decide : ir 100) (hJ _ _)).mpr q))
      obtain ⟨g6, hv⟩ := hv
      refine ⟨zvp zrf (hJ _ _) g6.1 g6.2, ?_⟩
      intro I1 eI1
      obtain ⟨J7, eJ7⟩ : ∃ q9 : mJ, q9 = up2 J (o + 1) ((J o 0).toNat) v3 := ⟨_, rfl⟩
      have eI1 : I1 = zz J7 := by rw [eI1, eJ7]; exact zupa zrf (hJ _ _) g6.1 (rfl : zi v3 = zi v3)
      subst eI1
      have hv := hv J7 eJ7
      have hJ : irm J7 := by rw [eJ7]; exact irm_up hJ iv3
      obtain ⟨g8, hv⟩ := hv
      refine ⟨zvp (rfl : zi v3 = zi v3) iv3 g8.1 g8.2, ?_⟩
      obtain ⟨g9, hv⟩ := hv
      refine ⟨zvp zrf (hJ _ _) g9.1 g9.2, ?_⟩
      intro I1 eI1
      obtain ⟨J10, eJ10⟩ : ∃ q9 : mJ, q9 = up2 J7 (o + 2) ((J7 o 0).toNat) (J7 (o + 4) v3.toNat) := ⟨_, rfl⟩
      have eI1 : I1 = zz J10 := by rw [eI1, eJ10]; exact zupa zrf (hJ _ _) g9.1 (zrd (rfl : zi v3 = zi v3) iv3 g8.1)
      subst eI1
      have hv := hv J10 eJ10
      have hJ : irm J10 := by rw [eJ10]; exact irm_up hJ (hJ _ _)
      obtain ⟨g11, hv⟩ := hv
      refine ⟨zvp (rfl : zi v3 = zi v3) iv3 g11.1 g11.2, ?_⟩
      intro I1 eI1
      obtain ⟨J12, eJ12⟩ : ∃ q9 : mJ, q9 = up2 J10 (o + 4) v3.toNat (J10 o 0) := ⟨_, rfl⟩
      have eI1 : I1 = zz J12 := by rw [eI1, eJ12]; exact zupa (rfl : zi v3 = zi v3) iv3 g11.1 zrf
      subst eI1
      have hv := hv J12 eJ12
      have hJ : irm J12 := by rw [eJ12]; exact irm_up hJ (hJ _ _)
      obtain ⟨g13, hv⟩ := hv
      intro I1 eI1
      obtain ⟨J14, eJ14⟩ : ∃ q9 : mJ, q9 = up2 J12 o 0 ((J12 o 0) + 1) := ⟨_, rfl⟩
      have eI1 : I1 = zz J14 := by rw [eI1, eJ14]; exact zup (za zrf (by decide : (1 : Int32) = zi 1))
      subst eI1
      have hv := hv J14 eJ14
      have hJ : irm J14 := by rw [eJ14]; exact irm_up hJ g13
      refine vw_X3_openGoal hJ (rfl : zi a2 = zi a2) ia2 (rfl : zi v4 = zi v4) iv4 (rfl : zi v3 = zi v3) iv3 (fun xr15 r15 Er15 Ir15 hv => ?_) hv
      obtain ⟨g16, hv⟩ := hv
      refine ⟨zvp (rfl : zi a2 = zi a2) ia2 g16.1 g16.2, ?_⟩
      refine ⟨fun cq => ?_, fun cq => ?_⟩
      · have hv := hv.1 ((zle (zrd (rfl : zi a2 = zi a2) ia2 g16.1) Er15 (hJ _ _) Ir15).mp cq)
        refine vw_X0_layPath_115 ia2 hp ?_ hJ (rfl : zi v3 = zi v3) iv3 Er15 Ir15 (by decide : (0 : Int32) = zi 0) (by decide : ir 0) hv
        · intro qq xx vv xx vv xx vv hJ ev3 iv3 ev4 iv4 ev5 iv5 hv
          exact hv _ _ _ hJ ev3 iv3 ev4 iv4 ev5 iv5
      · have hv := hv.2 (fun q => cq ((zle (zrd (rfl : zi a2 = zi a2) ia2 g16.1) Er15 (hJ _ _) Ir15).mpr q))
        refine vw_X0_layPath_115 ia2 hp ?_ hJ (rfl : zi v3 = zi v3) iv3 Er15 Ir15 (by decide : (1 : Int32) = zi 1) (by decide : ir 1) hv
        · intro qq xx vv xx vv xx vv hJ ev3 iv3 ev4 iv4 ev5 iv5 hv
          exact hv _ _ _ hJ ev3 iv3 ev4 iv4 ev5 iv5
def v_X0_layPath (J : mJ) (o : Nat) (a1 : Nat) (a2 : Int) (post' : mJ → Prop) : Prop := v_J7_fill_53178 J (o + 4) 24 (-1) (fun J1 => (0 ≤ a2 ∧ a2 < 6) ∧ ∀ y3, y3 = (J1 (a1 + 8) a2.toNat) → ∀ J4, J4 = up2 J1 o 0 0 → v_X3_hasStep J4 a1 y3 (fun b5 => (v_X0_layPath_30 o a1 a2 post') J4 y3 0 (bZ b5)))
theorem vw_X0_layPath {J : mJ} {o : Nat} {a1 : Nat} {xa2 : Int32} {a2 : Int} (hJ : irm J)    (ea2 : xa2 = zi a2) (ia2 : ir a2) {post : mI → Prop} {post' : mJ → Prop} (hp : ∀ (J1 : mJ), irm J1 → post' J1 → post (zz J1)) (hv : v_X0_layPath J o a1 a2 post') : w_X0_layPath (zz J) o a1 xa2 post := by
  subst ea2
  unfold v_X0_layPath at hv
  unfold w_X0_layPath
  refine vw_J7_fill_53178 hJ (by decide : ((-1) : Int32) = zi (-1)) (by decide : ir (-1)) (fun J1 hJ hv => ?_) hv
  obtain ⟨g2, hv⟩ := hv
  refine ⟨zvp (rfl : zi a2 = zi a2) ia2 g2.1 g2.2, ?_⟩
  intro xy3 exy3
  obtain ⟨y3, eyy3⟩ : ∃ q9 : Int, q9 = (J1 (a1 + 8) a2.toNat) := ⟨_, rfl⟩
  have hv := hv y3 eyy3
  have Ey3 : xy3 = zi y3 := exy3.trans (((zrd (rfl : zi a2 = zi a2) ia2 g2.1)).trans (congrArg zi eyy3.symm))
  have Iy3 : ir y3 := by rw [eyy3]; exact (hJ _ _)
  clear exy3
  intro I1 eI1
  obtain ⟨J4, eJ4⟩ : ∃ q9 : mJ, q9 = up2 J1 o 0 0 := ⟨_, rfl⟩
  have eI1 : I1 = zz J4 := by rw [eI1, eJ4]; exact zup (by decide : (0 : Int32) = zi 0)
  subst eI1
  have hv := hv J4 eJ4
  have hJ : irm J4 := by rw [eJ4]; exact irm_up hJ (by decide : ir 0)
  refine vw_X3_hasStep hJ Ey3 Iy3 (fun b5  hv => ?_) hv
  exact vw_X0_layPath_30 ia2 hp hJ Ey3 Iy3 (by decide : (0 : Int32) = zi 0) (by decide : ir 0) (z_b b5) (ir_bZ b5) hv
def v_X3_shoeAt_13 (J : mJ) (o : Nat) (a1 : Int) (a2 : Int) (post' : Int → Prop) (v3 : Int) (v4 : Int) (v5 : Int) : Prop := ∀ ZZ : (Int → Int → Int → Prop), (∀ (v3 : Int) (v4 : Int) (v5 : Int), (((J o 4) ≤ v5 → post' v4) ∧ (¬ (J o 4) ≤ v5 → (0 ≤ v5 ∧ v5 < 8) ∧ (¬ (J (o + 11) v5.toNat) = a1 → ir (v5 + 1) ∧ ∀ y5, y5 = v5 + 1 → ZZ v3 v4 y5) ∧ ((J (o + 11) v5.toNat) = a1 → (0 ≤ v5 ∧ v5 < 8) ∧ (a2 < (J (o + 12) v5.toNat) → ir (v5 + 1) ∧ ∀ y8, y8 = v5 + 1 → ZZ v3 v4 y8) ∧ (¬ a2 < (J (o + 12) v5.toNat) → (0 ≤ v5 ∧ v5 < 8) ∧ ((J (o + 12) v5.toNat) < v3 → ir (v5 + 1) ∧ ∀ y11, y11 = v5 + 1 → ZZ v3 v4 y11) ∧ (¬ (J (o + 12) v5.toNat) < v3 → (0 ≤ v5 ∧ v5 < 8) ∧ ∀ y13, y13 = (J (o + 12) v5.toNat) → (0 ≤ v5 ∧ v5 < 8) ∧ ∀ y15, y15 = (J (o + 13) v5.toNat) → ir (v5 + 1) ∧ ∀ y17, y17 = v5 + 1 → ZZ y13 y15 y17))))) → ZZ v3 v4 v5) → ZZ v3 v4 v5
theorem vw_X3_shoeAt_13 {J : mJ} {o : Nat} {a1 : Int} {a2 : Int} (hJ : irm J) (ia1 : ir a1) (ia2 : ir a2) {post : Int32 → Prop} {post' : Int → Prop} (hp : ∀ (x : Int32) (r : Int), x = zi r → ir r → post' r → post x) {xv3 : Int32} {v3 : Int} {xv4 : Int32} {v4 : Int} {xv5 : Int32} {v5 : Int} (ev3 : xv3 = zi v3) (iv3 : ir v3) (ev4 : xv4 = zi v4) (iv4 : ir v4) (ev5 : xv5 = zi v5) (iv5 : ir v5) (hv : v_X3_shoeAt_13 J o a1 a2 post' v3 v4 v5) : w_X3_shoeAt_13 (zz J) o (zi a1) (zi a2) post xv3 xv4 xv5 := by
  subst ev3
  subst ev4
  subst ev5
  unfold v_X3_shoeAt_13 at hv
  unfold w_X3_shoeAt_13
  intro ZZ hZ
  refine hv (fun v3 v4 v5 => ∀ (xv3 : Int32) (xv4 : Int32) (xv5 : Int32), xv3 = zi v3 → ir v3 → xv4 = zi v4 → ir v4 → xv5 = zi v5 → ir v5 → ZZ xv3 xv4 xv5) ?_ _ _ _ rfl iv3 rfl iv4 rfl iv5
  clear hv iv3 iv4 iv5
  intro v3 v4 v5 hv xv3 xv4 xv5 ev3 iv3 ev4 iv4 ev5 iv5
  subst ev3
  subst ev4
  subst ev5
  refine hZ _ _ _ ?_
  refine ⟨fun cq => ?_, fun cq => ?_⟩
  · have hv := hv.1 ((zle zrf (rfl : zi v5 = zi v5) (hJ _ _) iv5).mp cq)
    exact hp _ _ (rfl : zi v4 = zi v4) iv4 hv
  · have hv := hv.2 (fun q => cq ((zle zrf (rfl : zi v5 = zi v5) (hJ _ _) iv5).mpr q))
    obtain ⟨g3, hv⟩ := hv
    refine ⟨zvp (rfl : zi v5 = zi v5) iv5 g3.1 g3.2, ?_⟩
    refine ⟨fun cq => ?_, fun cq => ?_⟩
    · have hv := hv.1 (fun q => cq ((zeq (zrd (rfl : zi v5 = zi v5) iv5 g3.1) (rfl : zi a1 = zi a1) (hJ _ _) ia1).mpr q))
      obtain ⟨g4, hv⟩ := hv
      intro xy5 exy5
      obtain ⟨y5, eyy5⟩ : ∃ q9 : Int, q9 = v5 + 1 := ⟨_, rfl⟩
      have hv := hv y5 eyy5
      have Ey5 : xy5 = zi y5 := exy5.trans (((za (rfl : zi v5 = zi v5) (by decide : (1 : Int32) = zi 1))).trans (congrArg zi eyy5.symm))
      have Iy5 : ir y5 := by rw [eyy5]; exact g4
      clear exy5
      exact hv _ _ _ (rfl : zi v3 = zi v3) iv3 (rfl : zi v4 = zi v4) iv4 Ey5 Iy5
    · have hv := hv.2 ((zeq (zrd (rfl : zi v5 = zi v5) iv5 g3.1) (rfl : zi a1 = zi a1) (hJ _ _) ia1).mp cq)
      obtain ⟨g6, hv⟩ := hv
      refine ⟨zvp (rfl : zi v5 = zi v5) iv5 g6.1 g6.2, ?_⟩
      refine ⟨fun cq => ?_, fun cq => ?_⟩
      · have hv := hv.1 ((zlt (rfl : zi a2 = zi a2) (zrd (rfl : zi v5 = zi v5) iv5 g6.1) ia2 (hJ _ _)).mp cq)
        obtain ⟨g7, hv⟩ := hv
        intro xy8 exy8
        obtain ⟨y8, eyy8⟩ : ∃ q9 : Int, q9 = v5 + 1 := ⟨_, rfl⟩
        have hv := hv y8 eyy8
        have Ey8 : xy8 = zi y8 := exy8.trans (((za (rfl : zi v5 = zi v5) (by decide : (1 : Int32) = zi 1))).trans (congrArg zi eyy8.symm))
        have Iy8 : ir y8 := by rw [eyy8]; exact g7
        clear exy8
        exact hv _ _ _ (rfl : zi v3 = zi v3) iv3 (rfl : zi v4 = zi v4) iv4 Ey8 Iy8
      · have hv := hv.2 (fun q => cq ((zlt (rfl : zi a2 = zi a2) (zrd (rfl : zi v5 = zi v5) iv5 g6.1) ia2 (hJ _ _)).mpr q))
        obtain ⟨g9, hv⟩ := hv
        refine ⟨zvp (rfl : zi v5 = zi v5) iv5 g9.1 g9.2, ?_⟩
        refine ⟨fun cq => ?_, fun cq => ?_⟩
        · have hv := hv.1 ((zlt (zrd (rfl : zi v5 = zi v5) iv5 g9.1) (rfl : zi v3 = zi v3) (hJ _ _) iv3).mp cq)
          obtain ⟨g10, hv⟩ := hv
          intro xy11 exy11
          obtain ⟨y11, eyy11⟩ : ∃ q9 : Int, q9 = v5 + 1 := ⟨_, rfl⟩
          have hv := hv y11 eyy11
          have Ey11 : xy11 = zi y11 := exy11.trans (((za (rfl : zi v5 = zi v5) (by decide : (1 : Int32) = zi 1))).trans (congrArg zi eyy11.symm))
          have Iy11 : ir y11 := by rw [eyy11]; exact g10
          clear exy11
          exact hv _ _ _ (rfl : zi v3 = zi v3) iv3 (rfl : zi v4 = zi v4) iv4 Ey11 Iy11
        · have hv := hv.2 (fun q => cq ((zlt (zrd (rfl : zi v5 = zi v5) iv5 g9.1) (rfl : zi v3 = zi v3) (hJ _ _) iv3).mpr q))
          obtain ⟨g12, hv⟩ := hv
          refine ⟨zvp (rfl : zi v5 = zi v5) iv5 g12.1 g12.2, ?_⟩
          intro xy13 exy13
          obtain ⟨y13, eyy13⟩ : ∃ q9 : Int, q9 = (J (o + 12) v5.toNat) := ⟨_, rfl⟩
          have hv := hv y13 eyy13
          have Ey13 : xy13 = zi y13 := exy13.trans (((zrd (rfl : zi v5 = zi v5) iv5 g12.1)).trans (congrArg zi eyy13.symm))
          have Iy13 : ir y13 := by rw [eyy13]; exact (hJ _ _)
          clear exy13
          obtain ⟨g14, hv⟩ := hv
          refine ⟨zvp (rfl : zi v5 = zi v5) iv5 g14.1 g14.2, ?_⟩
          intro xy15 exy15
          obtain ⟨y15, eyy15⟩ : ∃ q9 : Int, q9 = (J (o + 13) v5.toNat) := ⟨_, rfl⟩
          have hv := hv y15 eyy15
          have Ey15 : xy15 = zi y15 := exy15.trans (((zrd (rfl : zi v5 = zi v5) iv5 g14.1)).trans (congrArg zi eyy15.symm))
          have Iy15 : ir y15 := by rw [eyy15]; exact (hJ _ _)
          clear exy15
          obtain ⟨g16, hv⟩ := hv
          intro xy17 exy17
          obtain ⟨y17, eyy17⟩ : ∃ q9 : Int, q9 = v5 + 1 := ⟨_, rfl⟩
          have hv := hv y17 eyy17
          have Ey17 : xy17 = zi y17 := exy17.trans (((za (rfl : zi v5 = zi v5) (by decide : (1 : Int32) = zi 1))).trans (congrArg zi eyy17.symm))
          have Iy17 : ir y17 := by rw [eyy17]; exact g16
          clear exy17
          exact hv _ _ _ Ey13 Iy13 Ey15 Iy15 Ey17 Iy17
def v_X3_shoeAt (J : mJ) (o : Nat) (a1 : Int) (a2 : Int) (post' : Int → Prop) : Prop := (0 ≤ a1 ∧ a1 < 6) ∧ ∀ y2, y2 = (J (o + 4) a1.toNat) → (v_X3_shoeAt_13 J o a1 a2 post') (-1) y2 0
theorem vw_X3_shoeAt {J : mJ} {o : Nat} {xa1 : Int32} {a1 : Int} {xa2 : Int32} {a2 : Int} (hJ : irm J)   (ea1 : xa1 = zi a1) (ia1 : ir a1) (ea2 : xa2 = zi a2) (ia2 : ir a2) {post : Int32 → Prop} {post' : Int → Prop} (hp : ∀ (x : Int32) (r : Int), x = zi r → ir r → post' r → post x) (hv : v_X3_shoeAt J o a1 a2 post') : w_X3_shoeAt (zz J) o xa1 xa2 post := by
  subst ea1
  subst ea2
  unfold v_X3_shoeAt at hv
  unfold w_X3_shoeAt
  obtain ⟨g1, hv⟩ := hv
  refine ⟨zvp (rfl : zi a1 = zi a1) ia1 g1.1 g1.2, ?_⟩
  intro xy2 exy2
  obtain ⟨y2, eyy2⟩ : ∃ q9 : Int, q9 = (J (o + 4) a1.toNat) := ⟨_, rfl⟩
  have hv := hv y2 eyy2
  have Ey2 : xy2 = zi y2 := exy2.trans (((zrd (rfl : zi a1 = zi a1) ia1 g1.1)).trans (congrArg zi eyy2.symm))
  have Iy2 : ir y2 := by rw [eyy2]; exact (hJ _ _)
  clear exy2
  exact vw_X3_shoeAt_13 hJ ia1 ia2 hp (by decide : ((-1) : Int32) = zi (-1)) (by decide : ir (-1)) Ey2 Iy2 (by decide : (0 : Int32) = zi 0) (by decide : ir 0) hv
def v_X3_loudOf (J : mJ) (o : Nat) (a1 : Int) (a2 : Int) (a3 : Int) (post' : Int → Prop) : Prop := (0 ≤ a1 ∧ a1 < 6) ∧ ir ((J (o + 5) a1.toNat) + a3) ∧ (0 ≤ a2 ∧ a2 < 24) ∧ ir (((J (o + 5) a1.toNat) + a3) - (J (o + 1) a2.toNat)) ∧ post' (maxZ 0 (((J (o + 5) a1.toNat) + a3) - (J (o + 1) a2.toNat)))
theorem vw_X3_loudOf {J : mJ} {o : Nat} {xa1 : Int32} {a1 : Int} {xa2 : Int32} {a2 : Int} {xa3 : Int32} {a3 : Int} (hJ : irm J)   (ea1 : xa1 = zi a1) (ia1 : ir a1) (ea2 : xa2 = zi a2) (ia2 : ir a2) (ea3 : xa3 = zi a3) (ia3 : ir a3) {post : Int32 → Prop} {post' : Int → Prop} (hp : ∀ (x : Int32) (r : Int), x = zi r → ir r → post' r → post x) (hv : v_X3_loudOf J o a1 a2 a3 post') : w_X3_loudOf (zz J) o xa1 xa2 xa3 post := by
  subst ea1
  subst ea2
  subst ea3
  unfold v_X3_loudOf at hv
  unfold w_X3_loudOf
  obtain ⟨g1, hv⟩ := hv
  refine ⟨zvp (rfl : zi a1 = zi a1) ia1 g1.1 g1.2, ?_⟩
  obtain ⟨g2, hv⟩ := hv
  obtain ⟨g3, hv⟩ := hv
  refine ⟨zvp (rfl : zi a2 = zi a2) ia2 g3.1 g3.2, ?_⟩
  obtain ⟨g4, hv⟩ := hv
  exact hp _ _ (z_max (by decide : (0 : Int32) = zi 0) (zs (za (zrd (rfl : zi a1 = zi a1) ia1 g1.1) (rfl : zi a3 = zi a3)) (zrd (rfl : zi a2 = zi a2) ia2 g3.1)) (by decide : ir 0) g4) (ir_max (by decide : ir 0) g4) hv
def v_X2_hearers (J : mJ) (o : Nat) (oh : Nat) (a1 : Int) (a2 : Int) (post' : Int → Prop) : Prop := (a1 < 0 → post' 0) ∧ (¬ a1 < 0 → (24 ≤ a1 → post' 0) ∧ (¬ 24 ≤ a1 → (a2 < 0 → post' 0) ∧ (¬ a2 < 0 → (a2 ≤ 18 → ir (a1 * 19) ∧ ir ((a1 * 19) + a2) ∧ (0 ≤ ((a1 * 19) + a2) ∧ ((a1 * 19) + a2) < 456) ∧ post' (J (o + 12) ((a1 * 19) + a2).toNat)) ∧ (¬ a2 ≤ 18 → post' 0))))
theorem vw_X2_hearers {J : mJ} {o : Nat} {oh : Nat} {xa1 : Int32} {a1 : Int} {xa2 : Int32} {a2 : Int} (hJ : irm J)    (ea1 : xa1 = zi a1) (ia1 : ir a1) (ea2 : xa2 = zi a2) (ia2 : ir a2) {post : Int32 → Prop} {post' : Int → Prop} (hp : ∀ (x : Int32) (r : Int), x = zi r → ir r → post' r → post x) (hv : v_X2_hearers J o oh a1 a2 post') : w_X2_hearers (zz J) o oh xa1 xa2 post := by
  subst ea1
  subst ea2
  unfold v_X2_hearers at hv
  unfold w_X2_hearers
  refine ⟨fun cq => ?_, fun cq => ?_⟩
  · have hv := hv.1 ((zlt (rfl : zi a1 = zi a1) (by decide : (0 : Int32) = zi 0) ia1 (by decide : ir 0)).mp cq)
    exact hp _ _ (by decide : (0 : Int32) = zi 0) (by decide : ir 0) hv
  · have hv := hv.2 (fun q => cq ((zlt (rfl : zi a1 = zi a1) (by decide : (0 : Int32) = zi 0) ia1 (by decide : ir 0)).mpr q))
    refine ⟨fun cq => ?_, fun cq => ?_⟩
    · have hv := hv.1 ((zle (by decide : (24 : Int32) = zi 24) (rfl : zi a1 = zi a1) (by decide : ir 24) ia1).mp cq)
      exact hp _ _ (by decide : (0 : Int32) = zi 0) (by decide : ir 0) hv
    · have hv := hv.2 (fun q => cq ((zle (by decide : (24 : Int32) = zi 24) (rfl : zi a1 = zi a1) (by decide : ir 24) ia1).mpr q))
      refine ⟨fun cq => ?_, fun cq => ?_⟩
      · have hv := hv.1 ((zlt (rfl : zi a2 = zi a2) (by decide : (0 : Int32) = zi 0) ia2 (by decide : ir 0)).mp cq)
        exact hp _ _ (by decide : (0 : Int32) = zi 0) (by decide : ir 0) hv
      · have hv := hv.2 (fun q => cq ((zlt (rfl : zi a2 = zi a2) (by decide : (0 : Int32) = zi 0) ia2 (by decide : ir 0)).mpr q))
        refine ⟨fun cq => ?_, fun cq => ?_⟩
        · have hv := hv.1 ((zle (rfl : zi a2 = zi a2) (by decide : (18 : Int32) = zi 18) ia2 (by decide : ir 18)).mp cq)
          obtain ⟨g1, hv⟩ := hv
          obtain ⟨g2, hv⟩ := hv
          obtain ⟨g3, hv⟩ := hv
          refine ⟨zvp (za (zm (rfl : zi a1 = zi a1) (by decide : (19 : Int32) = zi 19)) (rfl : zi a2 = zi a2)) g2 g3.1 g3.2, ?_⟩
          exact hp _ _ (zrd (za (zm (rfl : zi a1 = zi a1) (by decide : (19 : Int32) = zi 19)) (rfl : zi a2 = zi a2)) g2 g3.1) (hJ _ _) hv
        · have hv := hv.2 (fun q => cq ((zle (rfl : zi a2 = zi a2) (by decide : (18 : Int32) = zi 18) ia2 (by decide : ir 18)).mpr q))
          exact hp _ _ (by decide : (0 : Int32) = zi 0) (by decide : ir 0) hv
def v_X11_pick (J : mJ) (a1 : Nat) (a1n : Nat) (a2 : Int) (a3 : Int) (a4 : Int) (post' : Int → Prop) : Prop := (a2 < 0 → post' a4) ∧ (¬ a2 < 0 → (a3 ≤ a2 → post' a4) ∧ (¬ a3 ≤ a2 → ir (a1n : Int) ∧ ((a1n : Int) ≤ a2 → post' a4) ∧ (¬ (a1n : Int) ≤ a2 → (0 ≤ a2 ∧ a2 < a1n) ∧ post' (J a1 a2.toNat))))
theorem vw_X11_pick {J : mJ} {a1 : Nat} {a1n : Nat} {xa2 : Int32} {a2 : Int} {xa3 : Int32} {a3 : Int} {xa4 : Int32} {a4 : Int} (hJ : irm J)    (ea2 : xa2 = zi a2) (ia2 : ir a2) (ea3 : xa3 = zi a3) (ia3 : ir a3) (ea4 : xa4 = zi a4) (ia4 : ir a4) {post : Int32 → Prop} {post' : Int → Prop} (hp : ∀ (x : Int32) (r : Int), x = zi r → ir r → post' r → post x) (hv : v_X11_pick J a1 a1n a2 a3 a4 post') : w_X11_pick (zz J) a1 a1n xa2 xa3 xa4 post := by
  subst ea2
  subst ea3
  subst ea4
  unfold v_X11_pick at hv
  unfold w_X11_pick
  refine ⟨fun cq => ?_, fun cq => ?_⟩
  · have hv := hv.1 ((zlt (rfl : zi a2 = zi a2) (by decide : (0 : Int32) = zi 0) ia2 (by decide : ir 0)).mp cq)
    exact hp _ _ (rfl : zi a4 = zi a4) ia4 hv
  · have hv := hv.2 (fun q => cq ((zlt (rfl : zi a2 = zi a2) (by decide : (0 : Int32) = zi 0) ia2 (by decide : ir 0)).mpr q))
    refine ⟨fun cq => ?_, fun cq => ?_⟩
    · have hv := hv.1 ((zle (rfl : zi a3 = zi a3) (rfl : zi a2 = zi a2) ia3 ia2).mp cq)
      exact hp _ _ (rfl : zi a4 = zi a4) ia4 hv
    · have hv := hv.2 (fun q => cq ((zle (rfl : zi a3 = zi a3) (rfl : zi a2 = zi a2) ia3 ia2).mpr q))
      obtain ⟨g1, hv⟩ := hv
      refine ⟨fun cq => ?_, fun cq => ?_⟩
      · have hv := hv.1 ((zle (z_len (N := a1n)) (rfl : zi a2 = zi a2) g1 ia2).mp cq)
        exact hp _ _ (rfl : zi a4 = zi a4) ia4 hv
      · have hv := hv.2 (fun q => cq ((zle (z_len (N := a1n)) (rfl : zi a2 = zi a2) g1 ia2).mpr q))
        obtain ⟨g2, hv⟩ := hv
        refine ⟨zvp (rfl : zi a2 = zi a2) ia2 g2.1 g2.2, ?_⟩
        exact hp _ _ (zrd (rfl : zi a2 = zi a2) ia2 g2.1) (hJ _ _) hv
def v_X4_latestOn (J : mJ) (o : Nat) (a1 : Int) (a2 : Int) (post' : Int → Prop) : Prop := ir (a2 - (J o 0)) ∧ ∀ y2, y2 = (a2 - (J o 0)) → (y2 < 0 → post' (-1)) ∧ (¬ y2 < 0 → ((J o 1) ≤ y2 → post' (-1)) ∧ (¬ (J o 1) ≤ y2 → ir (y2 * 24) ∧ ir ((y2 * 24) + a1) ∧ v_X11_pick J (o + 1) 2400 ((y2 * 24) + a1) 2400 (-1) (fun r5 => post' r5)))
theorem vw_X4_latestOn {J : mJ} {o : Nat} {xa1 : Int32} {a1 : Int} {xa2 : Int32} {a2 : Int} (hJ : irm J)   (ea1 : xa1 = zi a1) (ia1 : ir a1) (ea2 : xa2 = zi a2) (ia2 : ir a2) {post : Int32 → Prop} {post' : Int → Prop} (hp : ∀ (x : Int32) (r : Int), x = zi r → ir r → post' r → post x) (hv : v_X4_latestOn J o a1 a2 post') : w_X4_latestOn (zz J) o xa1 xa2 post := by
  subst ea1
  subst ea2
  unfold v_X4_latestOn at hv
  unfold w_X4_latestOn
  obtain ⟨g1, hv⟩ := hv
  intro xy2 exy2
  obtain ⟨y2, eyy2⟩ : ∃ q9 : Int, q9 = (a2 - (J o 0)) := ⟨_, rfl⟩
  have hv := hv y2 eyy2
  have Ey2 : xy2 = zi y2 := exy2.trans (((zs (rfl : zi a2 = zi a2) zrf)).trans (congrArg zi eyy2.symm))
  have Iy2 : ir y2 := by rw [eyy2]; exact g1
  clear exy2
  refine ⟨fun cq => ?_, fun cq => ?_⟩
  · have hv := hv.1 ((zlt Ey2 (by decide : (0 : Int32) = zi 0) Iy2 (by decide : ir 0)).mp cq)
    exact hp _ _ (by decide : ((-1) : Int32) = zi (-1)) (by decide : ir (-1)) hv
  · have hv := hv.2 (fun q => cq ((zlt Ey2 (by decide : (0 : Int32) = zi 0) Iy2 (by decide : ir 0)).mpr q))
    refine ⟨fun cq => ?_, fun cq => ?_⟩
    · have hv := hv.1 ((zle zrf Ey2 (hJ _ _) Iy2).mp cq)
      exact hp _ _ (by decide : ((-1) : Int32) = zi (-1)) (by decide : ir (-1)) hv
    · have hv := hv.2 (fun q => cq ((zle zrf Ey2 (hJ _ _) Iy2).mpr q))
      obtain ⟨g3, hv⟩ := hv
      obtain ⟨g4, hv⟩ := hv
      refine vw_X11_pick hJ (za (zm Ey2 (by decide : (24 : Int32) = zi 24)) (rfl : zi a1 = zi a1)) g4 (z_len (N := 2400)) (by decide : ir (2400 : Int)) (by decide : ((-1) : Int32) = zi (-1)) (by decide : ir (-1)) (fun xr5 r5 Er5 Ir5 hv => ?_) hv
      exact hp _ _ Er5 Ir5 hv
def v_X0_echoLoud_134 (J : mJ) (o : Nat) (a1 : Nat) (a1h : Nat) (a2 : Nat) (a3 : Int) (a4 : Int) (a5 : Int) (post' : Int → Prop) (v6 : Int) (v7 : Int) (v8 : Int) (v9 : Int) (s0 : Int) : Prop := ir (a4 + a5) ∧ ir ((a4 + a5) - s0) ∧ (((a4 + a5) - s0) ≤ (J a1h 1) → (v9 = 0 → (0 ≤ v8 ∧ v8 < 100) ∧ v_X3_loudOf J a1h a3 v6 (J (o + 3) v8.toNat) (fun r15 => post' (divZ r15 2))) ∧ (¬ v9 = 0 → (0 ≤ v7 ∧ v7 < 600) ∧ post' (divZ (J (a1 + 5) v7.toNat) 2))) ∧ (¬ ((a4 + a5) - s0) ≤ (J a1h 1) → post' 0)
theorem vw_X0_echoLoud_134 {J : mJ} {o : Nat} {a1 : Nat} {a1h : Nat} {a2 : Nat} {a3 : Int} {a4 : Int} {a5 : Int} (hJ : irm J) (ia3 : ir a3) (ia4 : ir a4) (ia5 : ir a5) {post : Int32 → Prop} {post' : Int → Prop} (hp : ∀ (x : Int32) (r : Int), x = zi r → ir r → post' r → post x) {xv6 : Int32} {v6 : Int} {xv7 : Int32} {v7 : Int} {xv8 : Int32} {v8 : Int} {xv9 : Int32} {v9 : Int} {xs0 : Int32} {s0 : Int} (ev6 : xv6 = zi v6) (iv6 : ir v6) (ev7 : xv7 = zi v7) (iv7 : ir v7) (ev8 : xv8 = zi v8) (iv8 : ir v8) (ev9 : xv9 = zi v9) (iv9 : ir v9) (es0 : xs0 = zi s0) (is0 : ir s0) (hv : v_X0_echoLoud_134 J o a1 a1h a2 a3 a4 a5 post' v6 v7 v8 v9 s0) : w_X0_echoLoud_134 (zz J) o a1 a1h a2 (zi a3) (zi a4) (zi a5) post xv6 xv7 xv8 xv9 xs0 := by
  subst ev6
  subst ev7
  subst ev8
  subst ev9
  subst es0
  unfold v_X0_echoLoud_134 at hv
  unfold w_X0_echoLoud_134
  obtain ⟨g12, hv⟩ := hv
  obtain ⟨g13, hv⟩ := hv
  refine ⟨fun cq => ?_, fun cq => ?_⟩
  · have hv := hv.1 ((zle (zs (za (rfl : zi a4 = zi a4) (rfl : zi a5 = zi a5)) (rfl : zi s0 = zi s0)) zrf g13 (hJ _ _)).mp cq)
    refine ⟨fun cq => ?_, fun cq => ?_⟩
    · have hv := hv.1 ((zeq (rfl : zi v9 = zi v9) (by decide : (0 : Int32) = zi 0) iv9 (by decide : ir 0)).mp cq)
      obtain ⟨g14, hv⟩ := hv
      refine ⟨zvp (rfl : zi v8 = zi v8) iv8 g14.1 g14.2, ?_⟩
      refine vw_X3_loudOf hJ (rfl : zi a3 = zi a3) ia3 (rfl : zi v6 = zi v6) iv6 (zrd (rfl : zi v8 = zi v8) iv8 g14.1) (hJ _ _) (fun xr15 r15 Er15 Ir15 hv => ?_) hv
      exact hp _ _ (z_div Er15 (by decide : (2 : Int32) = zi 2)) (ir_toInt _) hv
    · have hv := hv.2 (fun q => cq ((zeq (rfl : zi v9 = zi v9) (by decide : (0 : Int32) = zi 0) iv9 (by decide : ir 0)).mpr q))
      obtain ⟨g16, hv⟩ := hv
      refine ⟨zvp (rfl : zi v7 = zi v7) iv7 g16.1 g16.2, ?_⟩
      exact hp _ _ (z_div (zrd (rfl : zi v7 = zi v7) iv7 g16.1) (by decide : (2 : Int32) = zi 2)) (ir_toInt _) hv
  · have hv := hv.2 (fun q => cq ((zle (zs (za (rfl : zi a4 = zi a4) (rfl : zi a5 = zi a5)) (rfl : zi s0 = zi s0)) zrf g13 (hJ _ _)).mpr q))
    exact hp _ _ (by decide : (0 : Int32) = zi 0) (by decide : ir 0) hv
def v_X0_echoLoud_115 (J : mJ) (o : Nat) (a1 : Nat) (a1h : Nat) (a2 : Nat) (a3 : Int) (a4 : Int) (a5 : Int) (post' : Int → Prop) (v6 : Int) (v7 : Int) (v8 : Int) (s0 : Int) : Prop := (s0 = 0 → (v_X0_echoLoud_134 J o a1 a1h a2 a3 a4 a5 post') v6 v7 v8 s0 v8) ∧ (¬ s0 = 0 → (0 ≤ v7 ∧ v7 < 600) ∧ (v_X0_echoLoud_134 J o a1 a1h a2 a3 a4 a5 post') v6 v7 v8 s0 (J (a1 + 3) v7.toNat))
theorem vw_X0_echoLoud_115 {J : mJ} {o : Nat} {a1 : Nat} {a1h : Nat} {a2 : Nat} {a3 : Int} {a4 : Int} {a5 : Int} (hJ : irm J) (ia3 : ir a3) (ia4 : ir a4) (ia5 : ir a5) {post : Int32 → Prop} {post' : Int → Prop} (hp : ∀ (x : Int32) (r : Int), x = zi r → ir r → post' r → post x) {xv6 : Int32} {v6 : Int} {xv7 : Int32} {v7 : Int} {xv8 : Int32} {v8 : Int} {xs0 : Int32} {s0 : Int} (ev6 : xv6 = zi v6) (iv6 : ir v6) (ev7 : xv7 = zi v7) (iv7 : ir v7) (ev8 : xv8 = zi v8) (iv8 : ir v8) (es0 : xs0 = zi s0) (is0 : ir s0) (hv : v_X0_echoLoud_115 J o a1 a1h a2 a3 a4 a5 post' v6 v7 v8 s0) : w_X0_echoLoud_115 (zz J) o a1 a1h a2 (zi a3) (zi a4) (zi a5) post xv6 xv7 xv8 xs0 := by
  subst ev6
  subst ev7
  subst ev8
  subst es0
  unfold v_X0_echoLoud_115 at hv
  unfold w_X0_echoLoud_115
  refine ⟨fun cq => ?_, fun cq => ?_⟩
  · have hv := hv.1 ((zeq (rfl : zi s0 = zi s0) (by decide : (0 : Int32) = zi 0) is0 (by decide : ir 0)).mp cq)
    exact vw_X0_echoLoud_134 hJ ia3 ia4 ia5 hp (rfl : zi v6 = zi v6) iv6 (rfl : zi v7 = zi v7) iv7 (rfl : zi v8 = zi v8) iv8 (rfl : zi s0 = zi s0) is0 (rfl : zi v8 = zi v8) iv8 hv
  · have hv := hv.2 (fun q => cq ((zeq (rfl : zi s0 = zi s0) (by decide : (0 : Int32) = zi 0) is0 (by decide : ir 0)).mpr q))
    obtain ⟨g11, hv⟩ := hv
    refine ⟨zvp (rfl : zi v7 = zi v7) iv7 g11.1 g11.2, ?_⟩
    exact vw_X0_echoLoud_134 hJ ia3 ia4 ia5 hp (rfl : zi v6 = zi v6) iv6 (rfl : zi v7 = zi v7) iv7 (rfl : zi v8 = zi v8) iv8 (rfl : zi s0 = zi s0) is0 (zrd (rfl : zi v7 = zi v7) iv7 g11.1) (hJ _ _) hv
def v_X0_echoLoud_114 (J : mJ) (o : Nat) (a1 : Nat) (a1h : Nat) (a2 : Nat) (a3 : Int) (a4 : Int) (a5 : Int) (post' : Int → Prop) (v6 : Int) (v7 : Int) (v8 : Int) : Prop := (v_X0_echoLoud_115 J o a1 a1h a2 a3 a4 a5 post') v6 v7 v8 0
theorem vw_X0_echoLoud_114 {J : mJ} {o : Nat} {a1 : Nat} {a1h : Nat} {a2 : Nat} {a3 : Int} {a4 : Int} {a5 : Int} (hJ : irm J) (ia3 : ir a3) (ia4 : ir a4) (ia5 : ir a5) {post : Int32 → Prop} {post' : Int → Prop} (hp : ∀ (x : Int32) (r : Int), x = zi r → ir r → post' r → post x) {xv6 : Int32} {v6 : Int} {xv7 : Int32} {v7 : Int} {xv8 : Int32} {v8 : Int} (ev6 : xv6 = zi v6) (iv6 : ir v6) (ev7 : xv7 = zi v7) (iv7 : ir v7) (ev8 : xv8 = zi v8) (iv8 : ir v8) (hv : v_X0_echoLoud_114 J o a1 a1h a2 a3 a4 a5 post' v6 v7 v8) : w_X0_echoLoud_114 (zz J) o a1 a1h a2 (zi a3) (zi a4) (zi a5) post xv6 xv7 xv8 := by
  subst ev6
  subst ev7
  subst ev8
  unfold v_X0_echoLoud_114 at hv
  unfold w_X0_echoLoud_114
  exact vw_X0_echoLoud_115 hJ ia3 ia4 ia5 hp (rfl : zi v6 = zi v6) iv6 (rfl : zi v7 = zi v7) iv7 (rfl : zi v8 = zi v8) iv8 (by decide : (0 : Int32) = zi 0) (by decide : ir 0) hv
def v_X0_echoLoud_110 (J : mJ) (o : Nat) (a1 : Nat) (a1h : Nat) (a2 : Nat) (a3 : Int) (a4 : Int) (a5 : Int) (post' : Int → Prop) (v6 : Int) (v7 : Int) (v8 : Int) : Prop := (v_X0_echoLoud_115 J o a1 a1h a2 a3 a4 a5 post') v6 v7 v8 1
theorem vw_X0_echoLoud_110 {J : mJ} {o : Nat} {a1 : Nat} {a1h : Nat} {a2 : Nat} {a3 : Int} {a4 : Int} {a5 : Int} (hJ : irm J) (ia3 : ir a3) (ia4 : ir a4) (ia5 : ir a5) {post : Int32 → Prop} {post' : Int → Prop} (hp : ∀ (x : Int32) (r : Int), x = zi r → ir r → post' r → post x) {xv6 : Int32} {v6 : Int} {xv7 : Int32} {v7 : Int} {xv8 : Int32} {v8 : Int} (ev6 : xv6 = zi v6) (iv6 : ir v6) (ev7 : xv7 = zi v7) (iv7 : ir v7) (ev8 : xv8 = zi v8) (iv8 : ir v8) (hv : v_X0_echoLoud_110 J o a1 a1h a2 a3 a4 a5 post' v6 v7 v8) : w_X0_echoLoud_110 (zz J) o a1 a1h a2 (zi a3) (zi a4) (zi a5) post xv6 xv7 xv8 := by
  subst ev6
  subst ev7
  subst ev8
  unfold v_X0_echoLoud_110 at hv
  unfold w_X0_echoLoud_110
  exact vw_X0_echoLoud_115 hJ ia3 ia4 ia5 hp (rfl : zi v6 = zi v6) iv6 (rfl : zi v7 = zi v7) iv7 (rfl : zi v8 = zi v8) iv8 (by decide : (1 : Int32) = zi 1) (by decide : ir 1) hv
def v_X0_echoLoud_63 (J : mJ) (o : Nat) (a1 : Nat) (a1h : Nat) (a2 : Nat) (a3 : Int) (a4 : Int) (a5 : Int) (post' : Int → Prop) (v6 : Int) (v7 : Int) (v8 : Int) : Prop := (v7 = (-1) → (v_X0_echoLoud_114 J o a1 a1h a2 a3 a4 a5 post') v6 v7 v8) ∧ (¬ v7 = (-1) → (v8 = (-1) → (v_X0_echoLoud_110 J o a1 a1h a2 a3 a4 a5 post') v6 v7 v8) ∧ (¬ v8 = (-1) → (0 ≤ v7 ∧ v7 < 600) ∧ (v8 < (J (a1 + 3) v7.toNat) → (v_X0_echoLoud_110 J o a1 a1h a2 a3 a4 a5 post') v6 v7 v8) ∧ (¬ v8 < (J (a1 + 3) v7.toNat) → (0 ≤ v7 ∧ v7 < 600) ∧ (¬ (J (a1 + 3) v7.toNat) = v8 → (v_X0_echoLoud_114 J o a1 a1h a2 a3 a4 a5 post') v6 v7 v8) ∧ ((J (a1 + 3) v7.toNat) = v8 → (0 ≤ v7 ∧ v7 < 600) ∧ ((J (a1 + 1) v7.toNat) ≤ a3 → (v_X0_echoLoud_114 J o a1 a1h a2 a3 a4 a5 post') v6 v7 v8) ∧ (¬ (J (a1 + 1) v7.toNat) ≤ a3 → (v_X0_echoLoud_110 J o a1 a1h a2 a3 a4 a5 post') v6 v7 v8)))))
theorem vw_X0_echoLoud_63 {J : mJ} {o : Nat} {a1 : Nat} {a1h : Nat} {a2 : Nat} {a3 : Int} {a4 : Int} {a5 : Int} (hJ : irm J) (ia3 : ir a3) (ia4 : ir a4) (ia5 : ir a5) {post : Int32 → Prop} {post' : Int → Prop} (hp : ∀ (x : Int32) (r : Int), x = zi r → ir r → post' r → post x) {xv6 : Int32} {v6 : Int} {xv7 : Int32} {v7 : Int} {xv8 : Int32} {v8 : Int} (ev6 : xv6 = zi v6) (iv6 : ir v6) (ev7 : xv7 = zi v7) (iv7 : ir v7) (ev8 : xv8 = zi v8) (iv8 : ir v8) (hv : v_X0_echoLoud_63 J o a1 a1h a2 a3 a4 a5 post' v6 v7 v8) : w_X0_echoLoud_63 (zz J) o a1 a1h a2 (zi a3) (zi a4) (zi a5) post xv6 xv7 xv8 := by
  subst ev6
  subst ev7
  subst ev8
  unfold v_X0_echoLoud_63 at hv
  unfold w_X0_echoLoud_63
  refine ⟨fun cq => ?_, fun cq => ?_⟩
  · have hv := hv.1 ((zeq (rfl : zi v7 = zi v7) (by decide : ((-1) : Int32) = zi (-1)) iv7 (by decide : ir (-1))).mp cq)
    exact vw_X0_echoLoud_114 hJ ia3 ia4 ia5 hp (rfl : zi v6 = zi v6) iv6 (rfl : zi v7 = zi v7) iv7 (rfl : zi v8 = zi v8) iv8 hv
  · have hv := hv.2 (fun q => cq ((zeq (rfl : zi v7 = zi v7) (by decide : ((-1) : Int32) = zi (-1)) iv7 (by decide : ir (-1))).mpr q))
    refine ⟨fun cq => ?_, fun cq => ?_⟩
    · have hv := hv.1 ((zeq (rfl : zi v8 = zi v8) (by decide : ((-1) : Int32) = zi (-1)) iv8 (by decide : ir (-1))).mp cq)
      exact vw_X0_echoLoud_110 hJ ia3 ia4 ia5 hp (rfl : zi v6 = zi v6) iv6 (rfl : zi v7 = zi v7) iv7 (rfl : zi v8 = zi v8) iv8 hv
    · have hv := hv.2 (fun q => cq ((zeq (rfl : zi v8 = zi v8) (by decide : ((-1) : Int32) = zi (-1)) iv8 (by decide : ir (-1))).mpr q))
      obtain ⟨g8, hv⟩ := hv
      refine ⟨zvp (rfl : zi v7 = zi v7) iv7 g8.1 g8.2, ?_⟩
      refine ⟨fun cq => ?_, fun cq => ?_⟩
      · have hv := hv.1 ((zlt (rfl : zi v8 = zi v8) (zrd (rfl : zi v7 = zi v7) iv7 g8.1) iv8 (hJ _ _)).mp cq)
        exact vw_X0_echoLoud_110 hJ ia3 ia4 ia5 hp (rfl : zi v6 = zi v6) iv6 (rfl : zi v7 = zi v7) iv7 (rfl : zi v8 = zi v8) iv8 hv
      · have hv := hv.2 (fun q => cq ((zlt (rfl : zi v8 = zi v8) (zrd (rfl : zi v7 = zi v7) iv7 g8.1) iv8 (hJ _ _)).mpr q))
        obtain ⟨g9, hv⟩ := hv
        refine ⟨zvp (rfl : zi v7 = zi v7) iv7 g9.1 g9.2, ?_⟩
        refine ⟨fun cq => ?_, fun cq => ?_⟩
        · have hv := hv.1 (fun q => cq ((zeq (zrd (rfl : zi v7 = zi v7) iv7 g9.1) (rfl : zi v8 = zi v8) (hJ _ _) iv8).mpr q))
          exact vw_X0_echoLoud_114 hJ ia3 ia4 ia5 hp (rfl : zi v6 = zi v6) iv6 (rfl : zi v7 = zi v7) iv7 (rfl : zi v8 = zi v8) iv8 hv
        · have hv := hv.2 ((zeq (zrd (rfl : zi v7 = zi v7) iv7 g9.1) (rfl : zi v8 = zi v8) (hJ _ _) iv8).mp cq)
          obtain ⟨g10, hv⟩ := hv
          refine ⟨zvp (rfl : zi v7 = zi v7) iv7 g10.1 g10.2, ?_⟩
          refine ⟨fun cq => ?_, fun cq => ?_⟩
          · have hv := hv.1 ((zle (zrd (rfl : zi v7 = zi v7) iv7 g10.1) (rfl : zi a3 = zi a3) (hJ _ _) ia3).mp cq)
            exact vw_X0_echoLoud_114 hJ ia3 ia4 ia5 hp (rfl : zi v6 = zi v6) iv6 (rfl : zi v7 = zi v7) iv7 (rfl : zi v8 = zi v8) iv8 hv
          · have hv := hv.2 (fun q => cq ((zle (zrd (rfl : zi v7 = zi v7) iv7 g10.1) (rfl : zi a3 = zi a3) (hJ _ _) ia3).mpr q))
            exact vw_X0_echoLoud_110 hJ ia3 ia4 ia5 hp (rfl : zi v6 = zi v6) iv6 (rfl : zi v7 = zi v7) iv7 (rfl : zi v8 = zi v8) iv8 hv
def v_X0_echoLoud_47 (J : mJ) (o : Nat) (a1 : Nat) (a1h : Nat) (a2 : Nat) (a3 : Int) (a4 : Int) (a5 : Int) (post' : Int → Prop) (v6 : Int) (v7 : Int) (s0 : Int) : Prop := (¬ v7 = (-1) → (v_X0_echoLoud_63 J o a1 a1h a2 a3 a4 a5 post') v6 v7 s0) ∧ (v7 = (-1) → (¬ s0 = (-1) → (v_X0_echoLoud_63 J o a1 a1h a2 a3 a4 a5 post') v6 v7 s0) ∧ (s0 = (-1) → post' 0))
theorem vw_X0_echoLoud_47 {J : mJ} {o : Nat} {a1 : Nat} {a1h : Nat} {a2 : Nat} {a3 : Int} {a4 : Int} {a5 : Int} (hJ : irm J) (ia3 : ir a3) (ia4 : ir a4) (ia5 : ir a5) {post : Int32 → Prop} {post' : Int → Prop} (hp : ∀ (x : Int32) (r : Int), x = zi r → ir r → post' r → post x) {xv6 : Int32} {v6 : Int} {xv7 : Int32} {v7 : Int} {xs0 : Int32} {s0 : Int} (ev6 : xv6 = zi v6) (iv6 : ir v6) (ev7 : xv7 = zi v7) (iv7 : ir v7) (es0 : xs0 = zi s0) (is0 : ir s0) (hv : v_X0_echoLoud_47 J o a1 a1h a2 a3 a4 a5 post' v6 v7 s0) : w_X0_echoLoud_47 (zz J) o a1 a1h a2 (zi a3) (zi a4) (zi a5) post xv6 xv7 xs0 := by
  subst ev6
  subst ev7
  subst es0
  unfold v_X0_echoLoud_47 at hv
  unfold w_X0_echoLoud_47
  refine ⟨fun cq => ?_, fun cq => ?_⟩
  · have hv := hv.1 (fun q => cq ((zeq (rfl : zi v7 = zi v7) (by decide : ((-1) : Int32) = zi (-1)) iv7 (by decide : ir (-1))).mpr q))
    exact vw_X0_echoLoud_63 hJ ia3 ia4 ia5 hp (rfl : zi v6 = zi v6) iv6 (rfl : zi v7 = zi v7) iv7 (rfl : zi s0 = zi s0) is0 hv
  · have hv := hv.2 ((zeq (rfl : zi v7 = zi v7) (by decide : ((-1) : Int32) = zi (-1)) iv7 (by decide : ir (-1))).mp cq)
    refine ⟨fun cq => ?_, fun cq => ?_⟩
    · have hv := hv.1 (fun q => cq ((zeq (rfl : zi s0 = zi s0) (by decide : ((-1) : Int32) = zi (-1)) is0 (by decide : ir (-1))).mpr q))
      exact vw_X0_echoLoud_63 hJ ia3 ia4 ia5 hp (rfl : zi v6 = zi v6) iv6 (rfl : zi v7 = zi v7) iv7 (rfl : zi s0 = zi s0) is0 hv
    · have hv := hv.2 ((zeq (rfl : zi s0 = zi s0) (by decide : ((-1) : Int32) = zi (-1)) is0 (by decide : ir (-1))).mp cq)
      exact hp _ _ (by decide : (0 : Int32) = zi 0) (by decide : ir 0) hv
def v_X0_echoLoud (J : mJ) (o : Nat) (a1 : Nat) (a1h : Nat) (a2 : Nat) (a3 : Int) (a4 : Int) (a5 : Int) (post' : Int → Prop) : Prop := (0 ≤ a5 ∧ a5 < 100) ∧ ∀ y2, y2 = (J (o + 1) a5.toNat) → ir (a4 + a5) ∧ v_X4_latestOn J a2 y2 (a4 + a5) (fun r4 => (0 ≤ a5 ∧ a5 < 100) ∧ (¬ (J (o + 2) a5.toNat) = (-1) → (0 ≤ a5 ∧ a5 < 100) ∧ ir (a4 + (J (o + 2) a5.toNat)) ∧ (v_X0_echoLoud_47 J o a1 a1h a2 a3 a4 a5 post') y2 r4 (a4 + (J (o + 2) a5.toNat))) ∧ ((J (o + 2) a5.toNat) = (-1) → (v_X0_echoLoud_47 J o a1 a1h a2 a3 a4 a5 post') y2 r4 (-1)))
theorem vw_X0_echoLoud {J : mJ} {o : Nat} {a1 : Nat} {a1h : Nat} {a2 : Nat} {xa3 : Int32} {a3 : Int} {xa4 : Int32} {a4 : Int} {xa5 : Int32} {a5 : Int} (hJ : irm J)      (ea3 : xa3 = zi a3) (ia3 : ir a3) (ea4 : xa4 = zi a4) (ia4 : ir a4) (ea5 : xa5 = zi a5) (ia5 : ir a5) {post : Int32 → Prop} {post' : Int → Prop} (hp : ∀ (x : Int32) (r : Int), x = zi r → ir r → post' r → post x) (hv : v_X0_echoLoud J o a1 a1h a2 a3 a4 a5 post') : w_X0_echoLoud (zz J) o a1 a1h a2 xa3 xa4 xa5 post := by
  subst ea3
  subst ea4
  subst ea5
  unfold v_X0_echoLoud at hv
  unfold w_X0_echoLoud
  obtain ⟨g1, hv⟩ := hv
  refine ⟨zvp (rfl : zi a5 = zi a5) ia5 g1.1 g1.2, ?_⟩
  intro xy2 exy2
  obtain ⟨y2, eyy2⟩ : ∃ q9 : Int, q9 = (J (o + 1) a5.toNat) := ⟨_, rfl⟩
  have hv := hv y2 eyy2
  have Ey2 : xy2 = zi y2 := exy2.trans (((zrd (rfl : zi a5 = zi a5) ia5 g1.1)).trans (congrArg zi eyy2.symm))
  have Iy2 : ir y2 := by rw [eyy2]; exact (hJ _ _)
  clear exy2
  obtain ⟨g3, hv⟩ := hv
  refine vw_X4_latestOn hJ Ey2 Iy2 (za (rfl : zi a4 = zi a4) (rfl : zi a5 = zi a5)) g3 (fun xr4 r4 Er4 Ir4 hv => ?_) hv
  obtain ⟨g5, hv⟩ := hv
  refine ⟨zvp (rfl : zi a5 = zi a5) ia5 g5.1 g5.2, ?_⟩
  refine ⟨fun cq => ?_, fun cq => ?_⟩
  · have hv := hv.1 (fun q => cq ((zeq (zrd (rfl : zi a5 = zi a5) ia5 g5.1) (by decide : ((-1) : Int32) = zi (-1)) (hJ _ _) (by decide : ir (-1))).mpr q))
    obtain ⟨g6, hv⟩ := hv
    refine ⟨zvp (rfl : zi a5 = zi a5) ia5 g6.1 g6.2, ?_⟩
    obtain ⟨g7, hv⟩ := hv
    exact vw_X0_echoLoud_47 hJ ia3 ia4 ia5 hp Ey2 Iy2 Er4 Ir4 (za (rfl : zi a4 = zi a4) (zrd (rfl : zi a5 = zi a5) ia5 g6.1)) g7 hv
  · have hv := hv.2 ((zeq (zrd (rfl : zi a5 = zi a5) ia5 g5.1) (by decide : ((-1) : Int32) = zi (-1)) (hJ _ _) (by decide : ir (-1))).mp cq)
    exact vw_X0_echoLoud_47 hJ ia3 ia4 ia5 hp Ey2 Iy2 Er4 Ir4 (by decide : ((-1) : Int32) = zi (-1)) (by decide : ir (-1)) hv
def v_X0_notesFrom_6 (J : mJ) (o : Nat) (a1 : Nat) (a1h : Nat) (a2 : Nat) (a3 : Int) (a4 : Int) (post' : Int → Prop) (v5 : Int) (v6 : Int) : Prop := ∀ ZZ : (Int → Int → Prop), (∀ (v5 : Int) (v6 : Int), (((J o 0) ≤ v6 → post' v5) ∧ (¬ (J o 0) ≤ v6 → ir (a4 + v6) ∧ (100 ≤ (a4 + v6) → post' v5) ∧ (¬ 100 ≤ (a4 + v6) → (0 ≤ v6 ∧ v6 < 100) ∧ ∀ y3, y3 = (J (o + 1) v6.toNat) → ir (a4 + v6) ∧ (0 ≤ (a4 + v6) ∧ (a4 + v6) < 100) ∧ v_X3_loudOf J a1h a3 y3 (J (o + 3) (a4 + v6).toNat) (fun r6 => v_X2_hearers J a1 a1h y3 r6 (fun r7 => v_X0_echoLoud J o a1 a1h a2 a3 a4 v6 (fun r8 => v_X2_hearers J a1 a1h y3 r8 (fun r9 => ∀ y10, y10 = (orZ r7 r9) → v_J6_bitCount_0f7a4 y10 (fun r11 => ir (v5 + r11) ∧ ∀ y13, y13 = (v5 + r11) → ir (v6 + 1) ∧ ∀ y15, y15 = v6 + 1 → ZZ y13 y15)))))))) → ZZ v5 v6) → ZZ v5 v6
theorem vw_X0_notesFrom_6 {J : mJ} {o : Nat} {a1 : Nat} {a1h : Nat} {a2 : Nat} {a3 : Int} {a4 : Int} (hJ : irm J) (ia3 : ir a3) (ia4 : ir a4) {post : Int32 → Prop} {post' : Int → Prop} (hp : ∀ (x : Int32) (r : Int), x = zi r → ir r → post' r → post x) {xv5 : Int32} {v5 : Int} {xv6 : Int32} {v6 : Int} (ev5 : xv5 = zi v5) (iv5 : ir v5) (ev6 : xv6 = zi v6) (iv6 : ir v6) (hv : v_X0_notesFrom_6 J o a1 a1h a2 a3 a4 post' v5 v6) : w_X0_notesFrom_6 (zz J) o a1 a1h a2 (zi a3) (zi a4) post xv5 xv6 := by
  subst ev5
  subst ev6
  unfold v_X0_notesFrom_6 at hv
  unfold w_X0_notesFrom_6
  intro ZZ hZ
  refine hv (fun v5 v6 => ∀ (xv5 : Int32) (xv6 : Int32), xv5 = zi v5 → ir v5 → xv6 = zi v6 → ir v6 → ZZ xv5 xv6) ?_ _ _ rfl iv5 rfl iv6
  clear hv iv5 iv6
  intro v5 v6 hv xv5 xv6 ev5 iv5 ev6 iv6
  subst ev5
  subst ev6
  refine hZ _ _ ?_
  refine ⟨fun cq => ?_, fun cq => ?_⟩
  · have hv := hv.1 ((zle zrf (rfl : zi v6 = zi v6) (hJ _ _) iv6).mp cq)
    exact hp _ _ (rfl : zi v5 = zi v5) iv5 hv
  · have hv := hv.2 (fun q => cq ((zle zrf (rfl : zi v6 = zi v6) (hJ _ _) iv6).mpr q))
    obtain ⟨g1, hv⟩ := hv
    refine ⟨fun cq => ?_, fun cq => ?_⟩
    · have hv := hv.1 ((zle (by decide : (100 : Int32) = zi 100) (za (rfl : zi a4 = zi a4) (rfl : zi v6 = zi v6)) (by decide : ir 100) g1).mp cq)
      exact hp _ _ (rfl : zi v5 = zi v5) iv5 hv
    · have hv := hv.2 (fun q => cq ((zle (by decide : (100 : Int32) = zi 100) (za (rfl : zi a4 = zi a4) (rfl : zi v6 = zi v6)) (by decide : ir 100) g1).mpr q))
      obtain ⟨g2, hv⟩ := hv
      refine ⟨zvp (rfl : zi v6 = zi v6) iv6 g2.1 g2.2, ?_⟩
      intro xy3 exy3
      obtain ⟨y3, eyy3⟩ : ∃ q9 : Int, q9 = (J (o + 1) v6.toNat) := ⟨_, rfl⟩
      have hv := hv y3 eyy3
      have Ey3 : xy3 = zi y3 := exy3.trans (((zrd (rfl : zi v6 = zi v6) iv6 g2.1)).trans (congrArg zi eyy3.symm))
      have Iy3 : ir y3 := by rw [eyy3]; exact (hJ _ _)
      clear exy3
      obtain ⟨g4, hv⟩ := hv
      obtain ⟨g5, hv⟩ := hv
      refine ⟨zvp (za (rfl : zi a4 = zi a4) (rfl : zi v6 = zi v6)) g4 g5.1 g5.2, ?_⟩
      refine vw_X3_loudOf hJ (rfl : zi a3 = zi a3) ia3 Ey3 Iy3 (zrd (za (rfl : zi a4 = zi a4) (rfl : zi v6 = zi v6)) g4 g5.1) (hJ _ _) (fun xr6 r6 Er6 Ir6 hv => ?_) hv
      refine vw_X2_hearers hJ Ey3 Iy3 Er6 Ir6 (fun xr7 r7 Er7 Ir7 hv => ?_) hv
      refine vw_X0_echoLoud hJ (rfl : zi a3 = zi a3) ia3 (rfl : zi a4 = zi a4) ia4 (rfl : zi v6 = zi v6) iv6 (fun xr8 r8 Er8 Ir8 hv => ?_) hv
      refine vw_X2_hearers hJ Ey3 Iy3 Er8 Ir8 (fun xr9 r9 Er9 Ir9 hv => ?_) hv
      intro xy10 exy10
      obtain ⟨y10, eyy10⟩ : ∃ q9 : Int, q9 = (orZ r7 r9) := ⟨_, rfl⟩
      have hv := hv y10 eyy10
      have Ey10 : xy10 = zi y10 := exy10.trans (((z_or Er7 Er9)).trans (congrArg zi eyy10.symm))
      have Iy10 : ir y10 := by rw [eyy10]; exact (ir_toInt _)
      clear exy10
      refine vw_J6_bitCount_0f7a4 Ey10 Iy10 (fun xr11 r11 Er11 Ir11 hv => ?_) hv
      obtain ⟨g12, hv⟩ := hv
      intro xy13 exy13
      obtain ⟨y13, eyy13⟩ : ∃ q9 : Int, q9 = (v5 + r11) := ⟨_, rfl⟩
      have hv := hv y13 eyy13
      have Ey13 : xy13 = zi y13 := exy13.trans (((za (rfl : zi v5 = zi v5) Er11)).trans (congrArg zi eyy13.symm))
      have Iy13 : ir y13 := by rw [eyy13]; exact g12
      clear exy13
      obtain ⟨g14, hv⟩ := hv
      intro xy15 exy15
      obtain ⟨y15, eyy15⟩ : ∃ q9 : Int, q9 = v6 + 1 := ⟨_, rfl⟩
      have hv := hv y15 eyy15
      have Ey15 : xy15 = zi y15 := exy15.trans (((za (rfl : zi v6 = zi v6) (by decide : (1 : Int32) = zi 1))).trans (congrArg zi eyy15.symm))
      have Iy15 : ir y15 := by rw [eyy15]; exact g14
      clear exy15
      exact hv _ _ Ey13 Iy13 Ey15 Iy15
def v_X0_notesFrom (J : mJ) (o : Nat) (a1 : Nat) (a1h : Nat) (a2 : Nat) (a3 : Int) (a4 : Int) (post' : Int → Prop) : Prop := (v_X0_notesFrom_6 J o a1 a1h a2 a3 a4 post') 0 0
theorem vw_X0_notesFrom {J : mJ} {o : Nat} {a1 : Nat} {a1h : Nat} {a2 : Nat} {xa3 : Int32} {a3 : Int} {xa4 : Int32} {a4 : Int} (hJ : irm J)      (ea3 : xa3 = zi a3) (ia3 : ir a3) (ea4 : xa4 = zi a4) (ia4 : ir a4) {post : Int32 → Prop} {post' : Int → Prop} (hp : ∀ (x : Int32) (r : Int), x = zi r → ir r → post' r → post x) (hv : v_X0_notesFrom J o a1 a1h a2 a3 a4 post') : w_X0_notesFrom (zz J) o a1 a1h a2 xa3 xa4 post := by
  subst ea3
  subst ea4
  unfold v_X0_notesFrom at hv
  unfold w_X0_notesFrom
  exact vw_X0_notesFrom_6 hJ ia3 ia4 hp (by decide : (0 : Int32) = zi 0) (by decide : ir 0) (by decide : (0 : Int32) = zi 0) (by decide : ir 0) hv
def v_X0_best_12 (o : Nat) (a1 : Nat) (a1h : Nat) (a2 : Nat) (a3 : Int) (post' : Int → mJ → Prop) (k42' : mJ → Prop) (J : mJ) (v4 : Int) : Prop := ∀ ZZ : (mJ → Int → Prop), (∀ (J : mJ) (v4 : Int), ((100 ≤ v4 → k42' J) ∧ (¬ 100 ≤ v4 → v_X3_shoeAt J a1h a3 v4 (fun r2 => (0 ≤ v4 ∧ v4 < 100) ∧ ∀ J4, J4 = up2 J (o + 3) v4.toNat r2 → ir (v4 + 1) ∧ ∀ y6, y6 = v4 + 1 → ZZ J4 y6))) → ZZ J v4) → ZZ J v4
theorem vw_X0_best_12 {o : Nat} {a1 : Nat} {a1h : Nat} {a2 : Nat} {a3 : Int}  (ia3 : ir a3) {post : Int32 → mI → Prop} {post' : Int → mJ → Prop} {k42' : mJ → Prop} {k42 : mI → Prop} (hp : ∀ (x : Int32) (r : Int) (J1 : mJ), x = zi r → ir r → irm J1 → post' r J1 → post x (zz J1)) (hk42 : ∀ (J : mJ), irm J → k42' J → k42 (zz J)) {J : mJ} {xv4 : Int32} {v4 : Int} (hJ : irm J) (ev4 : xv4 = zi v4) (iv4 : ir v4) (hv : v_X0_best_12 o a1 a1h a2 a3 post' k42' J v4) : w_X0_best_12 o a1 a1h a2 (zi a3) post k42 (zz J) xv4 := by
  subst ev4
  unfold v_X0_best_12 at hv
  unfold w_X0_best_12
  intro ZZ hZ
  refine hv (fun J v4 => ∀ (xv4 : Int32), irm J → xv4 = zi v4 → ir v4 → ZZ (zz J) xv4) ?_ _ hJ rfl iv4
  clear hv hJ iv4
  intro J v4 hv xv4 hJ ev4 iv4
  subst ev4
  refine hZ _ _ ?_
  refine ⟨fun cq => ?_, fun cq => ?_⟩
  · have hv := hv.1 ((zle (by decide : (100 : Int32) = zi 100) (rfl : zi v4 = zi v4) (by decide : ir 100) iv4).mp cq)
    exact hk42 _ hJ hv
  · have hv := hv.2 (fun q => cq ((zle (by decide : (100 : Int32) = zi 100) (rfl : zi v4 = zi v4) (by decide : ir 100) iv4).mpr q))
    refine vw_X3_shoeAt hJ (rfl : zi a3 = zi a3) ia3 (rfl : zi v4 = zi v4) iv4 (fun xr2 r2 Er2 Ir2 hv => ?_) hv
    obtain ⟨g3, hv⟩ := hv
    refine ⟨zvp (rfl : zi v4 = zi v4) iv4 g3.1 g3.2, ?_⟩
    intro I1 eI1
    obtain ⟨J4, eJ4⟩ : ∃ q9 : mJ, q9 = up2 J (o + 3) v4.toNat r2 := ⟨_, rfl⟩
    have eI1 : I1 = zz J4 := by rw [eI1, eJ4]; exact zupa (rfl : zi v4 = zi v4) iv4 g3.1 Er2
    subst eI1
    have hv := hv J4 eJ4
    have hJ : irm J4 := by rw [eJ4]; exact irm_up hJ Ir2
    obtain ⟨g5, hv⟩ := hv
    intro xy6 exy6
    obtain ⟨y6, eyy6⟩ : ∃ q9 : Int, q9 = v4 + 1 := ⟨_, rfl⟩
    have hv := hv y6 eyy6
    have Ey6 : xy6 = zi y6 := exy6.trans (((za (rfl : zi v4 = zi v4) (by decide : (1 : Int32) = zi 1))).trans (congrArg zi eyy6.symm))
    have Iy6 : ir y6 := by rw [eyy6]; exact g5
    clear exy6
    exact hv _ hJ Ey6 Iy6
def v_X0_best_58 (o : Nat) (a1 : Nat) (a1h : Nat) (a2 : Nat) (a3 : Int) (post' : Int → mJ → Prop) (J : mJ) (v4 : Int) (v5 : Int) (v6 : Int) : Prop := ∀ ZZ : (mJ → Int → Int → Int → Prop), (∀ (J : mJ) (v4 : Int) (v5 : Int) (v6 : Int), ((60 < v6 → post' v4 J) ∧ (¬ 60 < v6 → v_X0_notesFrom J o a1 a1h a2 a3 v6 (fun r8 => (v5 ≤ r8 → ir (v6 + 1) ∧ ∀ y10, y10 = v6 + 1 → ZZ J v4 v5 y10) ∧ (¬ v5 ≤ r8 → ir (v6 + 1) ∧ ∀ y12, y12 = v6 + 1 → ZZ J v6 r8 y12)))) → ZZ J v4 v5 v6) → ZZ J v4 v5 v6
theorem vw_X0_best_58 {o : Nat} {a1 : Nat} {a1h : Nat} {a2 : Nat} {a3 : Int}  (ia3 : ir a3) {post : Int32 → mI → Prop} {post' : Int → mJ → Prop} (hp : ∀ (x : Int32) (r : Int) (J1 : mJ), x = zi r → ir r → irm J1 → post' r J1 → post x (zz J1)) {J : mJ} {xv4 : Int32} {v4 : Int} {xv5 : Int32} {v5 : Int} {xv6 : Int32} {v6 : Int} (hJ : irm J) (ev4 : xv4 = zi v4) (iv4 : ir v4) (ev5 : xv5 = zi v5) (iv5 : ir v5) (ev6 : xv6 = zi v6) (iv6 : ir v6) (hv : v_X0_best_58 o a1 a1h a2 a3 post' J v4 v5 v6) : w_X0_best_58 o a1 a1h a2 (zi a3) post (zz J) xv4 xv5 xv6 := by
  subst ev4
  subst ev5
  subst ev6
  unfold v_X0_best_58 at hv
  unfold w_X0_best_58
  intro ZZ hZ
  refine hv (fun J v4 v5 v6 => ∀ (xv4 : Int32) (xv5 : Int32) (xv6 : Int32), irm J → xv4 = zi v4 → ir v4 → xv5 = zi v5 → ir v5 → xv6 = zi v6 → ir v6 → ZZ (zz J) xv4 xv5 xv6) ?_ _ _ _ hJ rfl iv4 rfl iv5 rfl iv6
  clear hv hJ iv4 iv5 iv6
  intro J v4 v5 v6 hv xv4 xv5 xv6 hJ ev4 iv4 ev5 iv5 ev6 iv6
  subst ev4
  subst ev5
  subst ev6
  refine hZ _ _ _ _ ?_
  refine ⟨fun cq => ?_, fun cq => ?_⟩
  · have hv := hv.1 ((zlt (by decide : (60 : Int32) = zi 60) (rfl : zi v6 = zi v6) (by decide : ir 60) iv6).mp cq)
    exact hp _ _ _ (rfl : zi v4 = zi v4) iv4 hJ hv
  · have hv := hv.2 (fun q => cq ((zlt (by decide : (60 : Int32) = zi 60) (rfl : zi v6 = zi v6) (by decide : ir 60) iv6).mpr q))
    refine vw_X0_notesFrom hJ (rfl : zi a3 = zi a3) ia3 (rfl : zi v6 = zi v6) iv6 (fun xr8 r8 Er8 Ir8 hv => ?_) hv
    refine ⟨fun cq => ?_, fun cq => ?_⟩
    · have hv := hv.1 ((zle (rfl : zi v5 = zi v5) Er8 iv5 Ir8).mp cq)
      obtain ⟨g9, hv⟩ := hv
      intro xy10 exy10
      obtain ⟨y10, eyy10⟩ : ∃ q9 : Int, q9 = v6 + 1 := ⟨_, rfl⟩
      have hv := hv y10 eyy10
      have Ey10 : xy10 = zi y10 := exy10.trans (((za (rfl : zi v6 = zi v6) (by decide : (1 : Int32) = zi 1))).trans (congrArg zi eyy10.symm))
      have Iy10 : ir y10 := by rw [eyy10]; exact g9
      clear exy10
      exact hv _ _ _ hJ (rfl : zi v4 = zi v4) iv4 (rfl : zi v5 = zi v5) iv5 Ey10 Iy10
    · have hv := hv.2 (fun q => cq ((zle (rfl : zi v5 = zi v5) Er8 iv5 Ir8).mpr q))
      obtain ⟨g11, hv⟩ := hv
      intro xy12 exy12
      obtain ⟨y12, eyy12⟩ : ∃ q9 : Int, q9 = v6 + 1 := ⟨_, rfl⟩
      have hv := hv y12 eyy12
      have Ey12 : xy12 = zi y12 := exy12.trans (((za (rfl : zi v6 = zi v6) (by decide : (1 : Int32) = zi 1))).trans (congrArg zi eyy12.symm))
      have Iy12 : ir y12 := by rw [eyy12]; exact g11
      clear exy12
      exact hv _ _ _ hJ (rfl : zi v6 = zi v6) iv6 Er8 Ir8 Ey12 Iy12
def v_X0_best_42 (o : Nat) (a1 : Nat) (a1h : Nat) (a2 : Nat) (a3 : Int) (post' : Int → mJ → Prop) (J : mJ) : Prop := v_X0_notesFrom J o a1 a1h a2 a3 0 (fun r7 => (v_X0_best_58 o a1 a1h a2 a3 post') J 0 r7 1)
theorem vw_X0_best_42 {o : Nat} {a1 : Nat} {a1h : Nat} {a2 : Nat} {a3 : Int}  (ia3 : ir a3) {post : Int32 → mI → Prop} {post' : Int → mJ → Prop} (hp : ∀ (x : Int32) (r : Int) (J1 : mJ), x = zi r → ir r → irm J1 → post' r J1 → post x (zz J1)) {J : mJ} (hJ : irm J) (hv : v_X0_best_42 o a1 a1h a2 a3 post' J) : w_X0_best_42 o a1 a1h a2 (zi a3) post (zz J) := by
  unfold v_X0_best_42 at hv
  unfold w_X0_best_42
  refine vw_X0_notesFrom hJ (rfl : zi a3 = zi a3) ia3 (by decide : (0 : Int32) = zi 0) (by decide : ir 0) (fun xr7 r7 Er7 Ir7 hv => ?_) hv
  exact vw_X0_best_58 ia3 hp hJ (by decide : (0 : Int32) = zi 0) (by decide : ir 0) Er7 Ir7 (by decide : (1 : Int32) = zi 1) (by decide : ir 1) hv
def v_X0_best (J : mJ) (o : Nat) (a1 : Nat) (a1h : Nat) (a2 : Nat) (a3 : Int) (post' : Int → mJ → Prop) : Prop := v_X0_layPath J o a1h a3 (fun J1 => (v_X0_best_12 o a1 a1h a2 a3 post' (v_X0_best_42 o a1 a1h a2 a3 post')) J1 0)
theorem vw_X0_best {J : mJ} {o : Nat} {a1 : Nat} {a1h : Nat} {a2 : Nat} {xa3 : Int32} {a3 : Int} (hJ : irm J)      (ea3 : xa3 = zi a3) (ia3 : ir a3) {post : Int32 → mI → Prop} {post' : Int → mJ → Prop} (hp : ∀ (x : Int32) (r : Int) (J1 : mJ), x = zi r → ir r → irm J1 → post' r J1 → post x (zz J1)) (hv : v_X0_best J o a1 a1h a2 a3 post') : w_X0_best (zz J) o a1 a1h a2 xa3 post := by
  subst ea3
  unfold v_X0_best at hv
  unfold w_X0_best
  refine vw_X0_layPath hJ (rfl : zi a3 = zi a3) ia3 (fun J1 hJ hv => ?_) hv
  refine vw_X0_best_12 ia3 hp ?_ hJ (by decide : (0 : Int32) = zi 0) (by decide : ir 0) hv
  · intro qq hJ hv
    exact vw_X0_best_42 ia3 hp hJ hv
def v_X1_below (J : mJ) (o : Nat) (a1 : Int) (post' : Int → mJ → Prop) : Prop := ∀ J1, J1 = up2 J o 3 (addW (mulW (J o 3) 1103515245) 12345) → (a1 ≤ 0 → post' 0 J1) ∧ (¬ a1 ≤ 0 → ¬ a1 = 0 ∧ post' (remZ (ushrZ (J1 o 3) 16) a1) J1)
theorem vw_X1_below {J : mJ} {o : Nat} {xa1 : Int32} {a1 : Int} (hJ : irm J)   (ea1 : xa1 = zi a1) (ia1 : ir a1) {post : Int32 → mI → Prop} {post' : Int → mJ → Prop} (hp : ∀ (x : Int32) (r : Int) (J1 : mJ), x = zi r → ir r → irm J1 → post' r J1 → post x (zz J1)) (hv : v_X1_below J o a1 post') : w_X1_below (zz J) o xa1 post := by
  subst ea1
  unfold v_X1_below at hv
  unfold w_X1_below
  intro I1 eI1
  obtain ⟨J1, eJ1⟩ : ∃ q9 : mJ, q9 = up2 J o 3 (addW (mulW (J o 3) 1103515245) 12345) := ⟨_, rfl⟩
  have eI1 : I1 = zz J1 := by rw [eI1, eJ1]; exact zup (z_addW (z_mulW zrf (by decide : (1103515245 : Int32) = zi 1103515245)) (by decide : (12345 : Int32) = zi 12345))
  subst eI1
  have hv := hv J1 eJ1
  have hJ : irm J1 := by rw [eJ1]; exact irm_up hJ (ir_toInt _)
  refine ⟨fun cq => ?_, fun cq => ?_⟩
  · have hv := hv.1 ((zle (rfl : zi a1 = zi a1) (by decide : (0 : Int32) = zi 0) ia1 (by decide : ir 0)).mp cq)
    exact hp _ _ _ (by decide : (0 : Int32) = zi 0) (by decide : ir 0) hJ hv
  · have hv := hv.2 (fun q => cq ((zle (rfl : zi a1 = zi a1) (by decide : (0 : Int32) = zi 0) ia1 (by decide : ir 0)).mpr q))
    refine ⟨fun q => hv.1 ((zeq (rfl : zi a1 = zi a1) (rfl : (0 : Int32) = zi 0) ia1 (by decide)).mp q), ?_⟩
    have hv := hv.2
    exact hp _ _ _ (z_rem (z_ushr zrf (by decide : (16 : Int32) = zi 16)) (rfl : zi a1 = zi a1)) (ir_toInt _) hJ hv
def v_X1_goes_52 (o : Nat) (a1 : Nat) (a2 : Int) (post' : Bool → mJ → Prop) (J : mJ) (v3 : Int) (s1 : Int) (s2 : Int) : Prop := (0 ≤ s1 ∧ s1 < 6) ∧ ∀ J11, J11 = up2 J (o + 1) s1.toNat s2 → (0 ≤ a2 ∧ a2 < 6) ∧ ((J11 (o + 1) a2.toNat) = v3 → post' false J11) ∧ (¬ (J11 (o + 1) a2.toNat) = v3 → post' true J11)
theorem vw_X1_goes_52 {o : Nat} {a1 : Nat} {a2 : Int}  (ia2 : ir a2) {post : Bool → mI → Prop} {post' : Bool → mJ → Prop} (hp : ∀ (r : Bool) (J1 : mJ), irm J1 → post' r J1 → post r (zz J1)) {J : mJ} {xv3 : Int32} {v3 : Int} {xs1 : Int32} {s1 : Int} {xs2 : Int32} {s2 : Int} (hJ : irm J) (ev3 : xv3 = zi v3) (iv3 : ir v3) (es1 : xs1 = zi s1) (is1 : ir s1) (es2 : xs2 = zi s2) (is2 : ir s2) (hv : v_X1_goes_52 o a1 a2 post' J v3 s1 s2) : w_X1_goes_52 o a1 (zi a2) post (zz J) xv3 xs1 xs2 := by
  subst ev3
  subst es1
  subst es2
  unfold v_X1_goes_52 at hv
  unfold w_X1_goes_52
  obtain ⟨g10, hv⟩ := hv
  refine ⟨zvp (rfl : zi s1 = zi s1) is1 g10.1 g10.2, ?_⟩
  intro I1 eI1
  obtain ⟨J11, eJ11⟩ : ∃ q9 : mJ, q9 = up2 J (o + 1) s1.toNat s2 := ⟨_, rfl⟩
  have eI1 : I1 = zz J11 := by rw [eI1, eJ11]; exact zupa (rfl : zi s1 = zi s1) is1 g10.1 (rfl : zi s2 = zi s2)
  subst eI1
  have hv := hv J11 eJ11
  have hJ : irm J11 := by rw [eJ11]; exact irm_up hJ is2
  obtain ⟨g12, hv⟩ := hv
  refine ⟨zvp (rfl : zi a2 = zi a2) ia2 g12.1 g12.2, ?_⟩
  refine ⟨fun cq => ?_, fun cq => ?_⟩
  · have hv := hv.1 ((zeq (zrd (rfl : zi a2 = zi a2) ia2 g12.1) (rfl : zi v3 = zi v3) (hJ _ _) iv3).mp cq)
    exact hp _ _ hJ hv
  · have hv := hv.2 (fun q => cq ((zeq (zrd (rfl : zi a2 = zi a2) ia2 g12.1) (rfl : zi v3 = zi v3) (hJ _ _) iv3).mpr q))
    exact hp _ _ hJ hv
def v_X1_goes (J : mJ) (o : Nat) (a1 : Nat) (a2 : Int) (post' : Bool → mJ → Prop) : Prop := (0 ≤ a2 ∧ a2 < 6) ∧ ∀ y2, y2 = (J (o + 1) a2.toNat) → v_X1_below J o 2 (fun r3 J4 => (¬ r3 = 0 → (0 ≤ a2 ∧ a2 < 6) ∧ ir (y2 - (J4 (a1 + 6) a2.toNat)) ∧ (v_X1_goes_52 o a1 a2 post') J4 y2 a2 (maxZ 0 (y2 - (J4 (a1 + 6) a2.toNat)))) ∧ (r3 = 0 → ir ((J4 a1 0) - 1) ∧ (0 ≤ a2 ∧ a2 < 6) ∧ ir (y2 + (J4 (a1 + 6) a2.toNat)) ∧ (v_X1_goes_52 o a1 a2 post') J4 y2 a2 (minZ ((J4 a1 0) - 1) (y2 + (J4 (a1 + 6) a2.toNat)))))
theorem vw_X1_goes {J : mJ} {o : Nat} {a1 : Nat} {xa2 : Int32} {a2 : Int} (hJ : irm J)    (ea2 : xa2 = zi a2) (ia2 : ir a2) {post : Bool → mI → Prop} {post' : Bool → mJ → Prop} (hp : ∀ (r : Bool) (J1 : mJ), irm J1 → post' r J1 → post r (zz J1)) (hv : v_X1_goes J o a1 a2 post') : w_X1_goes (zz J) o a1 xa2 post := by
  subst ea2
  unfold v_X1_goes at hv
  unfold w_X1_goes
  obtain ⟨g1, hv⟩ := hv
  refine ⟨zvp (rfl : zi a2 = zi a2) ia2 g1.1 g1.2, ?_⟩
  intro xy2 exy2
  obtain ⟨y2, eyy2⟩ : ∃ q9 : Int, q9 = (J (o + 1) a2.toNat) := ⟨_, rfl⟩
  have hv := hv y2 eyy2
  have Ey2 : xy2 = zi y2 := exy2.trans (((zrd (rfl : zi a2 = zi a2) ia2 g1.1)).trans (congrArg zi eyy2.symm))
  have Iy2 : ir y2 := by rw [eyy2]; exact (hJ _ _)
  clear exy2
  refine vw_X1_below hJ (by decide : (2 : Int32) = zi 2) (by decide : ir 2) (fun xr3 r3 J4 Er3 Ir3 hJ hv => ?_) hv
  refine ⟨fun cq => ?_, fun cq => ?_⟩
  · have hv := hv.1 (fun q => cq ((zeq Er3 (by decide : (0 : Int32) = zi 0) Ir3 (by decide : ir 0)).mpr q))
    obtain ⟨g5, hv⟩ := hv
    refine ⟨zvp (rfl : zi a2 = zi a2) ia2 g5.1 g5.2, ?_⟩
    obtain ⟨g6, hv⟩ := hv
    exact vw_X1_goes_52 ia2 hp hJ Ey2 Iy2 (rfl : zi a2 = zi a2) ia2 (z_max (by decide : (0 : Int32) = zi 0) (zs Ey2 (zrd (rfl : zi a2 = zi a2) ia2 g5.1)) (by decide : ir 0) g6) (ir_max (by decide : ir 0) g6) hv
  · have hv := hv.2 ((zeq Er3 (by decide : (0 : Int32) = zi 0) Ir3 (by decide : ir 0)).mp cq)
    obtain ⟨g7, hv⟩ := hv
    obtain ⟨g8, hv⟩ := hv
    refine ⟨zvp (rfl : zi a2 = zi a2) ia2 g8.1 g8.2, ?_⟩
    obtain ⟨g9, hv⟩ := hv
    exact vw_X1_goes_52 ia2 hp hJ Ey2 Iy2 (rfl : zi a2 = zi a2) ia2 (z_min (zs zrf (by decide : (1 : Int32) = zi 1)) (za Ey2 (zrd (rfl : zi a2 = zi a2) ia2 g8.1)) g7 g9) (ir_min g7 g9) hv
def v_X11_has (a1 : Int) (a2 : Int) (post' : Bool → Prop) : Prop := ((andZ (shrZ a1 a2) 1) = 0 → post' false) ∧ (¬ (andZ (shrZ a1 a2) 1) = 0 → post' true)
theorem vw_X11_has {xa1 : Int32} {a1 : Int} {xa2 : Int32} {a2 : Int}  (ea1 : xa1 = zi a1) (ia1 : ir a1) (ea2 : xa2 = zi a2) (ia2 : ir a2) {post : Bool → Prop} {post' : Bool → Prop} (hp : ∀ (r : Bool), post' r → post r) (hv : v_X11_has a1 a2 post') : w_X11_has xa1 xa2 post := by
  subst ea1
  subst ea2
  unfold v_X11_has at hv
  unfold w_X11_has
  refine ⟨fun cq => ?_, fun cq => ?_⟩
  · have hv := hv.1 ((zeq (z_and (z_shr (rfl : zi a1 = zi a1) (rfl : zi a2 = zi a2)) (by decide : (1 : Int32) = zi 1)) (by decide : (0 : Int32) = zi 0) (ir_toInt _) (by decide : ir 0)).mp cq)
    exact hp _ hv
  · have hv := hv.2 (fun q => cq ((zeq (z_and (z_shr (rfl : zi a1 = zi a1) (rfl : zi a2 = zi a2)) (by decide : (1 : Int32) = zi 1)) (by decide : (0 : Int32) = zi 0) (ir_toInt _) (by decide : ir 0)).mpr q))
    exact hp _ hv
def v_X1_addTread_92 (o : Nat) (a1 : Nat) (a1h : Nat) (a2 : Int) (a3 : Int) (post' : mJ → Prop) (k131' : mJ → Int → Int → Prop) (J : mJ) (v4 : Int) (v5 : Int) (v6 : Int) (v7 : Int) : Prop := ∀ ZZ : (mJ → Int → Int → Int → Int → Prop), (∀ (J : mJ) (v4 : Int) (v5 : Int) (v6 : Int) (v7 : Int), (((J a1h 2) ≤ v7 → k131' J v4 v5) ∧ (¬ (J a1h 2) ≤ v7 → v_X11_has v6 v7 (fun b12 => (b12 = false → ir (v7 + 1) ∧ ∀ y14, y14 = v7 + 1 → ZZ J v4 v5 v6 y14) ∧ (b12 = true → (0 ≤ v7 ∧ v7 < 6) ∧ ir ((J (o + 2) v7.toNat) + 1) ∧ (0 ≤ v7 ∧ v7 < 6) ∧ ∀ J18, J18 = up2 J (o + 2) v7.toNat ((J (o + 2) v7.toNat) + 1) → ir (v7 + 1) ∧ ∀ y20, y20 = v7 + 1 → ZZ J18 v4 v5 v6 y20)))) → ZZ J v4 v5 v6 v7) → ZZ J v4 v5 v6 v7
theorem vw_X1_addTread_92 {o : Nat} {a1 : Nat} {a1h : Nat} {a2 : Int} {a3 : Int}  (ia2 : ir a2) (ia3 : ir a3) {post : mI → Prop} {post' : mJ → Prop} {k131' : mJ → Int → Int → Prop} {k131 : mI → Int32 → Int32 → Prop} (hp : ∀ (J1 : mJ), irm J1 → post' J1 → post (zz J1)) (hk131 : ∀ (J : mJ) (xv4 : Int32) (v4 : Int) (xv5 : Int32) (v5 : Int), irm J → xv4 = zi v4 → ir v4 → xv5 = zi v5 → ir v5 → k131' J v4 v5 → k131 (zz J) xv4 xv5) {J : mJ} {xv4 : Int32} {v4 : Int} {xv5 : Int32} {v5 : Int} {xv6 : Int32} {v6 : Int} {xv7 : Int32} {v7 : Int} (hJ : irm J) (ev4 : xv4 = zi v4) (iv4 : ir v4) (ev5 : xv5 = zi v5) (iv5 : ir v5) (ev6 : xv6 = zi v6) (iv6 : ir v6) (ev7 : xv7 = zi v7) (iv7 : ir v7) (hv : v_X1_addTread_92 o a1 a1h a2 a3 post' k131' J v4 v5 v6 v7) : w_X1_addTread_92 o a1 a1h (zi a2) (zi a3) post k131 (zz J) xv4 xv5 xv6 xv7 := by
  subst ev4
  subst ev5
  subst ev6
  subst ev7
  unfold v_X1_addTread_92 at hv
  unfold w_X1_addTread_92
  intro ZZ hZ
  refine hv (fun J v4 v5 v6 v7 => ∀ (xv4 : Int32) (xv5 : Int32) (xv6 : Int32) (xv7 : Int32), irm J → xv4 = zi v4 → ir v4 → xv5 = zi v5 → ir v5 → xv6 = zi v6 → ir v6 → xv7 = zi v7 → ir v7 → ZZ (zz J) xv4 xv5 xv6 xv7) ?_ _ _ _ _ hJ rfl iv4 rfl iv5 rfl iv6 rfl iv7
  clear hv hJ iv4 iv5 iv6 iv7
  intro J v4 v5 v6 v7 hv xv4 xv5 xv6 xv7 hJ ev4 iv4 ev5 iv5 ev6 iv6 ev7 iv7
  subst ev4
  subst ev5
  subst ev6
  subst ev7
  refine hZ _ _ _ _ _ ?_
  refine ⟨fun cq => ?_, fun cq => ?_⟩
  · have hv := hv.1 ((zle zrf (rfl : zi v7 = zi v7) (hJ _ _) iv7).mp cq)
    exact hk131 _ _ _ _ _ hJ (rfl : zi v4 = zi v4) iv4 (rfl : zi v5 = zi v5) iv5 hv
  · have hv := hv.2 (fun q => cq ((zle zrf (rfl : zi v7 = zi v7) (hJ _ _) iv7).mpr q))
    refine vw_X11_has (rfl : zi v6 = zi v6) iv6 (rfl : zi v7 = zi v7) iv7 (fun b12  hv => ?_) hv
    refine ⟨fun cq => ?_, fun cq => ?_⟩
    · have hv := hv.1 cq
      obtain ⟨g13, hv⟩ := hv
      intro xy14 exy14
      obtain ⟨y14, eyy14⟩ : ∃ q9 : Int, q9 = v7 + 1 := ⟨_, rfl⟩
      have hv := hv y14 eyy14
      have Ey14 : xy14 = zi y14 := exy14.trans (((za (rfl : zi v7 = zi v7) (by decide : (1 : Int32) = zi 1))).trans (congrArg zi eyy14.symm))
      have Iy14 : ir y14 := by rw [eyy14]; exact g13
      clear exy14
      exact hv _ _ _ _ hJ (rfl : zi v4 = zi v4) iv4 (rfl : zi v5 = zi v5) iv5 (rfl : zi v6 = zi v6) iv6 Ey14 Iy14
    · have hv := hv.2 cq
      obtain ⟨g15, hv⟩ := hv
      refine ⟨zvp (rfl : zi v7 = zi v7) iv7 g15.1 g15.2, ?_⟩
      obtain ⟨g16, hv⟩ := hv
      obtain ⟨g17, hv⟩ := hv
      refine ⟨zvp (rfl : zi v7 = zi v7) iv7 g17.1 g17.2, ?_⟩
      intro I1 eI1
      obtain ⟨J18, eJ18⟩ : ∃ q9 : mJ, q9 = up2 J (o + 2) v7.toNat ((J (o + 2) v7.toNat) + 1) := ⟨_, rfl⟩
      have eI1 : I1 = zz J18 := by rw [eI1, eJ18]; exact zupa (rfl : zi v7 = zi v7) iv7 g17.1 (za (zrd (rfl : zi v7 = zi v7) iv7 g15.1) (by decide : (1 : Int32) = zi 1))
      subst eI1
      have hv := hv J18 eJ18
      have hJ : irm J18 := by rw [eJ18]; exact irm_up hJ g16
      obtain ⟨g19, hv⟩ := hv
      intro xy20 exy20
      obtain ⟨y20, eyy20⟩ : ∃ q9 : Int, q9 = v7 + 1 := ⟨_, rfl⟩
      have hv := hv y20 eyy20
      have Ey20 : xy20 = zi y20 := exy20.trans (((za (rfl : zi v7 = zi v7) (by decide : (1 : Int32) = zi 1))).trans (congrArg zi eyy20.symm))
      have Iy20 : ir y20 := by rw [eyy20]; exact g19
      clear exy20
      exact hv _ _ _ _ hJ (rfl : zi v4 = zi v4) iv4 (rfl : zi v5 = zi v5) iv5 (rfl : zi v6 = zi v6) iv6 Ey20 Iy20
def v_X1_addTread_131 (o : Nat) (a1 : Nat) (a1h : Nat) (a2 : Int) (a3 : Int) (post' : mJ → Prop) (J : mJ) (v4 : Int) (v5 : Int) : Prop := (0 ≤ v4 ∧ v4 < 24) ∧ ∀ J22, J22 = up2 J (o + 3) v4.toNat a3 → (0 ≤ v4 ∧ v4 < 24) ∧ ∀ J24, J24 = up2 J22 (o + 4) v4.toNat v5 → ir ((J24 o 0) + 1) ∧ ∀ J26, J26 = up2 J24 o 0 ((J24 o 0) + 1) → post' J26
theorem vw_X1_addTread_131 {o : Nat} {a1 : Nat} {a1h : Nat} {a2 : Int} {a3 : Int}  (ia2 : ir a2) (ia3 : ir a3) {post : mI → Prop} {post' : mJ → Prop} (hp : ∀ (J1 : mJ), irm J1 → post' J1 → post (zz J1)) {J : mJ} {xv4 : Int32} {v4 : Int} {xv5 : Int32} {v5 : Int} (hJ : irm J) (ev4 : xv4 = zi v4) (iv4 : ir v4) (ev5 : xv5 = zi v5) (iv5 : ir v5) (hv : v_X1_addTread_131 o a1 a1h a2 a3 post' J v4 v5) : w_X1_addTread_131 o a1 a1h (zi a2) (zi a3) post (zz J) xv4 xv5 := by
  subst ev4
  subst ev5
  unfold v_X1_addTread_131 at hv
  unfold w_X1_addTread_131
  obtain ⟨g21, hv⟩ := hv
  refine ⟨zvp (rfl : zi v4 = zi v4) iv4 g21.1 g21.2, ?_⟩
  intro I1 eI1
  obtain ⟨J22, eJ22⟩ : ∃ q9 : mJ, q9 = up2 J (o + 3) v4.toNat a3 := ⟨_, rfl⟩
  have eI1 : I1 = zz J22 := by rw [eI1, eJ22]; exact zupa (rfl : zi v4 = zi v4) iv4 g21.1 (rfl : zi a3 = zi a3)
  subst eI1
  have hv := hv J22 eJ22
  have hJ : irm J22 := by rw [eJ22]; exact irm_up hJ ia3
  obtain ⟨g23, hv⟩ := hv
  refine ⟨zvp (rfl : zi v4 = zi v4) iv4 g23.1 g23.2, ?_⟩
  intro I1 eI1
  obtain ⟨J24, eJ24⟩ : ∃ q9 : mJ, q9 = up2 J22 (o + 4) v4.toNat v5 := ⟨_, rfl⟩
  have eI1 : I1 = zz J24 := by rw [eI1, eJ24]; exact zupa (rfl : zi v4 = zi v4) iv4 g23.1 (rfl : zi v5 = zi v5)
  subst eI1
  have hv := hv J24 eJ24
  have hJ : irm J24 := by rw [eJ24]; exact irm_up hJ iv5
  obtain ⟨g25, hv⟩ := hv
  intro I1 eI1
  obtain ⟨J26, eJ26⟩ : ∃ q9 : mJ, q9 = up2 J24 o 0 ((J24 o 0) + 1) := ⟨_, rfl⟩
  have eI1 : I1 = zz J26 := by rw [eI1, eJ26]; exact zup (za zrf (by decide : (1 : Int32) = zi 1))
  subst eI1
  have hv := hv J26 eJ26
  have hJ : irm J26 := by rw [eJ26]; exact irm_up hJ g25
  exact hp _ hJ hv
def v_X1_addTread (J : mJ) (o : Nat) (a1 : Nat) (a1h : Nat) (a2 : Int) (a3 : Int) (post' : mJ → Prop) : Prop := (0 ≤ a2 ∧ a2 < 6) ∧ ∀ y2, y2 = (J (o + 1) a2.toNat) → v_X3_shoeAt J a1h a2 a3 (fun r3 => v_X3_loudOf J a1h a2 y2 r3 (fun r4 => v_X2_hearers J a1 a1h y2 r4 (fun r5 => (0 ≤ y2 ∧ y2 < 24) ∧ ((J (o + 3) y2.toNat) = (-1) → (v_X1_addTread_92 o a1 a1h a2 a3 post' (v_X1_addTread_131 o a1 a1h a2 a3 post')) J y2 r4 r5 0) ∧ (¬ (J (o + 3) y2.toNat) = (-1) → (0 ≤ y2 ∧ y2 < 24) ∧ ir (a3 - (J (o + 3) y2.toNat)) ∧ ((J a1h 1) < (a3 - (J (o + 3) y2.toNat)) → (v_X1_addTread_92 o a1 a1h a2 a3 post' (v_X1_addTread_131 o a1 a1h a2 a3 post')) J y2 r4 r5 0) ∧ (¬ (J a1h 1) < (a3 - (J (o + 3) y2.toNat)) → (0 ≤ y2 ∧ y2 < 24) ∧ v_X2_hearers J a1 a1h y2 (divZ (J (o + 4) y2.toNat) 2) (fun r10 => ∀ y11, y11 = (orZ r5 r10) → (v_X1_addTread_92 o a1 a1h a2 a3 post' (v_X1_addTread_131 o a1 a1h a2 a3 post')) J y2 r4 y11 0))))))
theorem vw_X1_addTread {J : mJ} {o : Nat} {a1 : Nat} {a1h : Nat} {xa2 : Int32} {a2 : Int} {xa3 : Int32} {a3 : Int} (hJ : irm J)     (ea2 : xa2 = zi a2) (ia2 : ir a2) (ea3 : xa3 = zi a3) (ia3 : ir a3) {post : mI → Prop} {post' : mJ → Prop} (hp : ∀ (J1 : mJ), irm J1 → post' J1 → post (zz J1)) (hv : v_X1_addTread J o a1 a1h a2 a3 post') : w_X1_addTread (zz J) o a1 a1h xa2 xa3 post := by
  subst ea2
  subst ea3
  unfold v_X1_addTread at hv
  unfold w_X1_addTread
  obtain ⟨g1, hv⟩ := hv
  refine ⟨zvp (rfl : zi a2 = zi a2) ia2 g1.1 g1.2, ?_⟩
  intro xy2 exy2
  obtain ⟨y2, eyy2⟩ : ∃ q9 : Int, q9 = (J (o + 1) a2.toNat) := ⟨_, rfl⟩
  have hv := hv y2 eyy2
  have Ey2 : xy2 = zi y2 := exy2.trans (((zrd (rfl : zi a2 = zi a2) ia2 g1.1)).trans (congrArg zi eyy2.symm))
  have Iy2 : ir y2 := by rw [eyy2]; exact (hJ _ _)
  clear exy2
  refine vw_X3_shoeAt hJ (rfl : zi a2 = zi a2) ia2 (rfl : zi a3 = zi a3) ia3 (fun xr3 r3 Er3 Ir3 hv => ?_) hv
  refine vw_X3_loudOf hJ (rfl : zi a2 = zi a2) ia2 Ey2 Iy2 Er3 Ir3 (fun xr4 r4 Er4 Ir4 hv => ?_) hv
  refine vw_X2_hearers hJ Ey2 Iy2 Er4 Ir4 (fun xr5 r5 Er5 Ir5 hv => ?_) hv
  obtain ⟨g6, hv⟩ := hv
  refine ⟨zvp Ey2 Iy2 g6.1 g6.2, ?_⟩
  refine ⟨fun cq => ?_, fun cq => ?_⟩
  · have hv := hv.1 ((zeq (zrd Ey2 Iy2 g6.1) (by decide : ((-1) : Int32) = zi (-1)) (hJ _ _) (by decide : ir (-1))).mp cq)
    refine vw_X1_addTread_92 ia2 ia3 hp ?_ hJ Ey2 Iy2 Er4 Ir4 Er5 Ir5 (by decide : (0 : Int32) = zi 0) (by decide : ir 0) hv
    · intro qq xx vv xx vv hJ ev4 iv4 ev5 iv5 hv
      exact vw_X1_addTread_131 ia2 ia3 hp hJ ev4 iv4 ev5 iv5 hv
  · have hv := hv.2 (fun q => cq ((zeq (zrd Ey2 Iy2 g6.1) (by decide : ((-1) : Int32) = zi (-1)) (hJ _ _) (by decide : ir (-1))).mpr q))
    obtain ⟨g7, hv⟩ := hv
    refine ⟨zvp Ey2 Iy2 g7.1 g7.2, ?_⟩
    obtain ⟨g8, hv⟩ := hv
    refine ⟨fun cq => ?_, fun cq => ?_⟩
    · have hv := hv.1 ((zlt zrf (zs (rfl : zi a3 = zi a3) (zrd Ey2 Iy2 g7.1)) (hJ _ _) g8).mp cq)
      refine vw_X1_addTread_92 ia2 ia3 hp ?_ hJ Ey2 Iy2 Er4 Ir4 Er5 Ir5 (by decide : (0 : Int32) = zi 0) (by decide : ir 0) hv
      · intro qq xx vv xx vv hJ ev4 iv4 ev5 iv5 hv
        exact vw_X1_addTread_131 ia2 ia3 hp hJ ev4 iv4 ev5 iv5 hv
    · have hv := hv.2 (fun q => cq ((zlt zrf (zs (rfl : zi a3 = zi a3) (zrd Ey2 Iy2 g7.1)) (hJ _ _) g8).mpr q))
      obtain ⟨g9, hv⟩ := hv
      refine ⟨zvp Ey2 Iy2 g9.1 g9.2, ?_⟩
      refine vw_X2_hearers hJ Ey2 Iy2 (z_div (zrd Ey2 Iy2 g9.1) (by decide : (2 : Int32) = zi 2)) (ir_toInt _) (fun xr10 r10 Er10 Ir10 hv => ?_) hv
      intro xy11 exy11
      obtain ⟨y11, eyy11⟩ : ∃ q9 : Int, q9 = (orZ r5 r10) := ⟨_, rfl⟩
      have hv := hv y11 eyy11
      have Ey11 : xy11 = zi y11 := exy11.trans (((z_or Er5 Er10)).trans (congrArg zi eyy11.symm))
      have Iy11 : ir y11 := by rw [eyy11]; exact (ir_toInt _)
      clear exy11
      refine vw_X1_addTread_92 ia2 ia3 hp ?_ hJ Ey2 Iy2 Er4 Ir4 Ey11 Iy11 (by decide : (0 : Int32) = zi 0) (by decide : ir 0) hv
      · intro qq xx vv xx vv hJ ev4 iv4 ev5 iv5 hv
        exact vw_X1_addTread_131 ia2 ia3 hp hJ ev4 iv4 ev5 iv5 hv
def v_X1_play_47 (o : Nat) (a1 : Nat) (a1h : Nat) (a2 : Int) (a3 : Int) (post' : mJ → Prop) (k37' : mJ → Int → Prop) (J : mJ) (v4 : Int) (v5 : Int) : Prop := ∀ ZZ : (mJ → Int → Int → Prop), (∀ (J : mJ) (v4 : Int) (v5 : Int), (((J a1h 3) ≤ v5 → ir (v4 + 1) ∧ ∀ y7, y7 = v4 + 1 → k37' J y7) ∧ (¬ (J a1h 3) ≤ v5 → v_X1_below J o 100 (fun r8 J9 => (a3 ≤ r8 → ir (v5 + 1) ∧ ∀ y11, y11 = v5 + 1 → ZZ J9 v4 y11) ∧ (¬ a3 ≤ r8 → v_X1_goes J9 o a1h v5 (fun b12 J13 => (b12 = false → ir (v5 + 1) ∧ ∀ y15, y15 = v5 + 1 → ZZ J13 v4 y15) ∧ (b12 = true → v_X1_addTread J13 o a1 a1h v5 v4 (fun J16 => ir (v5 + 1) ∧ ∀ y18, y18 = v5 + 1 → ZZ J16 v4 y18))))))) → ZZ J v4 v5) → ZZ J v4 v5
theorem vw_X1_play_47 {o : Nat} {a1 : Nat} {a1h : Nat} {a2 : Int} {a3 : Int}  (ia2 : ir a2) (ia3 : ir a3) {post : mI → Prop} {post' : mJ → Prop} {k37' : mJ → Int → Prop} {k37 : mI → Int32 → Prop} (hp : ∀ (J1 : mJ), irm J1 → post' J1 → post (zz J1)) (hk37 : ∀ (J : mJ) (xv4 : Int32) (v4 : Int), irm J → xv4 = zi v4 → ir v4 → k37' J v4 → k37 (zz J) xv4) {J : mJ} {xv4 : Int32} {v4 : Int} {xv5 : Int32} {v5 : Int} (hJ : irm J) (ev4 : xv4 = zi v4) (iv4 : ir v4) (ev5 : xv5 = zi v5) (iv5 : ir v5) (hv : v_X1_play_47 o a1 a1h a2 a3 post' k37' J v4 v5) : w_X1_play_47 o a1 a1h (zi a2) (zi a3) post k37 (zz J) xv4 xv5 := by
  subst ev4
  subst ev5
  unfold v_X1_play_47 at hv
  unfold w_X1_play_47
  intro ZZ hZ
  refine hv (fun J v4 v5 => ∀ (xv4 : Int32) (xv5 : Int32), irm J → xv4 = zi v4 → ir v4 → xv5 = zi v5 → ir v5 → ZZ (zz J) xv4 xv5) ?_ _ _ hJ rfl iv4 rfl iv5
  clear hv hJ iv4 iv5
  intro J v4 v5 hv xv4 xv5 hJ ev4 iv4 ev5 iv5
  subst ev4
  subst ev5
  refine hZ _ _ _ ?_
  refine ⟨fun cq => ?_, fun cq => ?_⟩
  · have hv := hv.1 ((zle zrf (rfl : zi v5 = zi v5) (hJ _ _) iv5).mp cq)
    obtain ⟨g6, hv⟩ := hv
    intro xy7 exy7
    obtain ⟨y7, eyy7⟩ : ∃ q9 : Int, q9 = v4 + 1 := ⟨_, rfl⟩
    have hv := hv y7 eyy7
    have Ey7 : xy7 = zi y7 := exy7.trans (((za (rfl : zi v4 = zi v4) (by decide : (1 : Int32) = zi 1))).trans (congrArg zi eyy7.symm))
    have Iy7 : ir y7 := by rw [eyy7]; exact g6
    clear exy7
    exact hk37 _ _ _ hJ Ey7 Iy7 hv
  · have hv := hv.2 (fun q => cq ((zle zrf (rfl : zi v5 = zi v5) (hJ _ _) iv5).mpr q))
    refine vw_X1_below hJ (by decide : (100 : Int32) = zi 100) (by decide : ir 100) (fun xr8 r8 J9 Er8 Ir8 hJ hv => ?_) hv
    refine ⟨fun cq => ?_, fun cq => ?_⟩
    · have hv := hv.1 ((zle (rfl : zi a3 = zi a3) Er8 ia3 Ir8).mp cq)
      obtain ⟨g10, hv⟩ := hv
      intro xy11 exy11
      obtain ⟨y11, eyy11⟩ : ∃ q9 : Int, q9 = v5 + 1 := ⟨_, rfl⟩
      have hv := hv y11 eyy11
      have Ey11 : xy11 = zi y11 := exy11.trans (((za (rfl : zi v5 = zi v5) (by decide : (1 : Int32) = zi 1))).trans (congrArg zi eyy11.symm))
      have Iy11 : ir y11 := by rw [eyy11]; exact g10
      clear exy11
      exact hv _ _ hJ (rfl : zi v4 = zi v4) iv4 Ey11 Iy11
    · have hv := hv.2 (fun q => cq ((zle (rfl : zi a3 = zi a3) Er8 ia3 Ir8).mpr q))
      refine vw_X1_goes hJ (rfl : zi v5 = zi v5) iv5 (fun b12 J13 hJ hv => ?_) hv
      refine ⟨fun cq => ?_, fun cq => ?_⟩
      · have hv := hv.1 cq
        obtain ⟨g14, hv⟩ := hv
        intro xy15 exy15
        obtain ⟨y15, eyy15⟩ : ∃ q9 : Int, q9 = v5 + 1 := ⟨_, rfl⟩
        have hv := hv y15 eyy15
        have Ey15 : xy15 = zi y15 := exy15.trans (((za (rfl : zi v5 = zi v5) (by decide : (1 : Int32) = zi 1))).trans (congrArg zi eyy15.symm))
        have Iy15 : ir y15 := by rw [eyy15]; exact g14
        clear exy15
        exact hv _ _ hJ (rfl : zi v4 = zi v4) iv4 Ey15 Iy15
      · have hv := hv.2 cq
        refine vw_X1_addTread hJ (rfl : zi v5 = zi v5) iv5 (rfl : zi v4 = zi v4) iv4 (fun J16 hJ hv => ?_) hv
        obtain ⟨g17, hv⟩ := hv
        intro xy18 exy18
        obtain ⟨y18, eyy18⟩ : ∃ q9 : Int, q9 = v5 + 1 := ⟨_, rfl⟩
        have hv := hv y18 eyy18
        have Ey18 : xy18 = zi y18 := exy18.trans (((za (rfl : zi v5 = zi v5) (by decide : (1 : Int32) = zi 1))).trans (congrArg zi eyy18.symm))
        have Iy18 : ir y18 := by rw [eyy18]; exact g17
        clear exy18
        exact hv _ _ hJ (rfl : zi v4 = zi v4) iv4 Ey18 Iy18
def v_X1_play_37 (o : Nat) (a1 : Nat) (a1h : Nat) (a2 : Int) (a3 : Int) (post' : mJ → Prop) (J : mJ) (v4 : Int) : Prop := ∀ ZZ : (mJ → Int → Prop), (∀ (J : mJ) (v4 : Int), ((60 ≤ v4 → post' J) ∧ (¬ 60 ≤ v4 → (v_X1_play_47 o a1 a1h a2 a3 post' ZZ) J v4 0)) → ZZ J v4) → ZZ J v4
theorem vw_X1_play_37 {o : Nat} {a1 : Nat} {a1h : Nat} {a2 : Int} {a3 : Int}  (ia2 : ir a2) (ia3 : ir a3) {post : mI → Prop} {post' : mJ → Prop} (hp : ∀ (J1 : mJ), irm J1 → post' J1 → post (zz J1)) {J : mJ} {xv4 : Int32} {v4 : Int} (hJ : irm J) (ev4 : xv4 = zi v4) (iv4 : ir v4) (hv : v_X1_play_37 o a1 a1h a2 a3 post' J v4) : w_X1_play_37 o a1 a1h (zi a2) (zi a3) post (zz J) xv4 := by
  subst ev4
  unfold v_X1_play_37 at hv
  unfold w_X1_play_37
  intro ZZ hZ
  refine hv (fun J v4 => ∀ (xv4 : Int32), irm J → xv4 = zi v4 → ir v4 → ZZ (zz J) xv4) ?_ _ hJ rfl iv4
  clear hv hJ iv4
  intro J v4 hv xv4 hJ ev4 iv4
  subst ev4
  refine hZ _ _ ?_
  refine ⟨fun cq => ?_, fun cq => ?_⟩
  · have hv := hv.1 ((zle (by decide : (60 : Int32) = zi 60) (rfl : zi v4 = zi v4) (by decide : ir 60) iv4).mp cq)
    exact hp _ hJ hv
  · have hv := hv.2 (fun q => cq ((zle (by decide : (60 : Int32) = zi 60) (rfl : zi v4 = zi v4) (by decide : ir 60) iv4).mpr q))
    refine vw_X1_play_47 ia2 ia3 hp ?_ hJ (rfl : zi v4 = zi v4) iv4 (by decide : (0 : Int32) = zi 0) (by decide : ir 0) hv
    · intro qq xx vv hJ ev4 iv4 hv
      exact hv _ hJ ev4 iv4
def v_X1_play (J : mJ) (o : Nat) (a1 : Nat) (a1h : Nat) (a2 : Int) (a3 : Int) (post' : mJ → Prop) : Prop := ∀ J1, J1 = up2 J o 3 a2 → ∀ J2, J2 = up2 J1 o 0 0 → v_J7_fill_53178 J2 (o + 1) 6 0 (fun J3 => v_J7_fill_53178 J3 (o + 2) 6 0 (fun J4 => v_J7_fill_53178 J4 (o + 3) 24 (-1) (fun J5 => (v_X1_play_37 o a1 a1h a2 a3 post') J5 0)))
theorem vw_X1_play {J : mJ} {o : Nat} {a1 : Nat} {a1h : Nat} {xa2 : Int32} {a2 : Int} {xa3 : Int32} {a3 : Int} (hJ : irm J)     (ea2 : xa2 = zi a2) (ia2 : ir a2) (ea3 : xa3 = zi a3) (ia3 : ir a3) {post : mI → Prop} {post' : mJ → Prop} (hp : ∀ (J1 : mJ), irm J1 → post' J1 → post (zz J1)) (hv : v_X1_play J o a1 a1h a2 a3 post') : w_X1_play (zz J) o a1 a1h xa2 xa3 post := by
  subst ea2
  subst ea3
  unfold v_X1_play at hv
  unfold w_X1_play
  intro I1 eI1
  obtain ⟨J1, eJ1⟩ : ∃ q9 : mJ, q9 = up2 J o 3 a2 := ⟨_, rfl⟩
  have eI1 : I1 = zz J1 := by rw [eI1, eJ1]; exact zup (rfl : zi a2 = zi a2)
  subst eI1
  have hv := hv J1 eJ1
  have hJ : irm J1 := by rw [eJ1]; exact irm_up hJ ia2
  intro I1 eI1
  obtain ⟨J2, eJ2⟩ : ∃ q9 : mJ, q9 = up2 J1 o 0 0 := ⟨_, rfl⟩
  have eI1 : I1 = zz J2 := by rw [eI1, eJ2]; exact zup (by decide : (0 : Int32) = zi 0)
  subst eI1
  have hv := hv J2 eJ2
  have hJ : irm J2 := by rw [eJ2]; exact irm_up hJ (by decide : ir 0)
  refine vw_J7_fill_53178 hJ (by decide : (0 : Int32) = zi 0) (by decide : ir 0) (fun J3 hJ hv => ?_) hv
  refine vw_J7_fill_53178 hJ (by decide : (0 : Int32) = zi 0) (by decide : ir 0) (fun J4 hJ hv => ?_) hv
  refine vw_J7_fill_53178 hJ (by decide : ((-1) : Int32) = zi (-1)) (by decide : ir (-1)) (fun J5 hJ hv => ?_) hv
  exact vw_X1_play_37 ia2 ia3 hp hJ (by decide : (0 : Int32) = zi 0) (by decide : ir 0) hv
def v_X1_allNotes_4 (J : mJ) (o : Nat) (post' : Int → Prop) (v1 : Int) (v2 : Int) : Prop := ∀ ZZ : (Int → Int → Prop), (∀ (v1 : Int) (v2 : Int), ((6 ≤ v2 → post' v1) ∧ (¬ 6 ≤ v2 → (0 ≤ v2 ∧ v2 < 6) ∧ ir (v1 + (J (o + 2) v2.toNat)) ∧ ∀ y3, y3 = (v1 + (J (o + 2) v2.toNat)) → ir (v2 + 1) ∧ ∀ y5, y5 = v2 + 1 → ZZ y3 y5)) → ZZ v1 v2) → ZZ v1 v2
theorem vw_X1_allNotes_4 {J : mJ} {o : Nat} (hJ : irm J)  {post : Int32 → Prop} {post' : Int → Prop} (hp : ∀ (x : Int32) (r : Int), x = zi r → ir r → post' r → post x) {xv1 : Int32} {v1 : Int} {xv2 : Int32} {v2 : Int} (ev1 : xv1 = zi v1) (iv1 : ir v1) (ev2 : xv2 = zi v2) (iv2 : ir v2) (hv : v_X1_allNotes_4 J o post' v1 v2) : w_X1_allNotes_4 (zz J) o post xv1 xv2 := by
  subst ev1
  subst ev2
  unfold v_X1_allNotes_4 at hv
  unfold w_X1_allNotes_4
  intro ZZ hZ
  refine hv (fun v1 v2 => ∀ (xv1 : Int32) (xv2 : Int32), xv1 = zi v1 → ir v1 → xv2 = zi v2 → ir v2 → ZZ xv1 xv2) ?_ _ _ rfl iv1 rfl iv2
  clear hv iv1 iv2
  intro v1 v2 hv xv1 xv2 ev1 iv1 ev2 iv2
  subst ev1
  subst ev2
  refine hZ _ _ ?_
  refine ⟨fun cq => ?_, fun cq => ?_⟩
  · have hv := hv.1 ((zle (by decide : (6 : Int32) = zi 6) (rfl : zi v2 = zi v2) (by decide : ir 6) iv2).mp cq)
    exact hp _ _ (rfl : zi v1 = zi v1) iv1 hv
  · have hv := hv.2 (fun q => cq ((zle (by decide : (6 : Int32) = zi 6) (rfl : zi v2 = zi v2) (by decide : ir 6) iv2).mpr q))
    obtain ⟨g1, hv⟩ := hv
    refine ⟨zvp (rfl : zi v2 = zi v2) iv2 g1.1 g1.2, ?_⟩
    obtain ⟨g2, hv⟩ := hv
    intro xy3 exy3
    obtain ⟨y3, eyy3⟩ : ∃ q9 : Int, q9 = (v1 + (J (o + 2) v2.toNat)) := ⟨_, rfl⟩
    have hv := hv y3 eyy3
    have Ey3 : xy3 = zi y3 := exy3.trans (((za (rfl : zi v1 = zi v1) (zrd (rfl : zi v2 = zi v2) iv2 g1.1))).trans (congrArg zi eyy3.symm))
    have Iy3 : ir y3 := by rw [eyy3]; exact g2
    clear exy3
    obtain ⟨g4, hv⟩ := hv
    intro xy5 exy5
    obtain ⟨y5, eyy5⟩ : ∃ q9 : Int, q9 = v2 + 1 := ⟨_, rfl⟩
    have hv := hv y5 eyy5
    have Ey5 : xy5 = zi y5 := exy5.trans (((za (rfl : zi v2 = zi v2) (by decide : (1 : Int32) = zi 1))).trans (congrArg zi eyy5.symm))
    have Iy5 : ir y5 := by rw [eyy5]; exact g4
    clear exy5
    exact hv _ _ Ey3 Iy3 Ey5 Iy5
def v_X1_allNotes (J : mJ) (o : Nat) (post' : Int → Prop) : Prop := (v_X1_allNotes_4 J o post') 0 0
theorem vw_X1_allNotes {J : mJ} {o : Nat} (hJ : irm J)   {post : Int32 → Prop} {post' : Int → Prop} (hp : ∀ (x : Int32) (r : Int), x = zi r → ir r → post' r → post x) (hv : v_X1_allNotes J o post') : w_X1_allNotes (zz J) o post := by
  unfold v_X1_allNotes at hv
  unfold w_X1_allNotes
  exact vw_X1_allNotes_4 hJ  hp (by decide : (0 : Int32) = zi 0) (by decide : ir 0) (by decide : (0 : Int32) = zi 0) (by decide : ir 0) hv
def v_X2_listen_66 (o : Nat) (oh : Nat) (post' : mJ → Prop) (k23' : mJ → Int → Int → Prop) (J : mJ) (v1 : Int) (v2 : Int) (v4 : Int) : Prop := ∀ ZZ : (mJ → Int → Int → Int → Prop), (∀ (J : mJ) (v1 : Int) (v2 : Int) (v4 : Int), ((18 < v4 → ir (v2 + 1) ∧ ∀ y12, y12 = v2 + 1 → k23' J v1 y12) ∧ (¬ 18 < v4 → ir (v1 * 19) ∧ ir ((v1 * 19) + v4) ∧ (0 ≤ ((v1 * 19) + v4) ∧ ((v1 * 19) + v4) < 456) ∧ (0 ≤ ((v1 * 19) + v4) ∧ ((v1 * 19) + v4) < 456) ∧ ∀ J17, J17 = up2 J (o + 12) (((v1 * 19) + v4).toNat) (orZ (J (o + 12) ((v1 * 19) + v4).toNat) (shlZ 1 v2)) → ir (v4 + 1) ∧ ∀ y19, y19 = v4 + 1 → ZZ J17 v1 v2 y19)) → ZZ J v1 v2 v4) → ZZ J v1 v2 v4
theorem vw_X2_listen_66 {o : Nat} {oh : Nat}   {post : mI → Prop} {post' : mJ → Prop} {k23' : mJ → Int → Int → Prop} {k23 : mI → Int32 → Int32 → Prop} (hp : ∀ (J1 : mJ), irm J1 → post' J1 → post (zz J1)) (hk23 : ∀ (J : mJ) (xv1 : Int32) (v1 : Int) (xv2 : Int32) (v2 : Int), irm J → xv1 = zi v1 → ir v1 → xv2 = zi v2 → ir v2 → k23' J v1 v2 → k23 (zz J) xv1 xv2) {J : mJ} {xv1 : Int32} {v1 : Int} {xv2 : Int32} {v2 : Int} {xv4 : Int32} {v4 : Int} (hJ : irm J) (ev1 : xv1 = zi v1) (iv1 : ir v1) (ev2 : xv2 = zi v2) (iv2 : ir v2) (ev4 : xv4 = zi v4) (iv4 : ir v4) (hv : v_X2_listen_66 o oh post' k23' J v1 v2 v4) : w_X2_listen_66 o oh post k23 (zz J) xv1 xv2 xv4 := by
  subst ev1
  subst ev2
  subst ev4
  unfold v_X2_listen_66 at hv
  unfold w_X2_listen_66
  intro ZZ hZ
  refine hv (fun J v1 v2 v4 => ∀ (xv1 : Int32) (xv2 : Int32) (xv4 : Int32), irm J → xv1 = zi v1 → ir v1 → xv2 = zi v2 → ir v2 → xv4 = zi v4 → ir v4 → ZZ (zz J) xv1 xv2 xv4) ?_ _ _ _ hJ rfl iv1 rfl iv2 rfl iv4
  clear hv hJ iv1 iv2 iv4
  intro J v1 v2 v4 hv xv1 xv2 xv4 hJ ev1 iv1 ev2 iv2 ev4 iv4
  subst ev1
  subst ev2
  subst ev4
  refine hZ _ _ _ _ ?_
  refine ⟨fun cq => ?_, fun cq => ?_⟩
  · have hv := hv.1 ((zlt (by decide : (18 : Int32) = zi 18) (rfl : zi v4 = zi v4) (by decide : ir 18) iv4).mp cq)
    obtain ⟨g11, hv⟩ := hv
    intro xy12 exy12
    obtain ⟨y12, eyy12⟩ : ∃ q9 : Int, q9 = v2 + 1 := ⟨_, rfl⟩
    have hv := hv y12 eyy12
    have Ey12 : xy12 = zi y12 := exy12.trans (((za (rfl : zi v2 = zi v2) (by decide : (1 : Int32) = zi 1))).trans (congrArg zi eyy12.symm))
    have Iy12 : ir y12 := by rw [eyy12]; exact g11
    clear exy12
    exact hk23 _ _ _ _ _ hJ (rfl : zi v1 = zi v1) iv1 Ey12 Iy12 hv
  · have hv := hv.2 (fun q => cq ((zlt (by decide : (18 : Int32) = zi 18) (rfl : zi v4 = zi v4) (by decide : ir 18) iv4).mpr q))
    obtain ⟨g13, hv⟩ := hv
    obtain ⟨g14, hv⟩ := hv
    obtain ⟨g15, hv⟩ := hv
    refine ⟨zvp (za (zm (rfl : zi v1 = zi v1) (by decide : (19 : Int32) = zi 19)) (rfl : zi v4 = zi v4)) g14 g15.1 g15.2, ?_⟩
    obtain ⟨g16, hv⟩ := hv
    refine ⟨zvp (za (zm (rfl : zi v1 = zi v1) (by decide : (19 : Int32) = zi 19)) (rfl : zi v4 = zi v4)) g14 g16.1 g16.2, ?_⟩
    intro I1 eI1
    obtain ⟨J17, eJ17⟩ : ∃ q9 : mJ, q9 = up2 J (o + 12) (((v1 * 19) + v4).toNat) (orZ (J (o + 12) ((v1 * 19) + v4).toNat) (shlZ 1 v2)) := ⟨_, rfl⟩
    have eI1 : I1 = zz J17 := by rw [eI1, eJ17]; exact zupa (za (zm (rfl : zi v1 = zi v1) (by decide : (19 : Int32) = zi 19)) (rfl : zi v4 = zi v4)) g14 g16.1 (z_or (zrd (za (zm (rfl : zi v1 = zi v1) (by decide : (19 : Int32) = zi 19)) (rfl : zi v4 = zi v4)) g14 g15.1) (z_shl (by decide : (1 : Int32) = zi 1) (rfl : zi v2 = zi v2)))
    subst eI1
    have hv := hv J17 eJ17
    have hJ : irm J17 := by rw [eJ17]; exact irm_up hJ (ir_toInt _)
    obtain ⟨g18, hv⟩ := hv
    intro xy19 exy19
    obtain ⟨y19, eyy19⟩ : ∃ q9 : Int, q9 = v4 + 1 := ⟨_, rfl⟩
    have hv := hv y19 eyy19
    have Ey19 : xy19 = zi y19 := exy19.trans (((za (rfl : zi v4 = zi v4) (by decide : (1 : Int32) = zi 1))).trans (congrArg zi eyy19.symm))
    have Iy19 : ir y19 := by rw [eyy19]; exact g18
    clear exy19
    exact hv _ _ _ hJ (rfl : zi v1 = zi v1) iv1 (rfl : zi v2 = zi v2) iv2 Ey19 Iy19
def v_X2_listen_23 (o : Nat) (oh : Nat) (post' : mJ → Prop) (k10' : mJ → Int → Prop) (J : mJ) (v1 : Int) (v2 : Int) : Prop := ∀ ZZ : (mJ → Int → Int → Prop), (∀ (J : mJ) (v1 : Int) (v2 : Int), (((J oh 2) ≤ v2 → ir (v1 + 1) ∧ ∀ y3, y3 = v1 + 1 → k10' J y3) ∧ (¬ (J oh 2) ≤ v2 → (0 ≤ v2 ∧ v2 < 6) ∧ ir ((J (oh + 2) v2.toNat) - v1) ∧ ir (absZ ((J (oh + 2) v2.toNat) - v1)) ∧ ∀ y7, y7 = (absZ ((J (oh + 2) v2.toNat) - v1)) → (0 ≤ v2 ∧ v2 < 6) ∧ ir (y7 - (J (oh + 3) v2.toNat)) ∧ ∀ y10, y10 = (maxZ 1 (y7 - (J (oh + 3) v2.toNat))) → (v_X2_listen_66 o oh post' ZZ) J v1 v2 y10)) → ZZ J v1 v2) → ZZ J v1 v2
theorem vw_X2_listen_23 {o : Nat} {oh : Nat}   {post : mI → Prop} {post' : mJ → Prop} {k10' : mJ → Int → Prop} {k10 : mI → Int32 → Prop} (hp : ∀ (J1 : mJ), irm J1 → post' J1 → post (zz J1)) (hk10 : ∀ (J : mJ) (xv1 : Int32) (v1 : Int), irm J → xv1 = zi v1 → ir v1 → k10' J v1 → k10 (zz J) xv1) {J : mJ} {xv1 : Int32} {v1 : Int} {xv2 : Int32} {v2 : Int} (hJ : irm J) (ev1 : xv1 = zi v1) (iv1 : ir v1) (ev2 : xv2 = zi v2) (iv2 : ir v2) (hv : v_X2_listen_23 o oh post' k10' J v1 v2) : w_X2_listen_23 o oh post k10 (zz J) xv1 xv2 := by
  subst ev1
  subst ev2
  unfold v_X2_listen_23 at hv
  unfold w_X2_listen_23
  intro ZZ hZ
  refine hv (fun J v1 v2 => ∀ (xv1 : Int32) (xv2 : Int32), irm J → xv1 = zi v1 → ir v1 → xv2 = zi v2 → ir v2 → ZZ (zz J) xv1 xv2) ?_ _ _ hJ rfl iv1 rfl iv2
  clear hv hJ iv1 iv2
  intro J v1 v2 hv xv1 xv2 hJ ev1 iv1 ev2 iv2
  subst ev1
  subst ev2
  refine hZ _ _ _ ?_
  refine ⟨fun cq => ?_, fun cq => ?_⟩
  · have hv := hv.1 ((zle zrf (rfl : zi v2 = zi v2) (hJ _ _) iv2).mp cq)
    obtain ⟨g2, hv⟩ := hv
    intro xy3 exy3
    obtain ⟨y3, eyy3⟩ : ∃ q9 : Int, q9 = v1 + 1 := ⟨_, rfl⟩
    have hv := hv y3 eyy3
    have Ey3 : xy3 = zi y3 := exy3.trans (((za (rfl : zi v1 = zi v1) (by decide : (1 : Int32) = zi 1))).trans (congrArg zi eyy3.symm))
    have Iy3 : ir y3 := by rw [eyy3]; exact g2
    clear exy3
    exact hk10 _ _ _ hJ Ey3 Iy3 hv
  · have hv := hv.2 (fun q => cq ((zle zrf (rfl : zi v2 = zi v2) (hJ _ _) iv2).mpr q))
    obtain ⟨g4, hv⟩ := hv
    refine ⟨zvp (rfl : zi v2 = zi v2) iv2 g4.1 g4.2, ?_⟩
    obtain ⟨g5, hv⟩ := hv
    obtain ⟨g6, hv⟩ := hv
    intro xy7 exy7
    obtain ⟨y7, eyy7⟩ : ∃ q9 : Int, q9 = (absZ ((J (oh + 2) v2.toNat) - v1)) := ⟨_, rfl⟩
    have hv := hv y7 eyy7
    have Ey7 : xy7 = zi y7 := exy7.trans (((z_abs (zs (zrd (rfl : zi v2 = zi v2) iv2 g4.1) (rfl : zi v1 = zi v1)) g5)).trans (congrArg zi eyy7.symm))
    have Iy7 : ir y7 := by rw [eyy7]; exact g6
    clear exy7
    obtain ⟨g8, hv⟩ := hv
    refine ⟨zvp (rfl : zi v2 = zi v2) iv2 g8.1 g8.2, ?_⟩
    obtain ⟨g9, hv⟩ := hv
    intro xy10 exy10
    obtain ⟨y10, eyy10⟩ : ∃ q9 : Int, q9 = (maxZ 1 (y7 - (J (oh + 3) v2.toNat))) := ⟨_, rfl⟩
    have hv := hv y10 eyy10
    have Ey10 : xy10 = zi y10 := exy10.trans (((z_max (by decide : (1 : Int32) = zi 1) (zs Ey7 (zrd (rfl : zi v2 = zi v2) iv2 g8.1)) (by decide : ir 1) g9)).trans (congrArg zi eyy10.symm))
    have Iy10 : ir y10 := by rw [eyy10]; exact (ir_max (by decide : ir 1) g9)
    clear exy10
    refine vw_X2_listen_66  hp ?_ hJ (rfl : zi v1 = zi v1) iv1 (rfl : zi v2 = zi v2) iv2 Ey10 Iy10 hv
    · intro qq xx vv xx vv hJ ev1 iv1 ev2 iv2 hv
      exact hv _ _ hJ ev1 iv1 ev2 iv2
def v_X2_listen_10 (o : Nat) (oh : Nat) (post' : mJ → Prop) (J : mJ) (v1 : Int) : Prop := ∀ ZZ : (mJ → Int → Prop), (∀ (J : mJ) (v1 : Int), (((J oh 0) ≤ v1 → post' J) ∧ (¬ (J oh 0) ≤ v1 → (v_X2_listen_23 o oh post' ZZ) J v1 0)) → ZZ J v1) → ZZ J v1
theorem vw_X2_listen_10 {o : Nat} {oh : Nat}   {post : mI → Prop} {post' : mJ → Prop} (hp : ∀ (J1 : mJ), irm J1 → post' J1 → post (zz J1)) {J : mJ} {xv1 : Int32} {v1 : Int} (hJ : irm J) (ev1 : xv1 = zi v1) (iv1 : ir v1) (hv : v_X2_listen_10 o oh post' J v1) : w_X2_listen_10 o oh post (zz J) xv1 := by
  subst ev1
  unfold v_X2_listen_10 at hv
  unfold w_X2_listen_10
  intro ZZ hZ
  refine hv (fun J v1 => ∀ (xv1 : Int32), irm J → xv1 = zi v1 → ir v1 → ZZ (zz J) xv1) ?_ _ hJ rfl iv1
  clear hv hJ iv1
  intro J v1 hv xv1 hJ ev1 iv1
  subst ev1
  refine hZ _ _ ?_
  refine ⟨fun cq => ?_, fun cq => ?_⟩
  · have hv := hv.1 ((zle zrf (rfl : zi v1 = zi v1) (hJ _ _) iv1).mp cq)
    exact hp _ hJ hv
  · have hv := hv.2 (fun q => cq ((zle zrf (rfl : zi v1 = zi v1) (hJ _ _) iv1).mpr q))
    refine vw_X2_listen_23  hp ?_ hJ (rfl : zi v1 = zi v1) iv1 (by decide : (0 : Int32) = zi 0) (by decide : ir 0) hv
    · intro qq xx vv hJ ev1 iv1 hv
      exact hv _ hJ ev1 iv1
def v_X2_listen (J : mJ) (o : Nat) (oh : Nat) (post' : mJ → Prop) : Prop := v_J7_fill_53178 J (o + 12) 456 0 (fun J1 => (v_X2_listen_10 o oh post') J1 0)
theorem vw_X2_listen {J : mJ} {o : Nat} {oh : Nat} (hJ : irm J)    {post : mI → Prop} {post' : mJ → Prop} (hp : ∀ (J1 : mJ), irm J1 → post' J1 → post (zz J1)) (hv : v_X2_listen J o oh post') : w_X2_listen (zz J) o oh post := by
  unfold v_X2_listen at hv
  unfold w_X2_listen
  refine vw_J7_fill_53178 hJ (by decide : (0 : Int32) = zi 0) (by decide : ir 0) (fun J1 hJ hv => ?_) hv
  exact vw_X2_listen_10  hp hJ (by decide : (0 : Int32) = zi 0) (by decide : ir 0) hv
def v_X3_walks (J : mJ) (o : Nat) (a1 : Int) (post' : Bool → Prop) : Prop := (0 ≤ a1 ∧ a1 < 6) ∧ ((J (o + 9) a1.toNat) ≤ 0 → post' false) ∧ (¬ (J (o + 9) a1.toNat) ≤ 0 → post' true)
theorem vw_X3_walks {J : mJ} {o : Nat} {xa1 : Int32} {a1 : Int} (hJ : irm J)   (ea1 : xa1 = zi a1) (ia1 : ir a1) {post : Bool → Prop} {post' : Bool → Prop} (hp : ∀ (r : Bool), post' r → post r) (hv : v_X3_walks J o a1 post') : w_X3_walks (zz J) o xa1 post := by
  subst ea1
  unfold v_X3_walks at hv
  unfold w_X3_walks
  obtain ⟨g1, hv⟩ := hv
  refine ⟨zvp (rfl : zi a1 = zi a1) ia1 g1.1 g1.2, ?_⟩
  refine ⟨fun cq => ?_, fun cq => ?_⟩
  · have hv := hv.1 ((zle (zrd (rfl : zi a1 = zi a1) ia1 g1.1) (by decide : (0 : Int32) = zi 0) (hJ _ _) (by decide : ir 0)).mp cq)
    exact hp _ hv
  · have hv := hv.2 (fun q => cq ((zle (zrd (rfl : zi a1 = zi a1) ia1 g1.1) (by decide : (0 : Int32) = zi 0) (hJ _ _) (by decide : ir 0)).mpr q))
    exact hp _ hv
def v_X2_goes (J : mJ) (o : Nat) (oh : Nat) (a1 : Int) (a2 : Int) (post' : Bool → mJ → Prop) : Prop := v_X3_walks J oh a1 (fun b1 => (b1 = false → post' false J) ∧ (b1 = true → (0 ≤ a1 ∧ a1 < 6) ∧ ((J (oh + 7) a1.toNat) ≤ a2 → (0 ≤ a1 ∧ a1 < 6) ∧ (¬ a2 = (J (oh + 7) a1.toNat) → (0 ≤ a1 ∧ a1 < 6) ∧ (0 ≤ a1 ∧ a1 < 6) ∧ v_X3_openGoal J oh a1 (J (o + 16) a1.toNat) (J (o + 15) a1.toNat) (fun r6 => (0 ≤ a1 ∧ a1 < 6) ∧ ∀ J8, J8 = up2 J (o + 16) a1.toNat r6 → (0 ≤ a1 ∧ a1 < 6) ∧ (0 ≤ a1 ∧ a1 < 6) ∧ ((J8 (o + 16) a1.toNat) < (J8 (oh + 9) a1.toNat) → (0 ≤ a1 ∧ a1 < 6) ∧ (0 ≤ a1 ∧ a1 < 6) ∧ v_X3_nextStep J8 oh a1 (J8 (o + 15) a1.toNat) (J8 (o + 16) a1.toNat) (fun r13 => (0 ≤ a1 ∧ a1 < 6) ∧ ∀ J15, J15 = up2 J8 (o + 15) a1.toNat r13 → post' true J15)) ∧ (¬ (J8 (o + 16) a1.toNat) < (J8 (oh + 9) a1.toNat) → post' false J8))) ∧ (a2 = (J (oh + 7) a1.toNat) → (0 ≤ a1 ∧ a1 < 6) ∧ (0 ≤ a1 ∧ a1 < 6) ∧ ∀ J18, J18 = up2 J (o + 15) a1.toNat (J (oh + 8) a1.toNat) → post' true J18)) ∧ (¬ (J (oh + 7) a1.toNat) ≤ a2 → post' false J)))
theorem vw_X2_goes {J : mJ} {o : Nat} {oh : Nat} {xa1 : Int32} {a1 : Int} {xa2 : Int32} {a2 : Int} (hJ : irm J)    (ea1 : xa1 = zi a1) (ia1 : ir a1) (ea2 : xa2 = zi a2) (ia2 : ir a2) {post : Bool → mI → Prop} {post' : Bool → mJ → Prop} (hp : ∀ (r : Bool) (J1 : mJ), irm J1 → post' r J1 → post r (zz J1)) (hv : v_X2_goes J o oh a1 a2 post') : w_X2_goes (zz J) o oh xa1 xa2 post := by
  subst ea1
  subst ea2
  unfold v_X2_goes at hv
  unfold w_X2_goes
  refine vw_X3_walks hJ (rfl : zi a1 = zi a1) ia1 (fun b1  hv => ?_) hv
  refine ⟨fun cq => ?_, fun cq => ?_⟩
  · have hv := hv.1 cq
    exact hp _ _ hJ hv
  · have hv := hv.2 cq
    obtain ⟨g2, hv⟩ := hv
    refine ⟨zvp (rfl : zi a1 = zi a1) ia1 g2.1 g2.2, ?_⟩
    refine ⟨fun cq => ?_, fun cq => ?_⟩
    · have hv := hv.1 ((zle (zrd (rfl : zi a1 = zi a1) ia1 g2.1) (rfl : zi a2 = zi a2) (hJ _ _) ia2).mp cq)
      obtain ⟨g3, hv⟩ := hv
      refine ⟨zvp (rfl : zi a1 = zi a1) ia1 g3.1 g3.2, ?_⟩
      refine ⟨fun cq => ?_, fun cq => ?_⟩
      · have hv := hv.1 (fun q => cq ((zeq (rfl : zi a2 = zi a2) (zrd (rfl : zi a1 = zi a1) ia1 g3.1) ia2 (hJ _ _)).mpr q))
        obtain ⟨g4, hv⟩ := hv
        refine ⟨zvp (rfl : zi a1 = zi a1) ia1 g4.1 g4.2, ?_⟩
        obtain ⟨g5, hv⟩ := hv
        refine ⟨zvp (rfl : zi a1 = zi a1) ia1 g5.1 g5.2, ?_⟩
        refine vw_X3_openGoal hJ (rfl : zi a1 = zi a1) ia1 (zrd (rfl : zi a1 = zi a1) ia1 g4.1) (hJ _ _) (zrd (rfl : zi a1 = zi a1) ia1 g5.1) (hJ _ _) (fun xr6 r6 Er6 Ir6 hv => ?_) hv
        obtain ⟨g7, hv⟩ := hv
        refine ⟨zvp (rfl : zi a1 = zi a1) ia1 g7.1 g7.2, ?_⟩
        intro I1 eI1
        obtain ⟨J8, eJ8⟩ : ∃ q9 : mJ, q9 = up2 J (o + 16) a1.toNat r6 := ⟨_, rfl⟩
        have eI1 : I1 = zz J8 := by rw [eI1, eJ8]; exact zupa (rfl : zi a1 = zi a1) ia1 g7.1 Er6
        subst eI1
        have hv := hv J8 eJ8
        have hJ : irm J8 := by rw [eJ8]; exact irm_up hJ Ir6
        obtain ⟨g9, hv⟩ := hv
        refine ⟨zvp (rfl : zi a1 = zi a1) ia1 g9.1 g9.2, ?_⟩
        obtain ⟨g10, hv⟩ := hv
        refine ⟨zvp (rfl : zi a1 = zi a1) ia1 g10.1 g10.2, ?_⟩
        refine ⟨fun cq => ?_, fun cq => ?_⟩
        · have hv := hv.1 ((zlt (zrd (rfl : zi a1 = zi a1) ia1 g9.1) (zrd (rfl : zi a1 = zi a1) ia1 g10.1) (hJ _ _) (hJ _ _)).mp cq)
          obtain ⟨g11, hv⟩ := hv
          refine ⟨zvp (rfl : zi a1 = zi a1) ia1 g11.1 g11.2, ?_⟩
          obtain ⟨g12, hv⟩ := hv
          refine ⟨zvp (rfl : zi a1 = zi a1) ia1 g12.1 g12.2, ?_⟩
          refine vw_X3_nextStep hJ (rfl : zi a1 = zi a1) ia1 (zrd (rfl : zi a1 = zi a1) ia1 g11.1) (hJ _ _) (zrd (rfl : zi a1 = zi a1) ia1 g12.1) (hJ _ _) (fun xr13 r13 Er13 Ir13 hv => ?_) hv
          obtain ⟨g14, hv⟩ := hv
          refine ⟨zvp (rfl : zi a1 = zi a1) ia1 g14.1 g14.2, ?_⟩
          intro I1 eI1
          obtain ⟨J15, eJ15⟩ : ∃ q9 : mJ, q9 = up2 J8 (o + 15) a1.toNat r13 := ⟨_, rfl⟩
          have eI1 : I1 = zz J15 := by rw [eI1, eJ15]; exact zupa (rfl : zi a1 = zi a1) ia1 g14.1 Er13
          subst eI1
          have hv := hv J15 eJ15
          have hJ : irm J15 := by rw [eJ15]; exact irm_up hJ Ir13
          exact hp _ _ hJ hv
        · have hv := hv.2 (fun q => cq ((zlt (zrd (rfl : zi a1 = zi a1) ia1 g9.1) (zrd (rfl : zi a1 = zi a1) ia1 g10.1) (hJ _ _) (hJ _ _)).mpr q))
          exact hp _ _ hJ hv
      · have hv := hv.2 ((zeq (rfl : zi a2 = zi a2) (zrd (rfl : zi a1 = zi a1) ia1 g3.1) ia2 (hJ _ _)).mp cq)
        obtain ⟨g16, hv⟩ := hv
        refine ⟨zvp (rfl : zi a1 = zi a1) ia1 g16.1 g16.2, ?_⟩
        obtain ⟨g17, hv⟩ := hv
        refine ⟨zvp (rfl : zi a1 = zi a1) ia1 g17.1 g17.2, ?_⟩
        intro I1 eI1
        obtain ⟨J18, eJ18⟩ : ∃ q9 : mJ, q9 = up2 J (o + 15) a1.toNat (J (oh + 8) a1.toNat) := ⟨_, rfl⟩
        have eI1 : I1 = zz J18 := by rw [eI1, eJ18]; exact zupa (rfl : zi a1 = zi a1) ia1 g17.1 (zrd (rfl : zi a1 = zi a1) ia1 g16.1)
        subst eI1
        have hv := hv J18 eJ18
        have hJ : irm J18 := by rw [eJ18]; exact irm_up hJ (hJ _ _)
        exact hp _ _ hJ hv
    · have hv := hv.2 (fun q => cq ((zle (zrd (rfl : zi a1 = zi a1) ia1 g2.1) (rfl : zi a2 = zi a2) (hJ _ _) ia2).mpr q))
      exact hp _ _ hJ hv
def v_X2_addTread_210 (o : Nat) (oh : Nat) (a1 : Int) (a2 : Int) (post' : mJ → Prop) (J : mJ) (v3 : Int) (v4 : Int) (s1 : Int) (s2 : Int) : Prop := (0 ≤ s1 ∧ s1 < 600) ∧ ∀ J36, J36 = up2 J (o + 9) s1.toNat s2 → (0 ≤ v4 ∧ v4 < 24) ∧ ∀ J38, J38 = up2 J36 (o + 14) v4.toNat v3 → (0 ≤ a1 ∧ a1 < 6) ∧ ∀ J40, J40 = up2 J38 (o + 10) a1.toNat a2 → ir ((J40 o 2) + 1) ∧ ∀ J42, J42 = up2 J40 o 2 ((J40 o 2) + 1) → post' J42
theorem vw_X2_addTread_210 {o : Nat} {oh : Nat} {a1 : Int} {a2 : Int}  (ia1 : ir a1) (ia2 : ir a2) {post : mI → Prop} {post' : mJ → Prop} (hp : ∀ (J1 : mJ), irm J1 → post' J1 → post (zz J1)) {J : mJ} {xv3 : Int32} {v3 : Int} {xv4 : Int32} {v4 : Int} {xs1 : Int32} {s1 : Int} {xs2 : Int32} {s2 : Int} (hJ : irm J) (ev3 : xv3 = zi v3) (iv3 : ir v3) (ev4 : xv4 = zi v4) (iv4 : ir v4) (es1 : xs1 = zi s1) (is1 : ir s1) (es2 : xs2 = zi s2) (is2 : ir s2) (hv : v_X2_addTread_210 o oh a1 a2 post' J v3 v4 s1 s2) : w_X2_addTread_210 o oh (zi a1) (zi a2) post (zz J) xv3 xv4 xs1 xs2 := by
  subst ev3
  subst ev4
  subst es1
  subst es2
  unfold v_X2_addTread_210 at hv
  unfold w_X2_addTread_210
  obtain ⟨g35, hv⟩ := hv
  refine ⟨zvp (rfl : zi s1 = zi s1) is1 g35.1 g35.2, ?_⟩
  intro I1 eI1
  obtain ⟨J36, eJ36⟩ : ∃ q9 : mJ, q9 = up2 J (o + 9) s1.toNat s2 := ⟨_, rfl⟩
  have eI1 : I1 = zz J36 := by rw [eI1, eJ36]; exact zupa (rfl : zi s1 = zi s1) is1 g35.1 (rfl : zi s2 = zi s2)
  subst eI1
  have hv := hv J36 eJ36
  have hJ : irm J36 := by rw [eJ36]; exact irm_up hJ is2
  obtain ⟨g37, hv⟩ := hv
  refine ⟨zvp (rfl : zi v4 = zi v4) iv4 g37.1 g37.2, ?_⟩
  intro I1 eI1
  obtain ⟨J38, eJ38⟩ : ∃ q9 : mJ, q9 = up2 J36 (o + 14) v4.toNat v3 := ⟨_, rfl⟩
  have eI1 : I1 = zz J38 := by rw [eI1, eJ38]; exact zupa (rfl : zi v4 = zi v4) iv4 g37.1 (rfl : zi v3 = zi v3)
  subst eI1
  have hv := hv J38 eJ38
  have hJ : irm J38 := by rw [eJ38]; exact irm_up hJ iv3
  obtain ⟨g39, hv⟩ := hv
  refine ⟨zvp (rfl : zi a1 = zi a1) ia1 g39.1 g39.2, ?_⟩
  intro I1 eI1
  obtain ⟨J40, eJ40⟩ : ∃ q9 : mJ, q9 = up2 J38 (o + 10) a1.toNat a2 := ⟨_, rfl⟩
  have eI1 : I1 = zz J40 := by rw [eI1, eJ40]; exact zupa (rfl : zi a1 = zi a1) ia1 g39.1 (rfl : zi a2 = zi a2)
  subst eI1
  have hv := hv J40 eJ40
  have hJ : irm J40 := by rw [eJ40]; exact irm_up hJ ia2
  obtain ⟨g41, hv⟩ := hv
  intro I1 eI1
  obtain ⟨J42, eJ42⟩ : ∃ q9 : mJ, q9 = up2 J40 o 2 ((J40 o 2) + 1) := ⟨_, rfl⟩
  have eI1 : I1 = zz J42 := by rw [eI1, eJ42]; exact zup (za zrf (by decide : (1 : Int32) = zi 1))
  subst eI1
  have hv := hv J42 eJ42
  have hJ : irm J42 := by rw [eJ42]; exact irm_up hJ g41
  exact hp _ hJ hv
def v_X2_addTread_181 (o : Nat) (oh : Nat) (a1 : Int) (a2 : Int) (post' : mJ → Prop) (J : mJ) (v3 : Int) (v4 : Int) (v5 : Int) (s1 : Int) (s2 : Int) : Prop := (0 ≤ s1 ∧ s1 < 600) ∧ ∀ J31, J31 = up2 J (o + 8) s1.toNat s2 → (0 ≤ v3 ∧ v3 < 600) ∧ (¬ (J31 (o + 6) v3.toNat) = (-1) → (0 ≤ v5 ∧ v5 < 600) ∧ ir ((J31 (o + 9) v5.toNat) + 1) ∧ (v_X2_addTread_210 o oh a1 a2 post') J31 v3 v4 v3 ((J31 (o + 9) v5.toNat) + 1)) ∧ ((J31 (o + 6) v3.toNat) = (-1) → (v_X2_addTread_210 o oh a1 a2 post') J31 v3 v4 v3 1)
theorem vw_X2_addTread_181 {o : Nat} {oh : Nat} {a1 : Int} {a2 : Int}  (ia1 : ir a1) (ia2 : ir a2) {post : mI → Prop} {post' : mJ → Prop} (hp : ∀ (J1 : mJ), irm J1 → post' J1 → post (zz J1)) {J : mJ} {xv3 : Int32} {v3 : Int} {xv4 : Int32} {v4 : Int} {xv5 : Int32} {v5 : Int} {xs1 : Int32} {s1 : Int} {xs2 : Int32} {s2 : Int} (hJ : irm J) (ev3 : xv3 = zi v3) (iv3 : ir v3) (ev4 : xv4 = zi v4) (iv4 : ir v4) (ev5 : xv5 = zi v5) (iv5 : ir v5) (es1 : xs1 = zi s1) (is1 : ir s1) (es2 : xs2 = zi s2) (is2 : ir s2) (hv : v_X2_addTread_181 o oh a1 a2 post' J v3 v4 v5 s1 s2) : w_X2_addTread_181 o oh (zi a1) (zi a2) post (zz J) xv3 xv4 xv5 xs1 xs2 := by
  subst ev3
  subst ev4
  subst ev5
  subst es1
  subst es2
  unfold v_X2_addTread_181 at hv
  unfold w_X2_addTread_181
  obtain ⟨g30, hv⟩ := hv
  refine ⟨zvp (rfl : zi s1 = zi s1) is1 g30.1 g30.2, ?_⟩
  intro I1 eI1
  obtain ⟨J31, eJ31⟩ : ∃ q9 : mJ, q9 = up2 J (o + 8) s1.toNat s2 := ⟨_, rfl⟩
  have eI1 : I1 = zz J31 := by rw [eI1, eJ31]; exact zupa (rfl : zi s1 = zi s1) is1 g30.1 (rfl : zi s2 = zi s2)
  subst eI1
  have hv := hv J31 eJ31
  have hJ : irm J31 := by rw [eJ31]; exact irm_up hJ is2
  obtain ⟨g32, hv⟩ := hv
  refine ⟨zvp (rfl : zi v3 = zi v3) iv3 g32.1 g32.2, ?_⟩
  refine ⟨fun cq => ?_, fun cq => ?_⟩
  · have hv := hv.1 (fun q => cq ((zeq (zrd (rfl : zi v3 = zi v3) iv3 g32.1) (by decide : ((-1) : Int32) = zi (-1)) (hJ _ _) (by decide : ir (-1))).mpr q))
    obtain ⟨g33, hv⟩ := hv
    refine ⟨zvp (rfl : zi v5 = zi v5) iv5 g33.1 g33.2, ?_⟩
    obtain ⟨g34, hv⟩ := hv
    exact vw_X2_addTread_210 ia1 ia2 hp hJ (rfl : zi v3 = zi v3) iv3 (rfl : zi v4 = zi v4) iv4 (rfl : zi v3 = zi v3) iv3 (za (zrd (rfl : zi v5 = zi v5) iv5 g33.1) (by decide : (1 : Int32) = zi 1)) g34 hv
  · have hv := hv.2 ((zeq (zrd (rfl : zi v3 = zi v3) iv3 g32.1) (by decide : ((-1) : Int32) = zi (-1)) (hJ _ _) (by decide : ir (-1))).mp cq)
    exact vw_X2_addTread_210 ia1 ia2 hp hJ (rfl : zi v3 = zi v3) iv3 (rfl : zi v4 = zi v4) iv4 (rfl : zi v3 = zi v3) iv3 (by decide : (1 : Int32) = zi 1) (by decide : ir 1) hv
def v_X2_addTread_128 (o : Nat) (oh : Nat) (a1 : Int) (a2 : Int) (post' : mJ → Prop) (J : mJ) (v3 : Int) (v4 : Int) (v5 : Int) (s1 : Int) (s2 : Int) : Prop := (0 ≤ s1 ∧ s1 < 600) ∧ ∀ J22, J22 = up2 J (o + 6) s1.toNat s2 → (0 ≤ v3 ∧ v3 < 600) ∧ v_X2_hearers J22 o oh v4 (J22 (o + 5) v3.toNat) (fun r24 => (0 ≤ v3 ∧ v3 < 600) ∧ ∀ J26, J26 = up2 J22 (o + 7) v3.toNat r24 → (0 ≤ v3 ∧ v3 < 600) ∧ (¬ (J26 (o + 6) v3.toNat) = (-1) → (0 ≤ v5 ∧ v5 < 600) ∧ v_X2_hearers J26 o oh v4 (divZ (J26 (o + 5) v5.toNat) 2) (fun r29 => (v_X2_addTread_181 o oh a1 a2 post') J26 v3 v4 v5 v3 r29)) ∧ ((J26 (o + 6) v3.toNat) = (-1) → (v_X2_addTread_181 o oh a1 a2 post') J26 v3 v4 v5 v3 0))
theorem vw_X2_addTread_128 {o : Nat} {oh : Nat} {a1 : Int} {a2 : Int}  (ia1 : ir a1) (ia2 : ir a2) {post : mI → Prop} {post' : mJ → Prop} (hp : ∀ (J1 : mJ), irm J1 → post' J1 → post (zz J1)) {J : mJ} {xv3 : Int32} {v3 : Int} {xv4 : Int32} {v4 : Int} {xv5 : Int32} {v5 : Int} {xs1 : Int32} {s1 : Int} {xs2 : Int32} {s2 : Int} (hJ : irm J) (ev3 : xv3 = zi v3) (iv3 : ir v3) (ev4 : xv4 = zi v4) (iv4 : ir v4) (ev5 : xv5 = zi v5) (iv5 : ir v5) (es1 : xs1 = zi s1) (is1 : ir s1) (es2 : xs2 = zi s2) (is2 : ir s2) (hv : v_X2_addTread_128 o oh a1 a2 post' J v3 v4 v5 s1 s2) : w_X2_addTread_128 o oh (zi a1) (zi a2) post (zz J) xv3 xv4 xv5 xs1 xs2 := by
  subst ev3
  subst ev4
  subst ev5
  subst es1
  subst es2
  unfold v_X2_addTread_128 at hv
  unfold w_X2_addTread_128
  obtain ⟨g21, hv⟩ := hv
  refine ⟨zvp (rfl : zi s1 = zi s1) is1 g21.1 g21.2, ?_⟩
  intro I1 eI1
  obtain ⟨J22, eJ22⟩ : ∃ q9 : mJ, q9 = up2 J (o + 6) s1.toNat s2 := ⟨_, rfl⟩
  have eI1 : I1 = zz J22 := by rw [eI1, eJ22]; exact zupa (rfl : zi s1 = zi s1) is1 g21.1 (rfl : zi s2 = zi s2)
  subst eI1
  have hv := hv J22 eJ22
  have hJ : irm J22 := by rw [eJ22]; exact irm_up hJ is2
  obtain ⟨g23, hv⟩ := hv
  refine ⟨zvp (rfl : zi v3 = zi v3) iv3 g23.1 g23.2, ?_⟩
  refine vw_X2_hearers hJ (rfl : zi v4 = zi v4) iv4 (zrd (rfl : zi v3 = zi v3) iv3 g23.1) (hJ _ _) (fun xr24 r24 Er24 Ir24 hv => ?_) hv
  obtain ⟨g25, hv⟩ := hv
  refine ⟨zvp (rfl : zi v3 = zi v3) iv3 g25.1 g25.2, ?_⟩
  intro I1 eI1
  obtain ⟨J26, eJ26⟩ : ∃ q9 : mJ, q9 = up2 J22 (o + 7) v3.toNat r24 := ⟨_, rfl⟩
  have eI1 : I1 = zz J26 := by rw [eI1, eJ26]; exact zupa (rfl : zi v3 = zi v3) iv3 g25.1 Er24
  subst eI1
  have hv := hv J26 eJ26
  have hJ : irm J26 := by rw [eJ26]; exact irm_up hJ Ir24
  obtain ⟨g27, hv⟩ := hv
  refine ⟨zvp (rfl : zi v3 = zi v3) iv3 g27.1 g27.2, ?_⟩
  refine ⟨fun cq => ?_, fun cq => ?_⟩
  · have hv := hv.1 (fun q => cq ((zeq (zrd (rfl : zi v3 = zi v3) iv3 g27.1) (by decide : ((-1) : Int32) = zi (-1)) (hJ _ _) (by decide : ir (-1))).mpr q))
    obtain ⟨g28, hv⟩ := hv
    refine ⟨zvp (rfl : zi v5 = zi v5) iv5 g28.1 g28.2, ?_⟩
    refine vw_X2_hearers hJ (rfl : zi v4 = zi v4) iv4 (z_div (zrd (rfl : zi v5 = zi v5) iv5 g28.1) (by decide : (2 : Int32) = zi 2)) (ir_toInt _) (fun xr29 r29 Er29 Ir29 hv => ?_) hv
    exact vw_X2_addTread_181 ia1 ia2 hp hJ (rfl : zi v3 = zi v3) iv3 (rfl : zi v4 = zi v4) iv4 (rfl : zi v5 = zi v5) iv5 (rfl : zi v3 = zi v3) iv3 Er29 Ir29 hv
  · have hv := hv.2 ((zeq (zrd (rfl : zi v3 = zi v3) iv3 g27.1) (by decide : ((-1) : Int32) = zi (-1)) (hJ _ _) (by decide : ir (-1))).mp cq)
    exact vw_X2_addTread_181 ia1 ia2 hp hJ (rfl : zi v3 = zi v3) iv3 (rfl : zi v4 = zi v4) iv4 (rfl : zi v5 = zi v5) iv5 (rfl : zi v3 = zi v3) iv3 (by decide : (0 : Int32) = zi 0) (by decide : ir 0) hv
def v_X2_addTread_127 (o : Nat) (oh : Nat) (a1 : Int) (a2 : Int) (post' : mJ → Prop) (J : mJ) (v3 : Int) (v4 : Int) (v5 : Int) (s1 : Int) : Prop := (v_X2_addTread_128 o oh a1 a2 post') J v3 v4 v5 s1 (-1)
theorem vw_X2_addTread_127 {o : Nat} {oh : Nat} {a1 : Int} {a2 : Int}  (ia1 : ir a1) (ia2 : ir a2) {post : mI → Prop} {post' : mJ → Prop} (hp : ∀ (J1 : mJ), irm J1 → post' J1 → post (zz J1)) {J : mJ} {xv3 : Int32} {v3 : Int} {xv4 : Int32} {v4 : Int} {xv5 : Int32} {v5 : Int} {xs1 : Int32} {s1 : Int} (hJ : irm J) (ev3 : xv3 = zi v3) (iv3 : ir v3) (ev4 : xv4 = zi v4) (iv4 : ir v4) (ev5 : xv5 = zi v5) (iv5 : ir v5) (es1 : xs1 = zi s1) (is1 : ir s1) (hv : v_X2_addTread_127 o oh a1 a2 post' J v3 v4 v5 s1) : w_X2_addTread_127 o oh (zi a1) (zi a2) post (zz J) xv3 xv4 xv5 xs1 := by
  subst ev3
  subst ev4
  subst ev5
  subst es1
  unfold v_X2_addTread_127 at hv
  unfold w_X2_addTread_127
  exact vw_X2_addTread_128 ia1 ia2 hp hJ (rfl : zi v3 = zi v3) iv3 (rfl : zi v4 = zi v4) iv4 (rfl : zi v5 = zi v5) iv5 (rfl : zi s1 = zi s1) is1 (by decide : ((-1) : Int32) = zi (-1)) (by decide : ir (-1)) hv
def v_X2_addTread (J : mJ) (o : Nat) (oh : Nat) (a1 : Int) (a2 : Int) (post' : mJ → Prop) : Prop := ((J o 2) < 600 → ∀ y1, y1 = (J o 2) → (0 ≤ a1 ∧ a1 < 6) ∧ ∀ y3, y3 = (J (o + 15) a1.toNat) → (0 ≤ y3 ∧ y3 < 24) ∧ ∀ y5, y5 = (J (o + 14) y3.toNat) → (0 ≤ y1 ∧ y1 < 600) ∧ ∀ J7, J7 = up2 J (o + 1) y1.toNat a1 → (0 ≤ y1 ∧ y1 < 600) ∧ ∀ J9, J9 = up2 J7 (o + 2) y1.toNat y3 → (0 ≤ y1 ∧ y1 < 600) ∧ ∀ J11, J11 = up2 J9 (o + 3) y1.toNat a2 → v_X3_shoeAt J11 oh a1 a2 (fun r12 => (0 ≤ y1 ∧ y1 < 600) ∧ ∀ J14, J14 = up2 J11 (o + 4) y1.toNat r12 → (0 ≤ y1 ∧ y1 < 600) ∧ v_X3_loudOf J14 oh a1 y3 (J14 (o + 4) y1.toNat) (fun r16 => (0 ≤ y1 ∧ y1 < 600) ∧ ∀ J18, J18 = up2 J14 (o + 5) y1.toNat r16 → (y5 = (-1) → (v_X2_addTread_127 o oh a1 a2 post') J18 y1 y3 y5 y1) ∧ (¬ y5 = (-1) → (0 ≤ y5 ∧ y5 < 600) ∧ ir (a2 - (J18 (o + 3) y5.toNat)) ∧ ((J18 oh 1) < (a2 - (J18 (o + 3) y5.toNat)) → (v_X2_addTread_127 o oh a1 a2 post') J18 y1 y3 y5 y1) ∧ (¬ (J18 oh 1) < (a2 - (J18 (o + 3) y5.toNat)) → (v_X2_addTread_128 o oh a1 a2 post') J18 y1 y3 y5 y1 y5))))) ∧ (¬ (J o 2) < 600 → post' J)
theorem vw_X2_addTread {J : mJ} {o : Nat} {oh : Nat} {xa1 : Int32} {a1 : Int} {xa2 : Int32} {a2 : Int} (hJ : irm J)    (ea1 : xa1 = zi a1) (ia1 : ir a1) (ea2 : xa2 = zi a2) (ia2 : ir a2) {post : mI → Prop} {post' : mJ → Prop} (hp : ∀ (J1 : mJ), irm J1 → post' J1 → post (zz J1)) (hv : v_X2_addTread J o oh a1 a2 post') : w_X2_addTread (zz J) o oh xa1 xa2 post := by
  subst ea1
  subst ea2
  unfold v_X2_addTread at hv
  unfold w_X2_addTread
  refine ⟨fun cq => ?_, fun cq => ?_⟩
  · have hv := hv.1 ((zlt zrf (by decide : (600 : Int32) = zi 600) (hJ _ _) (by decide : ir 600)).mp cq)
    intro xy1 exy1
    obtain ⟨y1, eyy1⟩ : ∃ q9 : Int, q9 = (J o 2) := ⟨_, rfl⟩
    have hv := hv y1 eyy1
    have Ey1 : xy1 = zi y1 := exy1.trans ((zrf).trans (congrArg zi eyy1.symm))
    have Iy1 : ir y1 := by rw [eyy1]; exact (hJ _ _)
    clear exy1
    obtain ⟨g2, hv⟩ := hv
    refine ⟨zvp (rfl : zi a1 = zi a1) ia1 g2.1 g2.2, ?_⟩
    intro xy3 exy3
    obtain ⟨y3, eyy3⟩ : ∃ q9 : Int, q9 = (J (o + 15) a1.toNat) := ⟨_, rfl⟩
    have hv := hv y3 eyy3
    have Ey3 : xy3 = zi y3 := exy3.trans (((zrd (rfl : zi a1 = zi a1) ia1 g2.1)).trans (congrArg zi eyy3.symm))
    have Iy3 : ir y3 := by rw [eyy3]; exact (hJ _ _)
    clear exy3
    obtain ⟨g4, hv⟩ := hv
    refine ⟨zvp Ey3 Iy3 g4.1 g4.2, ?_⟩
    intro xy5 exy5
    obtain ⟨y5, eyy5⟩ : ∃ q9 : Int, q9 = (J (o + 14) y3.toNat) := ⟨_, rfl⟩
    have hv := hv y5 eyy5
    have Ey5 : xy5 = zi y5 := exy5.trans (((zrd Ey3 Iy3 g4.1)).trans (congrArg zi eyy5.symm))
    have Iy5 : ir y5 := by rw [eyy5]; exact (hJ _ _)
    clear exy5
    obtain ⟨g6, hv⟩ := hv
    refine ⟨zvp Ey1 Iy1 g6.1 g6.2, ?_⟩
    intro I1 eI1
    obtain ⟨J7, eJ7⟩ : ∃ q9 : mJ, q9 = up2 J (o + 1) y1.toNat a1 := ⟨_, rfl⟩
    have eI1 : I1 = zz J7 := by rw [eI1, eJ7]; exact zupa Ey1 Iy1 g6.1 (rfl : zi a1 = zi a1)
    subst eI1
    have hv := hv J7 eJ7
    have hJ : irm J7 := by rw [eJ7]; exact irm_up hJ ia1
    obtain ⟨g8, hv⟩ := hv
    refine ⟨zvp Ey1 Iy1 g8.1 g8.2, ?_⟩
    intro I1 eI1
    obtain ⟨J9, eJ9⟩ : ∃ q9 : mJ, q9 = up2 J7 (o + 2) y1.toNat y3 := ⟨_, rfl⟩
    have eI1 : I1 = zz J9 := by rw [eI1, eJ9]; exact zupa Ey1 Iy1 g8.1 Ey3
    subst eI1
    have hv := hv J9 eJ9
    have hJ : irm J9 := by rw [eJ9]; exact irm_up hJ Iy3
    obtain ⟨g10, hv⟩ := hv
    refine ⟨zvp Ey1 Iy1 g10.1 g10.2, ?_⟩
    intro I1 eI1
    obtain ⟨J11, eJ11⟩ : ∃ q9 : mJ, q9 = up2 J9 (o + 3) y1.toNat a2 := ⟨_, rfl⟩
    have eI1 : I1 = zz J11 := by rw [eI1, eJ11]; exact zupa Ey1 Iy1 g10.1 (rfl : zi a2 = zi a2)
    subst eI1
    have hv := hv J11 eJ11
    have hJ : irm J11 := by rw [eJ11]; exact irm_up hJ ia2
    refine vw_X3_shoeAt hJ (rfl : zi a1 = zi a1) ia1 (rfl : zi a2 = zi a2) ia2 (fun xr12 r12 Er12 Ir12 hv => ?_) hv
    obtain ⟨g13, hv⟩ := hv
    refine ⟨zvp Ey1 Iy1 g13.1 g13.2, ?_⟩
    intro I1 eI1
    obtain ⟨J14, eJ14⟩ : ∃ q9 : mJ, q9 = up2 J11 (o + 4) y1.toNat r12 := ⟨_, rfl⟩
    have eI1 : I1 = zz J14 := by rw [eI1, eJ14]; exact zupa Ey1 Iy1 g13.1 Er12
    subst eI1
    have hv := hv J14 eJ14
    have hJ : irm J14 := by rw [eJ14]; exact irm_up hJ Ir12
    obtain ⟨g15, hv⟩ := hv
    refine ⟨zvp Ey1 Iy1 g15.1 g15.2, ?_⟩
    refine vw_X3_loudOf hJ (rfl : zi a1 = zi a1) ia1 Ey3 Iy3 (zrd Ey1 Iy1 g15.1) (hJ _ _) (fun xr16 r16 Er16 Ir16 hv => ?_) hv
    obtain ⟨g17, hv⟩ := hv
    refine ⟨zvp Ey1 Iy1 g17.1 g17.2, ?_⟩
    intro I1 eI1
    obtain ⟨J18, eJ18⟩ : ∃ q9 : mJ, q9 = up2 J14 (o + 5) y1.toNat r16 := ⟨_, rfl⟩
    have eI1 : I1 = zz J18 := by rw [eI1, eJ18]; exact zupa Ey1 Iy1 g17.1 Er16
    subst eI1
    have hv := hv J18 eJ18
    have hJ : irm J18 := by rw [eJ18]; exact irm_up hJ Ir16
    refine ⟨fun cq => ?_, fun cq => ?_⟩
    · have hv := hv.1 ((zeq Ey5 (by decide : ((-1) : Int32) = zi (-1)) Iy5 (by decide : ir (-1))).mp cq)
      exact vw_X2_addTread_127 ia1 ia2 hp hJ Ey1 Iy1 Ey3 Iy3 Ey5 Iy5 Ey1 Iy1 hv
    · have hv := hv.2 (fun q => cq ((zeq Ey5 (by decide : ((-1) : Int32) = zi (-1)) Iy5 (by decide : ir (-1))).mpr q))
      obtain ⟨g19, hv⟩ := hv
      refine ⟨zvp Ey5 Iy5 g19.1 g19.2, ?_⟩
      obtain ⟨g20, hv⟩ := hv
      refine ⟨fun cq => ?_, fun cq => ?_⟩
      · have hv := hv.1 ((zlt zrf (zs (rfl : zi a2 = zi a2) (zrd Ey5 Iy5 g19.1)) (hJ _ _) g20).mp cq)
        exact vw_X2_addTread_127 ia1 ia2 hp hJ Ey1 Iy1 Ey3 Iy3 Ey5 Iy5 Ey1 Iy1 hv
      · have hv := hv.2 (fun q => cq ((zlt zrf (zs (rfl : zi a2 = zi a2) (zrd Ey5 Iy5 g19.1)) (hJ _ _) g20).mpr q))
        exact vw_X2_addTread_128 ia1 ia2 hp hJ Ey1 Iy1 Ey3 Iy3 Ey5 Iy5 Ey1 Iy1 Ey5 Iy5 hv
  · have hv := hv.2 (fun q => cq ((zlt zrf (by decide : (600 : Int32) = zi 600) (hJ _ _) (by decide : ir 600)).mpr q))
    exact hp _ hJ hv
def v_X2_walkAll_77 (o : Nat) (oh : Nat) (post' : mJ → Prop) (k51' : mJ → Int → Int → Prop) (J : mJ) (v1 : Int) (v2 : Int) : Prop := ir (v2 * 100) ∧ ir ((v2 * 100) + v1) ∧ (0 ≤ v2 ∧ v2 < 6) ∧ (0 ≤ ((v2 * 100) + v1) ∧ ((v2 * 100) + v1) < 600) ∧ ∀ J16, J16 = up2 J (o + 13) (((v2 * 100) + v1).toNat) (J (o + 15) v2.toNat) → ir (v2 + 1) ∧ ∀ y18, y18 = v2 + 1 → k51' J16 v1 y18
theorem vw_X2_walkAll_77 {o : Nat} {oh : Nat}   {post : mI → Prop} {post' : mJ → Prop} {k51' : mJ → Int → Int → Prop} {k51 : mI → Int32 → Int32 → Prop} (hp : ∀ (J1 : mJ), irm J1 → post' J1 → post (zz J1)) (hk51 : ∀ (J : mJ) (xv1 : Int32) (v1 : Int) (xv2 : Int32) (v2 : Int), irm J → xv1 = zi v1 → ir v1 → xv2 = zi v2 → ir v2 → k51' J v1 v2 → k51 (zz J) xv1 xv2) {J : mJ} {xv1 : Int32} {v1 : Int} {xv2 : Int32} {v2 : Int} (hJ : irm J) (ev1 : xv1 = zi v1) (iv1 : ir v1) (ev2 : xv2 = zi v2) (iv2 : ir v2) (hv : v_X2_walkAll_77 o oh post' k51' J v1 v2) : w_X2_walkAll_77 o oh post k51 (zz J) xv1 xv2 := by
  subst ev1
  subst ev2
  unfold v_X2_walkAll_77 at hv
  unfold w_X2_walkAll_77
  obtain ⟨g12, hv⟩ := hv
  obtain ⟨g13, hv⟩ := hv
  obtain ⟨g14, hv⟩ := hv
  refine ⟨zvp (rfl : zi v2 = zi v2) iv2 g14.1 g14.2, ?_⟩
  obtain ⟨g15, hv⟩ := hv
  refine ⟨zvp (za (zm (rfl : zi v2 = zi v2) (by decide : (100 : Int32) = zi 100)) (rfl : zi v1 = zi v1)) g13 g15.1 g15.2, ?_⟩
  intro I1 eI1
  obtain ⟨J16, eJ16⟩ : ∃ q9 : mJ, q9 = up2 J (o + 13) (((v2 * 100) + v1).toNat) (J (o + 15) v2.toNat) := ⟨_, rfl⟩
  have eI1 : I1 = zz J16 := by rw [eI1, eJ16]; exact zupa (za (zm (rfl : zi v2 = zi v2) (by decide : (100 : Int32) = zi 100)) (rfl : zi v1 = zi v1)) g13 g15.1 (zrd (rfl : zi v2 = zi v2) iv2 g14.1)
  subst eI1
  have hv := hv J16 eJ16
  have hJ : irm J16 := by rw [eJ16]; exact irm_up hJ (hJ _ _)
  obtain ⟨g17, hv⟩ := hv
  intro xy18 exy18
  obtain ⟨y18, eyy18⟩ : ∃ q9 : Int, q9 = v2 + 1 := ⟨_, rfl⟩
  have hv := hv y18 eyy18
  have Ey18 : xy18 = zi y18 := exy18.trans (((za (rfl : zi v2 = zi v2) (by decide : (1 : Int32) = zi 1))).trans (congrArg zi eyy18.symm))
  have Iy18 : ir y18 := by rw [eyy18]; exact g17
  clear exy18
  exact hk51 _ _ _ _ _ hJ (rfl : zi v1 = zi v1) iv1 Ey18 Iy18 hv
def v_X2_walkAll_51 (o : Nat) (oh : Nat) (post' : mJ → Prop) (k43' : mJ → Int → Prop) (J : mJ) (v1 : Int) (v2 : Int) : Prop := ∀ ZZ : (mJ → Int → Int → Prop), (∀ (J : mJ) (v1 : Int) (v2 : Int), (((J oh 3) ≤ v2 → ir (v1 + 1) ∧ ∀ y8, y8 = v1 + 1 → k43' J y8) ∧ (¬ (J oh 3) ≤ v2 → v_X2_goes J o oh v2 v1 (fun b9 J10 => (b9 = false → (v_X2_walkAll_77 o oh post' ZZ) J10 v1 v2) ∧ (b9 = true → v_X2_addTread J10 o oh v2 v1 (fun J11 => (v_X2_walkAll_77 o oh post' ZZ) J11 v1 v2))))) → ZZ J v1 v2) → ZZ J v1 v2
theorem vw_X2_walkAll_51 {o : Nat} {oh : Nat}   {post : mI → Prop} {post' : mJ → Prop} {k43' : mJ → Int → Prop} {k43 : mI → Int32 → Prop} (hp : ∀ (J1 : mJ), irm J1 → post' J1 → post (zz J1)) (hk43 : ∀ (J : mJ) (xv1 : Int32) (v1 : Int), irm J → xv1 = zi v1 → ir v1 → k43' J v1 → k43 (zz J) xv1) {J : mJ} {xv1 : Int32} {v1 : Int} {xv2 : Int32} {v2 : Int} (hJ : irm J) (ev1 : xv1 = zi v1) (iv1 : ir v1) (ev2 : xv2 = zi v2) (iv2 : ir v2) (hv : v_X2_walkAll_51 o oh post' k43' J v1 v2) : w_X2_walkAll_51 o oh post k43 (zz J) xv1 xv2 := by
  subst ev1
  subst ev2
  unfold v_X2_walkAll_51 at hv
  unfold w_X2_walkAll_51
  intro ZZ hZ
  refine hv (fun J v1 v2 => ∀ (xv1 : Int32) (xv2 : Int32), irm J → xv1 = zi v1 → ir v1 → xv2 = zi v2 → ir v2 → ZZ (zz J) xv1 xv2) ?_ _ _ hJ rfl iv1 rfl iv2
  clear hv hJ iv1 iv2
  intro J v1 v2 hv xv1 xv2 hJ ev1 iv1 ev2 iv2
  subst ev1
  subst ev2
  refine hZ _ _ _ ?_
  refine ⟨fun cq => ?_, fun cq => ?_⟩
  · have hv := hv.1 ((zle zrf (rfl : zi v2 = zi v2) (hJ _ _) iv2).mp cq)
    obtain ⟨g7, hv⟩ := hv
    intro xy8 exy8
    obtain ⟨y8, eyy8⟩ : ∃ q9 : Int, q9 = v1 + 1 := ⟨_, rfl⟩
    have hv := hv y8 eyy8
    have Ey8 : xy8 = zi y8 := exy8.trans (((za (rfl : zi v1 = zi v1) (by decide : (1 : Int32) = zi 1))).trans (congrArg zi eyy8.symm))
    have Iy8 : ir y8 := by rw [eyy8]; exact g7
    clear exy8
    exact hk43 _ _ _ hJ Ey8 Iy8 hv
  · have hv := hv.2 (fun q => cq ((zle zrf (rfl : zi v2 = zi v2) (hJ _ _) iv2).mpr q))
    refine vw_X2_goes hJ (rfl : zi v2 = zi v2) iv2 (rfl : zi v1 = zi v1) iv1 (fun b9 J10 hJ hv => ?_) hv
    refine ⟨fun cq => ?_, fun cq => ?_⟩
    · have hv := hv.1 cq
      refine vw_X2_walkAll_77  hp ?_ hJ (rfl : zi v1 = zi v1) iv1 (rfl : zi v2 = zi v2) iv2 hv
      · intro qq xx vv xx vv hJ ev1 iv1 ev2 iv2 hv
        exact hv _ _ hJ ev1 iv1 ev2 iv2
    · have hv := hv.2 cq
      refine vw_X2_addTread hJ (rfl : zi v2 = zi v2) iv2 (rfl : zi v1 = zi v1) iv1 (fun J11 hJ hv => ?_) hv
      refine vw_X2_walkAll_77  hp ?_ hJ (rfl : zi v1 = zi v1) iv1 (rfl : zi v2 = zi v2) iv2 hv
      · intro qq xx vv xx vv hJ ev1 iv1 ev2 iv2 hv
        exact hv _ _ hJ ev1 iv1 ev2 iv2
def v_X2_walkAll_43 (o : Nat) (oh : Nat) (post' : mJ → Prop) (k106' : mJ → Prop) (J : mJ) (v1 : Int) : Prop := ∀ ZZ : (mJ → Int → Prop), (∀ (J : mJ) (v1 : Int), ((100 ≤ v1 → k106' J) ∧ (¬ 100 ≤ v1 → (v_X2_walkAll_51 o oh post' ZZ) J v1 0)) → ZZ J v1) → ZZ J v1
theorem vw_X2_walkAll_43 {o : Nat} {oh : Nat}   {post : mI → Prop} {post' : mJ → Prop} {k106' : mJ → Prop} {k106 : mI → Prop} (hp : ∀ (J1 : mJ), irm J1 → post' J1 → post (zz J1)) (hk106 : ∀ (J : mJ), irm J → k106' J → k106 (zz J)) {J : mJ} {xv1 : Int32} {v1 : Int} (hJ : irm J) (ev1 : xv1 = zi v1) (iv1 : ir v1) (hv : v_X2_walkAll_43 o oh post' k106' J v1) : w_X2_walkAll_43 o oh post k106 (zz J) xv1 := by
  subst ev1
  unfold v_X2_walkAll_43 at hv
  unfold w_X2_walkAll_43
  intro ZZ hZ
  refine hv (fun J v1 => ∀ (xv1 : Int32), irm J → xv1 = zi v1 → ir v1 → ZZ (zz J) xv1) ?_ _ hJ rfl iv1
  clear hv hJ iv1
  intro J v1 hv xv1 hJ ev1 iv1
  subst ev1
  refine hZ _ _ ?_
  refine ⟨fun cq => ?_, fun cq => ?_⟩
  · have hv := hv.1 ((zle (by decide : (100 : Int32) = zi 100) (rfl : zi v1 = zi v1) (by decide : ir 100) iv1).mp cq)
    exact hk106 _ hJ hv
  · have hv := hv.2 (fun q => cq ((zle (by decide : (100 : Int32) = zi 100) (rfl : zi v1 = zi v1) (by decide : ir 100) iv1).mpr q))
    refine vw_X2_walkAll_51  hp ?_ hJ (rfl : zi v1 = zi v1) iv1 (by decide : (0 : Int32) = zi 0) (by decide : ir 0) hv
    · intro qq xx vv hJ ev1 iv1 hv
      exact hv _ hJ ev1 iv1
def v_X2_walkAll_106 (o : Nat) (oh : Nat) (post' : mJ → Prop) (J : mJ) : Prop := ∀ J19, J19 = up2 J o 1 1 → post' J19
theorem vw_X2_walkAll_106 {o : Nat} {oh : Nat}   {post : mI → Prop} {post' : mJ → Prop} (hp : ∀ (J1 : mJ), irm J1 → post' J1 → post (zz J1)) {J : mJ} (hJ : irm J) (hv : v_X2_walkAll_106 o oh post' J) : w_X2_walkAll_106 o oh post (zz J) := by
  unfold v_X2_walkAll_106 at hv
  unfold w_X2_walkAll_106
  intro I1 eI1
  obtain ⟨J19, eJ19⟩ : ∃ q9 : mJ, q9 = up2 J o 1 1 := ⟨_, rfl⟩
  have eI1 : I1 = zz J19 := by rw [eI1, eJ19]; exact zup (by decide : (1 : Int32) = zi 1)
  subst eI1
  have hv := hv J19 eJ19
  have hJ : irm J19 := by rw [eJ19]; exact irm_up hJ (by decide : ir 1)
  exact hp _ hJ hv
def v_X2_walkAll (J : mJ) (o : Nat) (oh : Nat) (post' : mJ → Prop) : Prop := ∀ J1, J1 = up2 J o 2 0 → v_J7_fill_53178 J1 (o + 10) 6 (-1) (fun J2 => v_J7_fill_53178 J2 (o + 14) 24 (-1) (fun J3 => v_J7_fill_53178 J3 (o + 15) 6 (-1) (fun J4 => v_J7_fill_53178 J4 (o + 16) 6 0 (fun J5 => v_X2_listen J5 o oh (fun J6 => (v_X2_walkAll_43 o oh post' (v_X2_walkAll_106 o oh post')) J6 0)))))
theorem vw_X2_walkAll {J : mJ} {o : Nat} {oh : Nat} (hJ : irm J)    {post : mI → Prop} {post' : mJ → Prop} (hp : ∀ (J1 : mJ), irm J1 → post' J1 → post (zz J1)) (hv : v_X2_walkAll J o oh post') : w_X2_walkAll (zz J) o oh post := by
  unfold v_X2_walkAll at hv
  unfold w_X2_walkAll
  intro I1 eI1
  obtain ⟨J1, eJ1⟩ : ∃ q9 : mJ, q9 = up2 J o 2 0 := ⟨_, rfl⟩
  have eI1 : I1 = zz J1 := by rw [eI1, eJ1]; exact zup (by decide : (0 : Int32) = zi 0)
  subst eI1
  have hv := hv J1 eJ1
  have hJ : irm J1 := by rw [eJ1]; exact irm_up hJ (by decide : ir 0)
  refine vw_J7_fill_53178 hJ (by decide : ((-1) : Int32) = zi (-1)) (by decide : ir (-1)) (fun J2 hJ hv => ?_) hv
  refine vw_J7_fill_53178 hJ (by decide : ((-1) : Int32) = zi (-1)) (by decide : ir (-1)) (fun J3 hJ hv => ?_) hv
  refine vw_J7_fill_53178 hJ (by decide : ((-1) : Int32) = zi (-1)) (by decide : ir (-1)) (fun J4 hJ hv => ?_) hv
  refine vw_J7_fill_53178 hJ (by decide : (0 : Int32) = zi 0) (by decide : ir 0) (fun J5 hJ hv => ?_) hv
  refine vw_X2_listen hJ  (fun J6 hJ hv => ?_) hv
  refine vw_X2_walkAll_43  hp ?_ hJ (by decide : (0 : Int32) = zi 0) (by decide : ir 0) hv
  · intro qq hJ hv
    exact vw_X2_walkAll_106  hp hJ hv
def v_X2_spotAt (J : mJ) (o : Nat) (oh : Nat) (a1 : Int) (a2 : Int) (post' : Int → Prop) : Prop := ir (a1 * 100) ∧ ir ((a1 * 100) + a2) ∧ v_X11_pick J (o + 13) 600 ((a1 * 100) + a2) 600 (-1) (fun r3 => post' r3)
theorem vw_X2_spotAt {J : mJ} {o : Nat} {oh : Nat} {xa1 : Int32} {a1 : Int} {xa2 : Int32} {a2 : Int} (hJ : irm J)    (ea1 : xa1 = zi a1) (ia1 : ir a1) (ea2 : xa2 = zi a2) (ia2 : ir a2) {post : Int32 → Prop} {post' : Int → Prop} (hp : ∀ (x : Int32) (r : Int), x = zi r → ir r → post' r → post x) (hv : v_X2_spotAt J o oh a1 a2 post') : w_X2_spotAt (zz J) o oh xa1 xa2 post := by
  subst ea1
  subst ea2
  unfold v_X2_spotAt at hv
  unfold w_X2_spotAt
  obtain ⟨g1, hv⟩ := hv
  obtain ⟨g2, hv⟩ := hv
  refine vw_X11_pick hJ (za (zm (rfl : zi a1 = zi a1) (by decide : (100 : Int32) = zi 100)) (rfl : zi a2 = zi a2)) g2 (z_len (N := 600)) (by decide : ir (600 : Int)) (by decide : ((-1) : Int32) = zi (-1)) (by decide : ir (-1)) (fun xr3 r3 Er3 Ir3 hv => ?_) hv
  exact hp _ _ Er3 Ir3 hv
def v_X2_notedBy (J : mJ) (o : Nat) (oh : Nat) (a1 : Int) (post' : Int → Prop) : Prop := (0 ≤ a1 ∧ a1 < 600) ∧ (0 ≤ a1 ∧ a1 < 600) ∧ post' (orZ (J (o + 7) a1.toNat) (J (o + 8) a1.toNat))
theorem vw_X2_notedBy {J : mJ} {o : Nat} {oh : Nat} {xa1 : Int32} {a1 : Int} (hJ : irm J)    (ea1 : xa1 = zi a1) (ia1 : ir a1) {post : Int32 → Prop} {post' : Int → Prop} (hp : ∀ (x : Int32) (r : Int), x = zi r → ir r → post' r → post x) (hv : v_X2_notedBy J o oh a1 post') : w_X2_notedBy (zz J) o oh xa1 post := by
  subst ea1
  unfold v_X2_notedBy at hv
  unfold w_X2_notedBy
  obtain ⟨g1, hv⟩ := hv
  refine ⟨zvp (rfl : zi a1 = zi a1) ia1 g1.1 g1.2, ?_⟩
  obtain ⟨g2, hv⟩ := hv
  refine ⟨zvp (rfl : zi a1 = zi a1) ia1 g2.1 g2.2, ?_⟩
  exact hp _ _ (z_or (zrd (rfl : zi a1 = zi a1) ia1 g1.1) (zrd (rfl : zi a1 = zi a1) ia1 g2.1)) (ir_toInt _) hv
def v_X2_noteCount_4 (J : mJ) (o : Nat) (oh : Nat) (a1 : Int) (post' : Int → Prop) (v2 : Int) (v3 : Int) : Prop := ∀ ZZ : (Int → Int → Prop), (∀ (v2 : Int) (v3 : Int), (((J o 2) ≤ v3 → post' v2) ∧ (¬ (J o 2) ≤ v3 → v_X2_notedBy J o oh v3 (fun r1 => v_X11_has r1 a1 (fun b2 => (b2 = false → ir (v3 + 1) ∧ ∀ y4, y4 = v3 + 1 → ZZ v2 y4) ∧ (b2 = true → ir (v2 + 1) ∧ ∀ y6, y6 = v2 + 1 → ir (v3 + 1) ∧ ∀ y8, y8 = v3 + 1 → ZZ y6 y8))))) → ZZ v2 v3) → ZZ v2 v3
theorem vw_X2_noteCount_4 {J : mJ} {o : Nat} {oh : Nat} {a1 : Int} (hJ : irm J) (ia1 : ir a1) {post : Int32 → Prop} {post' : Int → Prop} (hp : ∀ (x : Int32) (r : Int), x = zi r → ir r → post' r → post x) {xv2 : Int32} {v2 : Int} {xv3 : Int32} {v3 : Int} (ev2 : xv2 = zi v2) (iv2 : ir v2) (ev3 : xv3 = zi v3) (iv3 : ir v3) (hv : v_X2_noteCount_4 J o oh a1 post' v2 v3) : w_X2_noteCount_4 (zz J) o oh (zi a1) post xv2 xv3 := by
  subst ev2
  subst ev3
  unfold v_X2_noteCount_4 at hv
  unfold w_X2_noteCount_4
  intro ZZ hZ
  refine hv (fun v2 v3 => ∀ (xv2 : Int32) (xv3 : Int32), xv2 = zi v2 → ir v2 → xv3 = zi v3 → ir v3 → ZZ xv2 xv3) ?_ _ _ rfl iv2 rfl iv3
  clear hv iv2 iv3
  intro v2 v3 hv xv2 xv3 ev2 iv2 ev3 iv3
  subst ev2
  subst ev3
  refine hZ _ _ ?_
  refine ⟨fun cq => ?_, fun cq => ?_⟩
  · have hv := hv.1 ((zle zrf (rfl : zi v3 = zi v3) (hJ _ _) iv3).mp cq)
    exact hp _ _ (rfl : zi v2 = zi v2) iv2 hv
  · have hv := hv.2 (fun q => cq ((zle zrf (rfl : zi v3 = zi v3) (hJ _ _) iv3).mpr q))
    refine vw_X2_notedBy hJ (rfl : zi v3 = zi v3) iv3 (fun xr1 r1 Er1 Ir1 hv => ?_) hv
    refine vw_X11_has Er1 Ir1 (rfl : zi a1 = zi a1) ia1 (fun b2  hv => ?_) hv
    refine ⟨fun cq => ?_, fun cq => ?_⟩
    · have hv := hv.1 cq
      obtain ⟨g3, hv⟩ := hv
      intro xy4 exy4
      obtain ⟨y4, eyy4⟩ : ∃ q9 : Int, q9 = v3 + 1 := ⟨_, rfl⟩
      have hv := hv y4 eyy4
      have Ey4 : xy4 = zi y4 := exy4.trans (((za (rfl : zi v3 = zi v3) (by decide : (1 : Int32) = zi 1))).trans (congrArg zi eyy4.symm))
      have Iy4 : ir y4 := by rw [eyy4]; exact g3
      clear exy4
      exact hv _ _ (rfl : zi v2 = zi v2) iv2 Ey4 Iy4
    · have hv := hv.2 cq
      obtain ⟨g5, hv⟩ := hv
      intro xy6 exy6
      obtain ⟨y6, eyy6⟩ : ∃ q9 : Int, q9 = v2 + 1 := ⟨_, rfl⟩
      have hv := hv y6 eyy6
      have Ey6 : xy6 = zi y6 := exy6.trans (((za (rfl : zi v2 = zi v2) (by decide : (1 : Int32) = zi 1))).trans (congrArg zi eyy6.symm))
      have Iy6 : ir y6 := by rw [eyy6]; exact g5
      clear exy6
      obtain ⟨g7, hv⟩ := hv
      intro xy8 exy8
      obtain ⟨y8, eyy8⟩ : ∃ q9 : Int, q9 = v3 + 1 := ⟨_, rfl⟩
      have hv := hv y8 eyy8
      have Ey8 : xy8 = zi y8 := exy8.trans (((za (rfl : zi v3 = zi v3) (by decide : (1 : Int32) = zi 1))).trans (congrArg zi eyy8.symm))
      have Iy8 : ir y8 := by rw [eyy8]; exact g7
      clear exy8
      exact hv _ _ Ey6 Iy6 Ey8 Iy8
def v_X2_noteCount (J : mJ) (o : Nat) (oh : Nat) (a1 : Int) (post' : Int → Prop) : Prop := (v_X2_noteCount_4 J o oh a1 post') 0 0
theorem vw_X2_noteCount {J : mJ} {o : Nat} {oh : Nat} {xa1 : Int32} {a1 : Int} (hJ : irm J)    (ea1 : xa1 = zi a1) (ia1 : ir a1) {post : Int32 → Prop} {post' : Int → Prop} (hp : ∀ (x : Int32) (r : Int), x = zi r → ir r → post' r → post x) (hv : v_X2_noteCount J o oh a1 post') : w_X2_noteCount (zz J) o oh xa1 post := by
  subst ea1
  unfold v_X2_noteCount at hv
  unfold w_X2_noteCount
  exact vw_X2_noteCount_4 hJ ia1 hp (by decide : (0 : Int32) = zi 0) (by decide : ir 0) (by decide : (0 : Int32) = zi 0) (by decide : ir 0) hv
def v_X2_isGhost (J : mJ) (o : Nat) (oh : Nat) (a1 : Int) (a2 : Int) (post' : Bool → Prop) : Prop := (0 ≤ a1 ∧ a1 < 600) ∧ v_X11_has (J (o + 8) a1.toNat) a2 (fun b2 => (b2 = false → post' false) ∧ (b2 = true → (0 ≤ a1 ∧ a1 < 600) ∧ ((J (o + 6) a1.toNat) = (-1) → post' false) ∧ (¬ (J (o + 6) a1.toNat) = (-1) → (0 ≤ a1 ∧ a1 < 600) ∧ (0 ≤ (J (o + 6) a1.toNat) ∧ (J (o + 6) a1.toNat) < 600) ∧ (0 ≤ (J (o + 1) (J (o + 6) a1.toNat).toNat) ∧ (J (o + 1) (J (o + 6) a1.toNat).toNat) < 6) ∧ (0 ≤ a1 ∧ a1 < 600) ∧ ((J (o + 3) a1.toNat) ≤ (J (o + 10) (J (o + 1) (J (o + 6) a1.toNat).toNat).toNat) → post' false) ∧ (¬ (J (o + 3) a1.toNat) ≤ (J (o + 10) (J (o + 1) (J (o + 6) a1.toNat).toNat).toNat) → post' true))))
theorem vw_X2_isGhost {J : mJ} {o : Nat} {oh : Nat} {xa1 : Int32} {a1 : Int} {xa2 : Int32} {a2 : Int} (hJ : irm J)    (ea1 : xa1 = zi a1) (ia1 : ir a1) (ea2 : xa2 = zi a2) (ia2 : ir a2) {post : Bool → Prop} {post' : Bool → Prop} (hp : ∀ (r : Bool), post' r → post r) (hv : v_X2_isGhost J o oh a1 a2 post') : w_X2_isGhost (zz J) o oh xa1 xa2 post := by
  subst ea1
  subst ea2
  unfold v_X2_isGhost at hv
  unfold w_X2_isGhost
  obtain ⟨g1, hv⟩ := hv
  refine ⟨zvp (rfl : zi a1 = zi a1) ia1 g1.1 g1.2, ?_⟩
  refine vw_X11_has (zrd (rfl : zi a1 = zi a1) ia1 g1.1) (hJ _ _) (rfl : zi a2 = zi a2) ia2 (fun b2  hv => ?_) hv
  refine ⟨fun cq => ?_, fun cq => ?_⟩
  · have hv := hv.1 cq
    exact hp _ hv
  · have hv := hv.2 cq
    obtain ⟨g3, hv⟩ := hv
    refine ⟨zvp (rfl : zi a1 = zi a1) ia1 g3.1 g3.2, ?_⟩
    refine ⟨fun cq => ?_, fun cq => ?_⟩
    · have hv := hv.1 ((zeq (zrd (rfl : zi a1 = zi a1) ia1 g3.1) (by decide : ((-1) : Int32) = zi (-1)) (hJ _ _) (by decide : ir (-1))).mp cq)
      exact hp _ hv
    · have hv := hv.2 (fun q => cq ((zeq (zrd (rfl : zi a1 = zi a1) ia1 g3.1) (by decide : ((-1) : Int32) = zi (-1)) (hJ _ _) (by decide : ir (-1))).mpr q))
      obtain ⟨g4, hv⟩ := hv
      refine ⟨zvp (rfl : zi a1 = zi a1) ia1 g4.1 g4.2, ?_⟩
      obtain ⟨g5, hv⟩ := hv
      refine ⟨zvp (zrd (rfl : zi a1 = zi a1) ia1 g4.1) (hJ _ _) g5.1 g5.2, ?_⟩
      obtain ⟨g6, hv⟩ := hv
      refine ⟨zvp (zrd (zrd (rfl : zi a1 = zi a1) ia1 g4.1) (hJ _ _) g5.1) (hJ _ _) g6.1 g6.2, ?_⟩
      obtain ⟨g7, hv⟩ := hv
      refine ⟨zvp (rfl : zi a1 = zi a1) ia1 g7.1 g7.2, ?_⟩
      refine ⟨fun cq => ?_, fun cq => ?_⟩
      · have hv := hv.1 ((zle (zrd (rfl : zi a1 = zi a1) ia1 g7.1) (zrd (zrd (zrd (rfl : zi a1 = zi a1) ia1 g4.1) (hJ _ _) g5.1) (hJ _ _) g6.1) (hJ _ _) (hJ _ _)).mp cq)
        exact hp _ hv
      · have hv := hv.2 (fun q => cq ((zle (zrd (rfl : zi a1 = zi a1) ia1 g7.1) (zrd (zrd (zrd (rfl : zi a1 = zi a1) ia1 g4.1) (hJ _ _) g5.1) (hJ _ _) g6.1) (hJ _ _) (hJ _ _)).mpr q))
        exact hp _ hv
def v_X2_ghostCount_4 (J : mJ) (o : Nat) (oh : Nat) (a1 : Int) (post' : Int → Prop) (v2 : Int) (v3 : Int) : Prop := ∀ ZZ : (Int → Int → Prop), (∀ (v2 : Int) (v3 : Int), (((J o 2) ≤ v3 → post' v2) ∧ (¬ (J o 2) ≤ v3 → v_X2_isGhost J o oh v3 a1 (fun b1 => (b1 = false → ir (v3 + 1) ∧ ∀ y3, y3 = v3 + 1 → ZZ v2 y3) ∧ (b1 = true → ir (v2 + 1) ∧ ∀ y5, y5 = v2 + 1 → ir (v3 + 1) ∧ ∀ y7, y7 = v3 + 1 → ZZ y5 y7)))) → ZZ v2 v3) → ZZ v2 v3
theorem vw_X2_ghostCount_4 {J : mJ} {o : Nat} {oh : Nat} {a1 : Int} (hJ : irm J) (ia1 : ir a1) {post : Int32 → Prop} {post' : Int → Prop} (hp : ∀ (x : Int32) (r : Int), x = zi r → ir r → post' r → post x) {xv2 : Int32} {v2 : Int} {xv3 : Int32} {v3 : Int} (ev2 : xv2 = zi v2) (iv2 : ir v2) (ev3 : xv3 = zi v3) (iv3 : ir v3) (hv : v_X2_ghostCount_4 J o oh a1 post' v2 v3) : w_X2_ghostCount_4 (zz J) o oh (zi a1) post xv2 xv3 := by
  subst ev2
  subst ev3
  unfold v_X2_ghostCount_4 at hv
  unfold w_X2_ghostCount_4
  intro ZZ hZ
  refine hv (fun v2 v3 => ∀ (xv2 : Int32) (xv3 : Int32), xv2 = zi v2 → ir v2 → xv3 = zi v3 → ir v3 → ZZ xv2 xv3) ?_ _ _ rfl iv2 rfl iv3
  clear hv iv2 iv3
  intro v2 v3 hv xv2 xv3 ev2 iv2 ev3 iv3
  subst ev2
  subst ev3
  refine hZ _ _ ?_
  refine ⟨fun cq => ?_, fun cq => ?_⟩
  · have hv := hv.1 ((zle zrf (rfl : zi v3 = zi v3) (hJ _ _) iv3).mp cq)
    exact hp _ _ (rfl : zi v2 = zi v2) iv2 hv
  · have hv := hv.2 (fun q => cq ((zle zrf (rfl : zi v3 = zi v3) (hJ _ _) iv3).mpr q))
    refine vw_X2_isGhost hJ (rfl : zi v3 = zi v3) iv3 (rfl : zi a1 = zi a1) ia1 (fun b1  hv => ?_) hv
    refine ⟨fun cq => ?_, fun cq => ?_⟩
    · have hv := hv.1 cq
      obtain ⟨g2, hv⟩ := hv
      intro xy3 exy3
      obtain ⟨y3, eyy3⟩ : ∃ q9 : Int, q9 = v3 + 1 := ⟨_, rfl⟩
      have hv := hv y3 eyy3
      have Ey3 : xy3 = zi y3 := exy3.trans (((za (rfl : zi v3 = zi v3) (by decide : (1 : Int32) = zi 1))).trans (congrArg zi eyy3.symm))
      have Iy3 : ir y3 := by rw [eyy3]; exact g2
      clear exy3
      exact hv _ _ (rfl : zi v2 = zi v2) iv2 Ey3 Iy3
    · have hv := hv.2 cq
      obtain ⟨g4, hv⟩ := hv
      intro xy5 exy5
      obtain ⟨y5, eyy5⟩ : ∃ q9 : Int, q9 = v2 + 1 := ⟨_, rfl⟩
      have hv := hv y5 eyy5
      have Ey5 : xy5 = zi y5 := exy5.trans (((za (rfl : zi v2 = zi v2) (by decide : (1 : Int32) = zi 1))).trans (congrArg zi eyy5.symm))
      have Iy5 : ir y5 := by rw [eyy5]; exact g4
      clear exy5
      obtain ⟨g6, hv⟩ := hv
      intro xy7 exy7
      obtain ⟨y7, eyy7⟩ : ∃ q9 : Int, q9 = v3 + 1 := ⟨_, rfl⟩
      have hv := hv y7 eyy7
      have Ey7 : xy7 = zi y7 := exy7.trans (((za (rfl : zi v3 = zi v3) (by decide : (1 : Int32) = zi 1))).trans (congrArg zi eyy7.symm))
      have Iy7 : ir y7 := by rw [eyy7]; exact g6
      clear exy7
      exact hv _ _ Ey5 Iy5 Ey7 Iy7
def v_X2_ghostCount (J : mJ) (o : Nat) (oh : Nat) (a1 : Int) (post' : Int → Prop) : Prop := (v_X2_ghostCount_4 J o oh a1 post') 0 0
theorem vw_X2_ghostCount {J : mJ} {o : Nat} {oh : Nat} {xa1 : Int32} {a1 : Int} (hJ : irm J)    (ea1 : xa1 = zi a1) (ia1 : ir a1) {post : Int32 → Prop} {post' : Int → Prop} (hp : ∀ (x : Int32) (r : Int), x = zi r → ir r → post' r → post x) (hv : v_X2_ghostCount J o oh a1 post') : w_X2_ghostCount (zz J) o oh xa1 post := by
  subst ea1
  unfold v_X2_ghostCount at hv
  unfold w_X2_ghostCount
  exact vw_X2_ghostCount_4 hJ ia1 hp (by decide : (0 : Int32) = zi 0) (by decide : ir 0) (by decide : (0 : Int32) = zi 0) (by decide : ir 0) hv
def v_X2_noteNumber_5 (J : mJ) (o : Nat) (oh : Nat) (a1 : Int) (a2 : Int) (post' : Int → Prop) (v3 : Int) (v4 : Int) : Prop := ∀ ZZ : (Int → Int → Prop), (∀ (v3 : Int) (v4 : Int), (((J o 2) ≤ v4 → post' (-1)) ∧ (¬ (J o 2) ≤ v4 → v_X2_notedBy J o oh v4 (fun r1 => v_X11_has r1 a1 (fun b2 => (b2 = false → ir (v4 + 1) ∧ ∀ y4, y4 = v4 + 1 → ZZ v3 y4) ∧ (b2 = true → (¬ v3 = a2 → ir (v3 + 1) ∧ ∀ y6, y6 = v3 + 1 → ir (v4 + 1) ∧ ∀ y8, y8 = v4 + 1 → ZZ y6 y8) ∧ (v3 = a2 → post' v4)))))) → ZZ v3 v4) → ZZ v3 v4
theorem vw_X2_noteNumber_5 {J : mJ} {o : Nat} {oh : Nat} {a1 : Int} {a2 : Int} (hJ : irm J) (ia1 : ir a1) (ia2 : ir a2) {post : Int32 → Prop} {post' : Int → Prop} (hp : ∀ (x : Int32) (r : Int), x = zi r → ir r → post' r → post x) {xv3 : Int32} {v3 : Int} {xv4 : Int32} {v4 : Int} (ev3 : xv3 = zi v3) (iv3 : ir v3) (ev4 : xv4 = zi v4) (iv4 : ir v4) (hv : v_X2_noteNumber_5 J o oh a1 a2 post' v3 v4) : w_X2_noteNumber_5 (zz J) o oh (zi a1) (zi a2) post xv3 xv4 := by
  subst ev3
  subst ev4
  unfold v_X2_noteNumber_5 at hv
  unfold w_X2_noteNumber_5
  intro ZZ hZ
  refine hv (fun v3 v4 => ∀ (xv3 : Int32) (xv4 : Int32), xv3 = zi v3 → ir v3 → xv4 = zi v4 → ir v4 → ZZ xv3 xv4) ?_ _ _ rfl iv3 rfl iv4
  clear hv iv3 iv4
  intro v3 v4 hv xv3 xv4 ev3 iv3 ev4 iv4
  subst ev3
  subst ev4
  refine hZ _ _ ?_
  refine ⟨fun cq => ?_, fun cq => ?_⟩
  · have hv := hv.1 ((zle zrf (rfl : zi v4 = zi v4) (hJ _ _) iv4).mp cq)
    exact hp _ _ (by decide : ((-1) : Int32) = zi (-1)) (by decide : ir (-1)) hv
  · have hv := hv.2 (fun q => cq ((zle zrf (rfl : zi v4 = zi v4) (hJ _ _) iv4).mpr q))
    refine vw_X2_notedBy hJ (rfl : zi v4 = zi v4) iv4 (fun xr1 r1 Er1 Ir1 hv => ?_) hv
    refine vw_X11_has Er1 Ir1 (rfl : zi a1 = zi a1) ia1 (fun b2  hv => ?_) hv
    refine ⟨fun cq => ?_, fun cq => ?_⟩
    · have hv := hv.1 cq
      obtain ⟨g3, hv⟩ := hv
      intro xy4 exy4
      obtain ⟨y4, eyy4⟩ : ∃ q9 : Int, q9 = v4 + 1 := ⟨_, rfl⟩
      have hv := hv y4 eyy4
      have Ey4 : xy4 = zi y4 := exy4.trans (((za (rfl : zi v4 = zi v4) (by decide : (1 : Int32) = zi 1))).trans (congrArg zi eyy4.symm))
      have Iy4 : ir y4 := by rw [eyy4]; exact g3
      clear exy4
      exact hv _ _ (rfl : zi v3 = zi v3) iv3 Ey4 Iy4
    · have hv := hv.2 cq
      refine ⟨fun cq => ?_, fun cq => ?_⟩
      · have hv := hv.1 (fun q => cq ((zeq (rfl : zi v3 = zi v3) (rfl : zi a2 = zi a2) iv3 ia2).mpr q))
        obtain ⟨g5, hv⟩ := hv
        intro xy6 exy6
        obtain ⟨y6, eyy6⟩ : ∃ q9 : Int, q9 = v3 + 1 := ⟨_, rfl⟩
        have hv := hv y6 eyy6
        have Ey6 : xy6 = zi y6 := exy6.trans (((za (rfl : zi v3 = zi v3) (by decide : (1 : Int32) = zi 1))).trans (congrArg zi eyy6.symm))
        have Iy6 : ir y6 := by rw [eyy6]; exact g5
        clear exy6
        obtain ⟨g7, hv⟩ := hv
        intro xy8 exy8
        obtain ⟨y8, eyy8⟩ : ∃ q9 : Int, q9 = v4 + 1 := ⟨_, rfl⟩
        have hv := hv y8 eyy8
        have Ey8 : xy8 = zi y8 := exy8.trans (((za (rfl : zi v4 = zi v4) (by decide : (1 : Int32) = zi 1))).trans (congrArg zi eyy8.symm))
        have Iy8 : ir y8 := by rw [eyy8]; exact g7
        clear exy8
        exact hv _ _ Ey6 Iy6 Ey8 Iy8
      · have hv := hv.2 ((zeq (rfl : zi v3 = zi v3) (rfl : zi a2 = zi a2) iv3 ia2).mp cq)
        exact hp _ _ (rfl : zi v4 = zi v4) iv4 hv
def v_X2_noteNumber (J : mJ) (o : Nat) (oh : Nat) (a1 : Int) (a2 : Int) (post' : Int → Prop) : Prop := (v_X2_noteNumber_5 J o oh a1 a2 post') 0 0
theorem vw_X2_noteNumber {J : mJ} {o : Nat} {oh : Nat} {xa1 : Int32} {a1 : Int} {xa2 : Int32} {a2 : Int} (hJ : irm J)    (ea1 : xa1 = zi a1) (ia1 : ir a1) (ea2 : xa2 = zi a2) (ia2 : ir a2) {post : Int32 → Prop} {post' : Int → Prop} (hp : ∀ (x : Int32) (r : Int), x = zi r → ir r → post' r → post x) (hv : v_X2_noteNumber J o oh a1 a2 post') : w_X2_noteNumber (zz J) o oh xa1 xa2 post := by
  subst ea1
  subst ea2
  unfold v_X2_noteNumber at hv
  unfold w_X2_noteNumber
  exact vw_X2_noteNumber_5 hJ ia1 ia2 hp (by decide : (0 : Int32) = zi 0) (by decide : ir 0) (by decide : (0 : Int32) = zi 0) (by decide : ir 0) hv
