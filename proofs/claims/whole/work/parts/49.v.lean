def v_X12_ends__108 (o : Nat) (a1 : Int) (a2 : Int) (post' : Int → mJ → Prop) (k28' : mJ → Int → Int → Prop) (J : mJ) (v3 : Int) (v4 : Int) (s0 : Int) : Prop := (s0 = 0 → ∀ y10, y10 = (orZ v3 0) → ir (v4 + 1) ∧ ∀ y12, y12 = v4 + 1 → k28' J y10 y12) ∧ (¬ s0 = 0 → ∀ y13, y13 = (orZ v3 (shlZ 1 v4)) → ir (v4 + 1) ∧ ∀ y15, y15 = v4 + 1 → k28' J y13 y15)
theorem vw_X12_ends__108 {o : Nat} {a1 : Int} {a2 : Int}  (ia1 : ir a1) (ia2 : ir a2) {post : Int32 → mI → Prop} {post' : Int → mJ → Prop} {k28' : mJ → Int → Int → Prop} {k28 : mI → Int32 → Int32 → Prop} (hp : ∀ (x : Int32) (r : Int) (J1 : mJ), x = zi r → ir r → irm J1 → post' r J1 → post x (zz J1)) (hk28 : ∀ (J : mJ) (xv3 : Int32) (v3 : Int) (xv4 : Int32) (v4 : Int), irm J → xv3 = zi v3 → ir v3 → xv4 = zi v4 → ir v4 → k28' J v3 v4 → k28 (zz J) xv3 xv4) {J : mJ} {xv3 : Int32} {v3 : Int} {xv4 : Int32} {v4 : Int} {xs0 : Int32} {s0 : Int} (hJ : irm J) (ev3 : xv3 = zi v3) (iv3 : ir v3) (ev4 : xv4 = zi v4) (iv4 : ir v4) (es0 : xs0 = zi s0) (is0 : ir s0) (hv : v_X12_ends__108 o a1 a2 post' k28' J v3 v4 s0) : w_X12_ends__108 o (zi a1) (zi a2) post k28 (zz J) xv3 xv4 xs0 := by
  subst ev3
  subst ev4
  subst es0
  unfold v_X12_ends__108 at hv
  unfold w_X12_ends__108
  refine ⟨fun cq => ?_, fun cq => ?_⟩
  · have hv := hv.1 ((zeq (rfl : zi s0 = zi s0) (by decide : (0 : Int32) = zi 0) is0 (by decide : ir 0)).mp cq)
    intro xy10 exy10
    obtain ⟨y10, eyy10⟩ : ∃ q9 : Int, q9 = (orZ v3 0) := ⟨_, rfl⟩
    have hv := hv y10 eyy10
    have Ey10 : xy10 = zi y10 := exy10.trans (((z_or (rfl : zi v3 = zi v3) (by decide : (0 : Int32) = zi 0))).trans (congrArg zi eyy10.symm))
    have Iy10 : ir y10 := by rw [eyy10]; exact (ir_toInt _)
    clear exy10
    obtain ⟨g11, hv⟩ := hv
    intro xy12 exy12
    obtain ⟨y12, eyy12⟩ : ∃ q9 : Int, q9 = v4 + 1 := ⟨_, rfl⟩
    have hv := hv y12 eyy12
    have Ey12 : xy12 = zi y12 := exy12.trans (((za (rfl : zi v4 = zi v4) (by decide : (1 : Int32) = zi 1))).trans (congrArg zi eyy12.symm))
    have Iy12 : ir y12 := by rw [eyy12]; exact g11
    clear exy12
    exact hk28 _ _ _ _ _ hJ Ey10 Iy10 Ey12 Iy12 hv
  · have hv := hv.2 (fun q => cq ((zeq (rfl : zi s0 = zi s0) (by decide : (0 : Int32) = zi 0) is0 (by decide : ir 0)).mpr q))
    intro xy13 exy13
    obtain ⟨y13, eyy13⟩ : ∃ q9 : Int, q9 = (orZ v3 (shlZ 1 v4)) := ⟨_, rfl⟩
    have hv := hv y13 eyy13
    have Ey13 : xy13 = zi y13 := exy13.trans (((z_or (rfl : zi v3 = zi v3) (z_shl (by decide : (1 : Int32) = zi 1) (rfl : zi v4 = zi v4)))).trans (congrArg zi eyy13.symm))
    have Iy13 : ir y13 := by rw [eyy13]; exact (ir_toInt _)
    clear exy13
    obtain ⟨g14, hv⟩ := hv
    intro xy15 exy15
    obtain ⟨y15, eyy15⟩ : ∃ q9 : Int, q9 = v4 + 1 := ⟨_, rfl⟩
    have hv := hv y15 eyy15
    have Ey15 : xy15 = zi y15 := exy15.trans (((za (rfl : zi v4 = zi v4) (by decide : (1 : Int32) = zi 1))).trans (congrArg zi eyy15.symm))
    have Iy15 : ir y15 := by rw [eyy15]; exact g14
    clear exy15
    exact hk28 _ _ _ _ _ hJ Ey13 Iy13 Ey15 Iy15 hv
def v_X12_ends__28 (o : Nat) (a1 : Int) (a2 : Int) (post' : Int → mJ → Prop) (J : mJ) (v3 : Int) (v4 : Int) : Prop := ∀ ZZ : (mJ → Int → Int → Prop), (∀ (J : mJ) (v3 : Int) (v4 : Int), (v_X12_people J o (fun r5 => (r5 ≤ v4 → post' v3 J) ∧ (¬ r5 ≤ v4 → v_X12_goalsEnd J o v4 (fun r6 => (¬ a2 = 0 → (¬ a2 = 1 → v_X12_heardOf J o v4 (fun r7 => (¬ r7 = 0 → (v_X12_ends__108 o a1 a2 post' ZZ) J v3 v4 0) ∧ (r7 = 0 → (v_X12_ends__108 o a1 a2 post' ZZ) J v3 v4 1))) ∧ (a2 = 1 → v_X12_told J o v4 4 (fun r8 => (r8 ≤ r6 → (v_X12_ends__108 o a1 a2 post' ZZ) J v3 v4 0) ∧ (¬ r8 ≤ r6 → (v_X12_ends__108 o a1 a2 post' ZZ) J v3 v4 1)))) ∧ (a2 = 0 → v_X12_told J o v4 4 (fun r9 => (r6 ≤ r9 → (v_X12_ends__108 o a1 a2 post' ZZ) J v3 v4 0) ∧ (¬ r6 ≤ r9 → (v_X12_ends__108 o a1 a2 post' ZZ) J v3 v4 1))))))) → ZZ J v3 v4) → ZZ J v3 v4
theorem vw_X12_ends__28 {o : Nat} {a1 : Int} {a2 : Int}  (ia1 : ir a1) (ia2 : ir a2) {post : Int32 → mI → Prop} {post' : Int → mJ → Prop} (hp : ∀ (x : Int32) (r : Int) (J1 : mJ), x = zi r → ir r → irm J1 → post' r J1 → post x (zz J1)) {J : mJ} {xv3 : Int32} {v3 : Int} {xv4 : Int32} {v4 : Int} (hJ : irm J) (ev3 : xv3 = zi v3) (iv3 : ir v3) (ev4 : xv4 = zi v4) (iv4 : ir v4) (hv : v_X12_ends__28 o a1 a2 post' J v3 v4) : w_X12_ends__28 o (zi a1) (zi a2) post (zz J) xv3 xv4 := by
  subst ev3
  subst ev4
  unfold v_X12_ends__28 at hv
  unfold w_X12_ends__28
  intro ZZ hZ
  refine hv (fun J v3 v4 => ∀ (xv3 : Int32) (xv4 : Int32), irm J → xv3 = zi v3 → ir v3 → xv4 = zi v4 → ir v4 → ZZ (zz J) xv3 xv4) ?_ _ _ hJ rfl iv3 rfl iv4
  clear hv hJ iv3 iv4
  intro J v3 v4 hv xv3 xv4 hJ ev3 iv3 ev4 iv4
  subst ev3
  subst ev4
  refine hZ _ _ _ ?_
  refine vw_X12_people hJ  (fun xr5 r5 Er5 Ir5 hv => ?_) hv
  refine ⟨fun cq => ?_, fun cq => ?_⟩
  · have hv := hv.1 ((zle Er5 (rfl : zi v4 = zi v4) Ir5 iv4).mp cq)
    exact hp _ _ _ (rfl : zi v3 = zi v3) iv3 hJ hv
  · have hv := hv.2 (fun q => cq ((zle Er5 (rfl : zi v4 = zi v4) Ir5 iv4).mpr q))
    refine vw_X12_goalsEnd hJ (rfl : zi v4 = zi v4) iv4 (fun xr6 r6 Er6 Ir6 hv => ?_) hv
    refine ⟨fun cq => ?_, fun cq => ?_⟩
    · have hv := hv.1 (fun q => cq ((zeq (rfl : zi a2 = zi a2) (by decide : (0 : Int32) = zi 0) ia2 (by decide : ir 0)).mpr q))
      refine ⟨fun cq => ?_, fun cq => ?_⟩
      · have hv := hv.1 (fun q => cq ((zeq (rfl : zi a2 = zi a2) (by decide : (1 : Int32) = zi 1) ia2 (by decide : ir 1)).mpr q))
        refine vw_X12_heardOf hJ (rfl : zi v4 = zi v4) iv4 (fun xr7 r7 Er7 Ir7 hv => ?_) hv
        refine ⟨fun cq => ?_, fun cq => ?_⟩
        · have hv := hv.1 (fun q => cq ((zeq Er7 (by decide : (0 : Int32) = zi 0) Ir7 (by decide : ir 0)).mpr q))
          refine vw_X12_ends__108 ia1 ia2 hp ?_ hJ (rfl : zi v3 = zi v3) iv3 (rfl : zi v4 = zi v4) iv4 (by decide : (0 : Int32) = zi 0) (by decide : ir 0) hv
          · intro qq xx vv xx vv hJ ev3 iv3 ev4 iv4 hv
            exact hv _ _ hJ ev3 iv3 ev4 iv4
        · have hv := hv.2 ((zeq Er7 (by decide : (0 : Int32) = zi 0) Ir7 (by decide : ir 0)).mp cq)
          refine vw_X12_ends__108 ia1 ia2 hp ?_ hJ (rfl : zi v3 = zi v3) iv3 (rfl : zi v4 = zi v4) iv4 (by decide : (1 : Int32) = zi 1) (by decide : ir 1) hv
          · intro qq xx vv xx vv hJ ev3 iv3 ev4 iv4 hv
            exact hv _ _ hJ ev3 iv3 ev4 iv4
      · have hv := hv.2 ((zeq (rfl : zi a2 = zi a2) (by decide : (1 : Int32) = zi 1) ia2 (by decide : ir 1)).mp cq)
        refine vw_X12_told hJ (rfl : zi v4 = zi v4) iv4 (by decide : (4 : Int32) = zi 4) (by decide : ir 4) (fun xr8 r8 Er8 Ir8 hv => ?_) hv
        refine ⟨fun cq => ?_, fun cq => ?_⟩
        · have hv := hv.1 ((zle Er8 Er6 Ir8 Ir6).mp cq)
          refine vw_X12_ends__108 ia1 ia2 hp ?_ hJ (rfl : zi v3 = zi v3) iv3 (rfl : zi v4 = zi v4) iv4 (by decide : (0 : Int32) = zi 0) (by decide : ir 0) hv
          · intro qq xx vv xx vv hJ ev3 iv3 ev4 iv4 hv
            exact hv _ _ hJ ev3 iv3 ev4 iv4
        · have hv := hv.2 (fun q => cq ((zle Er8 Er6 Ir8 Ir6).mpr q))
          refine vw_X12_ends__108 ia1 ia2 hp ?_ hJ (rfl : zi v3 = zi v3) iv3 (rfl : zi v4 = zi v4) iv4 (by decide : (1 : Int32) = zi 1) (by decide : ir 1) hv
          · intro qq xx vv xx vv hJ ev3 iv3 ev4 iv4 hv
            exact hv _ _ hJ ev3 iv3 ev4 iv4
    · have hv := hv.2 ((zeq (rfl : zi a2 = zi a2) (by decide : (0 : Int32) = zi 0) ia2 (by decide : ir 0)).mp cq)
      refine vw_X12_told hJ (rfl : zi v4 = zi v4) iv4 (by decide : (4 : Int32) = zi 4) (by decide : ir 4) (fun xr9 r9 Er9 Ir9 hv => ?_) hv
      refine ⟨fun cq => ?_, fun cq => ?_⟩
      · have hv := hv.1 ((zle Er6 Er9 Ir6 Ir9).mp cq)
        refine vw_X12_ends__108 ia1 ia2 hp ?_ hJ (rfl : zi v3 = zi v3) iv3 (rfl : zi v4 = zi v4) iv4 (by decide : (0 : Int32) = zi 0) (by decide : ir 0) hv
        · intro qq xx vv xx vv hJ ev3 iv3 ev4 iv4 hv
          exact hv _ _ hJ ev3 iv3 ev4 iv4
      · have hv := hv.2 (fun q => cq ((zle Er6 Er9 Ir6 Ir9).mpr q))
        refine vw_X12_ends__108 ia1 ia2 hp ?_ hJ (rfl : zi v3 = zi v3) iv3 (rfl : zi v4 = zi v4) iv4 (by decide : (1 : Int32) = zi 1) (by decide : ir 1) hv
        · intro qq xx vv xx vv hJ ev3 iv3 ev4 iv4 hv
          exact hv _ _ hJ ev3 iv3 ev4 iv4
def v_X12_ends_ (J : mJ) (o : Nat) (a1 : Int) (a2 : Int) (post' : Int → mJ → Prop) : Prop := v_X12_isHouse J o a1 (fun b1 J2 => (b1 = false → post' (-1) J2) ∧ (b1 = true → v_X12_isIn a2 0 2 (fun b3 => (b3 = true → v_X12_runs J2 o (fun J4 => (v_X12_ends__28 o a1 a2 post') J4 0 0)) ∧ (b3 = false → post' (-1) J2))))
theorem vw_X12_ends_ {J : mJ} {o : Nat} {xa1 : Int32} {a1 : Int} {xa2 : Int32} {a2 : Int} (hJ : irm J)   (ea1 : xa1 = zi a1) (ia1 : ir a1) (ea2 : xa2 = zi a2) (ia2 : ir a2) {post : Int32 → mI → Prop} {post' : Int → mJ → Prop} (hp : ∀ (x : Int32) (r : Int) (J1 : mJ), x = zi r → ir r → irm J1 → post' r J1 → post x (zz J1)) (hv : v_X12_ends_ J o a1 a2 post') : w_X12_ends_ (zz J) o xa1 xa2 post := by
  subst ea1
  subst ea2
  unfold v_X12_ends_ at hv
  unfold w_X12_ends_
  refine vw_X12_isHouse hJ (rfl : zi a1 = zi a1) ia1 (fun b1 J2 hJ hv => ?_) hv
  refine ⟨fun cq => ?_, fun cq => ?_⟩
  · have hv := hv.1 cq
    exact hp _ _ _ (by decide : ((-1) : Int32) = zi (-1)) (by decide : ir (-1)) hJ hv
  · have hv := hv.2 cq
    refine vw_X12_isIn (rfl : zi a2 = zi a2) ia2 (by decide : (0 : Int32) = zi 0) (by decide : ir 0) (by decide : (2 : Int32) = zi 2) (by decide : ir 2) (fun b3  hv => ?_) hv
    refine ⟨fun cq => ?_, fun cq => ?_⟩
    · have hv := hv.1 cq
      refine vw_X12_runs hJ  (fun J4 hJ hv => ?_) hv
      exact vw_X12_ends__28 ia1 ia2 hp hJ (by decide : (0 : Int32) = zi 0) (by decide : ir 0) (by decide : (0 : Int32) = zi 0) (by decide : ir 0) hv
    · have hv := hv.2 cq
      exact hp _ _ _ (by decide : ((-1) : Int32) = zi (-1)) (by decide : ir (-1)) hJ hv
def v_X12_costOf_103 (J : mJ) (o : Nat) (a1 : Int) (a2 : Int) (a3 : Int) (a4 : Int) (a5 : Int) (post' : Int → Prop) (k28' : Int → Int → Int → Int → Prop) (v6 : Int) (v8 : Int) (v9 : Int) (s0 : Int) : Prop := (¬ v8 = 0 → ir (v9 + 1) ∧ ∀ y11, y11 = v9 + 1 → k28' v6 s0 1 y11) ∧ (v8 = 0 → (0 ≤ v9 ∧ v9 < 640) ∧ (¬ (J (o + 6) v9.toNat) = a3 → ir (v9 + 1) ∧ ∀ y14, y14 = v9 + 1 → k28' v6 s0 0 y14) ∧ ((J (o + 6) v9.toNat) = a3 → ir (v9 + 1) ∧ ∀ y16, y16 = v9 + 1 → k28' v6 s0 1 y16))
theorem vw_X12_costOf_103 {J : mJ} {o : Nat} {a1 : Int} {a2 : Int} {a3 : Int} {a4 : Int} {a5 : Int} (hJ : irm J) (ia1 : ir a1) (ia2 : ir a2) (ia3 : ir a3) (ia4 : ir a4) (ia5 : ir a5) {post : Int32 → Prop} {post' : Int → Prop} {k28' : Int → Int → Int → Int → Prop} {k28 : Int32 → Int32 → Int32 → Int32 → Prop} (hp : ∀ (x : Int32) (r : Int), x = zi r → ir r → post' r → post x) (hk28 : ∀ (xv6 : Int32) (v6 : Int) (xv7 : Int32) (v7 : Int) (xv8 : Int32) (v8 : Int) (xv9 : Int32) (v9 : Int), xv6 = zi v6 → ir v6 → xv7 = zi v7 → ir v7 → xv8 = zi v8 → ir v8 → xv9 = zi v9 → ir v9 → k28' v6 v7 v8 v9 → k28 xv6 xv7 xv8 xv9) {xv6 : Int32} {v6 : Int} {xv8 : Int32} {v8 : Int} {xv9 : Int32} {v9 : Int} {xs0 : Int32} {s0 : Int} (ev6 : xv6 = zi v6) (iv6 : ir v6) (ev8 : xv8 = zi v8) (iv8 : ir v8) (ev9 : xv9 = zi v9) (iv9 : ir v9) (es0 : xs0 = zi s0) (is0 : ir s0) (hv : v_X12_costOf_103 J o a1 a2 a3 a4 a5 post' k28' v6 v8 v9 s0) : w_X12_costOf_103 (zz J) o (zi a1) (zi a2) (zi a3) (zi a4) (zi a5) post k28 xv6 xv8 xv9 xs0 := by
  subst ev6
  subst ev8
  subst ev9
  subst es0
  unfold v_X12_costOf_103 at hv
  unfold w_X12_costOf_103
  refine ⟨fun cq => ?_, fun cq => ?_⟩
  · have hv := hv.1 (fun q => cq ((zeq (rfl : zi v8 = zi v8) (by decide : (0 : Int32) = zi 0) iv8 (by decide : ir 0)).mpr q))
    obtain ⟨g10, hv⟩ := hv
    intro xy11 exy11
    obtain ⟨y11, eyy11⟩ : ∃ q9 : Int, q9 = v9 + 1 := ⟨_, rfl⟩
    have hv := hv y11 eyy11
    have Ey11 : xy11 = zi y11 := exy11.trans (((za (rfl : zi v9 = zi v9) (by decide : (1 : Int32) = zi 1))).trans (congrArg zi eyy11.symm))
    have Iy11 : ir y11 := by rw [eyy11]; exact g10
    clear exy11
    exact hk28 _ _ _ _ _ _ _ _ (rfl : zi v6 = zi v6) iv6 (rfl : zi s0 = zi s0) is0 (by decide : (1 : Int32) = zi 1) (by decide : ir 1) Ey11 Iy11 hv
  · have hv := hv.2 ((zeq (rfl : zi v8 = zi v8) (by decide : (0 : Int32) = zi 0) iv8 (by decide : ir 0)).mp cq)
    obtain ⟨g12, hv⟩ := hv
    refine ⟨zvp (rfl : zi v9 = zi v9) iv9 g12.1 g12.2, ?_⟩
    refine ⟨fun cq => ?_, fun cq => ?_⟩
    · have hv := hv.1 (fun q => cq ((zeq (zrd (rfl : zi v9 = zi v9) iv9 g12.1) (rfl : zi a3 = zi a3) (hJ _ _) ia3).mpr q))
      obtain ⟨g13, hv⟩ := hv
      intro xy14 exy14
      obtain ⟨y14, eyy14⟩ : ∃ q9 : Int, q9 = v9 + 1 := ⟨_, rfl⟩
      have hv := hv y14 eyy14
      have Ey14 : xy14 = zi y14 := exy14.trans (((za (rfl : zi v9 = zi v9) (by decide : (1 : Int32) = zi 1))).trans (congrArg zi eyy14.symm))
      have Iy14 : ir y14 := by rw [eyy14]; exact g13
      clear exy14
      exact hk28 _ _ _ _ _ _ _ _ (rfl : zi v6 = zi v6) iv6 (rfl : zi s0 = zi s0) is0 (by decide : (0 : Int32) = zi 0) (by decide : ir 0) Ey14 Iy14 hv
    · have hv := hv.2 ((zeq (zrd (rfl : zi v9 = zi v9) iv9 g12.1) (rfl : zi a3 = zi a3) (hJ _ _) ia3).mp cq)
      obtain ⟨g15, hv⟩ := hv
      intro xy16 exy16
      obtain ⟨y16, eyy16⟩ : ∃ q9 : Int, q9 = v9 + 1 := ⟨_, rfl⟩
      have hv := hv y16 eyy16
      have Ey16 : xy16 = zi y16 := exy16.trans (((za (rfl : zi v9 = zi v9) (by decide : (1 : Int32) = zi 1))).trans (congrArg zi eyy16.symm))
      have Iy16 : ir y16 := by rw [eyy16]; exact g15
      clear exy16
      exact hk28 _ _ _ _ _ _ _ _ (rfl : zi v6 = zi v6) iv6 (rfl : zi s0 = zi s0) is0 (by decide : (1 : Int32) = zi 1) (by decide : ir 1) Ey16 Iy16 hv
def v_X12_costOf_89 (J : mJ) (o : Nat) (a1 : Int) (a2 : Int) (a3 : Int) (a4 : Int) (a5 : Int) (post' : Int → Prop) (k28' : Int → Int → Int → Int → Prop) (v6 : Int) (v7 : Int) (v8 : Int) (v9 : Int) (s0 : Int) : Prop := (s0 = 0 → (v_X12_costOf_103 J o a1 a2 a3 a4 a5 post' k28') v6 v8 v9 v7) ∧ (¬ s0 = 0 → (v_X12_costOf_103 J o a1 a2 a3 a4 a5 post' k28') v6 v8 v9 v9)
theorem vw_X12_costOf_89 {J : mJ} {o : Nat} {a1 : Int} {a2 : Int} {a3 : Int} {a4 : Int} {a5 : Int} (hJ : irm J) (ia1 : ir a1) (ia2 : ir a2) (ia3 : ir a3) (ia4 : ir a4) (ia5 : ir a5) {post : Int32 → Prop} {post' : Int → Prop} {k28' : Int → Int → Int → Int → Prop} {k28 : Int32 → Int32 → Int32 → Int32 → Prop} (hp : ∀ (x : Int32) (r : Int), x = zi r → ir r → post' r → post x) (hk28 : ∀ (xv6 : Int32) (v6 : Int) (xv7 : Int32) (v7 : Int) (xv8 : Int32) (v8 : Int) (xv9 : Int32) (v9 : Int), xv6 = zi v6 → ir v6 → xv7 = zi v7 → ir v7 → xv8 = zi v8 → ir v8 → xv9 = zi v9 → ir v9 → k28' v6 v7 v8 v9 → k28 xv6 xv7 xv8 xv9) {xv6 : Int32} {v6 : Int} {xv7 : Int32} {v7 : Int} {xv8 : Int32} {v8 : Int} {xv9 : Int32} {v9 : Int} {xs0 : Int32} {s0 : Int} (ev6 : xv6 = zi v6) (iv6 : ir v6) (ev7 : xv7 = zi v7) (iv7 : ir v7) (ev8 : xv8 = zi v8) (iv8 : ir v8) (ev9 : xv9 = zi v9) (iv9 : ir v9) (es0 : xs0 = zi s0) (is0 : ir s0) (hv : v_X12_costOf_89 J o a1 a2 a3 a4 a5 post' k28' v6 v7 v8 v9 s0) : w_X12_costOf_89 (zz J) o (zi a1) (zi a2) (zi a3) (zi a4) (zi a5) post k28 xv6 xv7 xv8 xv9 xs0 := by
  subst ev6
  subst ev7
  subst ev8
  subst ev9
  subst es0
  unfold v_X12_costOf_89 at hv
  unfold w_X12_costOf_89
  refine ⟨fun cq => ?_, fun cq => ?_⟩
  · have hv := hv.1 ((zeq (rfl : zi s0 = zi s0) (by decide : (0 : Int32) = zi 0) is0 (by decide : ir 0)).mp cq)
    refine vw_X12_costOf_103 hJ ia1 ia2 ia3 ia4 ia5 hp hk28 (rfl : zi v6 = zi v6) iv6 (rfl : zi v8 = zi v8) iv8 (rfl : zi v9 = zi v9) iv9 (rfl : zi v7 = zi v7) iv7 hv
  · have hv := hv.2 (fun q => cq ((zeq (rfl : zi s0 = zi s0) (by decide : (0 : Int32) = zi 0) is0 (by decide : ir 0)).mpr q))
    refine vw_X12_costOf_103 hJ ia1 ia2 ia3 ia4 ia5 hp hk28 (rfl : zi v6 = zi v6) iv6 (rfl : zi v8 = zi v8) iv8 (rfl : zi v9 = zi v9) iv9 (rfl : zi v9 = zi v9) iv9 hv
def v_X12_costOf_84 (J : mJ) (o : Nat) (a1 : Int) (a2 : Int) (a3 : Int) (a4 : Int) (a5 : Int) (post' : Int → Prop) (k28' : Int → Int → Int → Int → Prop) (v6 : Int) (v7 : Int) (v8 : Int) (v9 : Int) : Prop := (v_X12_costOf_89 J o a1 a2 a3 a4 a5 post' k28') v6 v7 v8 v9 1
theorem vw_X12_costOf_84 {J : mJ} {o : Nat} {a1 : Int} {a2 : Int} {a3 : Int} {a4 : Int} {a5 : Int} (hJ : irm J) (ia1 : ir a1) (ia2 : ir a2) (ia3 : ir a3) (ia4 : ir a4) (ia5 : ir a5) {post : Int32 → Prop} {post' : Int → Prop} {k28' : Int → Int → Int → Int → Prop} {k28 : Int32 → Int32 → Int32 → Int32 → Prop} (hp : ∀ (x : Int32) (r : Int), x = zi r → ir r → post' r → post x) (hk28 : ∀ (xv6 : Int32) (v6 : Int) (xv7 : Int32) (v7 : Int) (xv8 : Int32) (v8 : Int) (xv9 : Int32) (v9 : Int), xv6 = zi v6 → ir v6 → xv7 = zi v7 → ir v7 → xv8 = zi v8 → ir v8 → xv9 = zi v9 → ir v9 → k28' v6 v7 v8 v9 → k28 xv6 xv7 xv8 xv9) {xv6 : Int32} {v6 : Int} {xv7 : Int32} {v7 : Int} {xv8 : Int32} {v8 : Int} {xv9 : Int32} {v9 : Int} (ev6 : xv6 = zi v6) (iv6 : ir v6) (ev7 : xv7 = zi v7) (iv7 : ir v7) (ev8 : xv8 = zi v8) (iv8 : ir v8) (ev9 : xv9 = zi v9) (iv9 : ir v9) (hv : v_X12_costOf_84 J o a1 a2 a3 a4 a5 post' k28' v6 v7 v8 v9) : w_X12_costOf_84 (zz J) o (zi a1) (zi a2) (zi a3) (zi a4) (zi a5) post k28 xv6 xv7 xv8 xv9 := by
  subst ev6
  subst ev7
  subst ev8
  subst ev9
  unfold v_X12_costOf_84 at hv
  unfold w_X12_costOf_84
  refine vw_X12_costOf_89 hJ ia1 ia2 ia3 ia4 ia5 hp hk28 (rfl : zi v6 = zi v6) iv6 (rfl : zi v7 = zi v7) iv7 (rfl : zi v8 = zi v8) iv8 (rfl : zi v9 = zi v9) iv9 (by decide : (1 : Int32) = zi 1) (by decide : ir 1) hv
def v_X12_costOf_88 (J : mJ) (o : Nat) (a1 : Int) (a2 : Int) (a3 : Int) (a4 : Int) (a5 : Int) (post' : Int → Prop) (k28' : Int → Int → Int → Int → Prop) (v6 : Int) (v7 : Int) (v8 : Int) (v9 : Int) : Prop := (v_X12_costOf_89 J o a1 a2 a3 a4 a5 post' k28') v6 v7 v8 v9 0
theorem vw_X12_costOf_88 {J : mJ} {o : Nat} {a1 : Int} {a2 : Int} {a3 : Int} {a4 : Int} {a5 : Int} (hJ : irm J) (ia1 : ir a1) (ia2 : ir a2) (ia3 : ir a3) (ia4 : ir a4) (ia5 : ir a5) {post : Int32 → Prop} {post' : Int → Prop} {k28' : Int → Int → Int → Int → Prop} {k28 : Int32 → Int32 → Int32 → Int32 → Prop} (hp : ∀ (x : Int32) (r : Int), x = zi r → ir r → post' r → post x) (hk28 : ∀ (xv6 : Int32) (v6 : Int) (xv7 : Int32) (v7 : Int) (xv8 : Int32) (v8 : Int) (xv9 : Int32) (v9 : Int), xv6 = zi v6 → ir v6 → xv7 = zi v7 → ir v7 → xv8 = zi v8 → ir v8 → xv9 = zi v9 → ir v9 → k28' v6 v7 v8 v9 → k28 xv6 xv7 xv8 xv9) {xv6 : Int32} {v6 : Int} {xv7 : Int32} {v7 : Int} {xv8 : Int32} {v8 : Int} {xv9 : Int32} {v9 : Int} (ev6 : xv6 = zi v6) (iv6 : ir v6) (ev7 : xv7 = zi v7) (iv7 : ir v7) (ev8 : xv8 = zi v8) (iv8 : ir v8) (ev9 : xv9 = zi v9) (iv9 : ir v9) (hv : v_X12_costOf_88 J o a1 a2 a3 a4 a5 post' k28' v6 v7 v8 v9) : w_X12_costOf_88 (zz J) o (zi a1) (zi a2) (zi a3) (zi a4) (zi a5) post k28 xv6 xv7 xv8 xv9 := by
  subst ev6
  subst ev7
  subst ev8
  subst ev9
  unfold v_X12_costOf_88 at hv
  unfold w_X12_costOf_88
  refine vw_X12_costOf_89 hJ ia1 ia2 ia3 ia4 ia5 hp hk28 (rfl : zi v6 = zi v6) iv6 (rfl : zi v7 = zi v7) iv7 (rfl : zi v8 = zi v8) iv8 (rfl : zi v9 = zi v9) iv9 (by decide : (0 : Int32) = zi 0) (by decide : ir 0) hv
def v_X12_costOf_28 (J : mJ) (o : Nat) (a1 : Int) (a2 : Int) (a3 : Int) (a4 : Int) (a5 : Int) (post' : Int → Prop) (k134' : Int → Int → Int → Prop) (v6 : Int) (v7 : Int) (v8 : Int) (v9 : Int) : Prop := ∀ ZZ : (Int → Int → Int → Int → Prop), (∀ (v6 : Int) (v7 : Int) (v8 : Int) (v9 : Int), (((J o 25) ≤ v9 → k134' v6 v7 v8) ∧ (¬ (J o 25) ≤ v9 → (0 ≤ v9 ∧ v9 < 640) ∧ ((J (o + 5) v9.toNat) = a2 → (0 ≤ v9 ∧ v9 < 640) ∧ ((J (o + 6) v9.toNat) < a3 → (v_X12_costOf_84 J o a1 a2 a3 a4 a5 post' ZZ) v6 v7 v8 v9) ∧ (¬ (J (o + 6) v9.toNat) < a3 → (0 ≤ v9 ∧ v9 < 640) ∧ (¬ (J (o + 6) v9.toNat) = a3 → (v_X12_costOf_88 J o a1 a2 a3 a4 a5 post' ZZ) v6 v7 v8 v9) ∧ ((J (o + 6) v9.toNat) = a3 → (0 ≤ v9 ∧ v9 < 640) ∧ (a1 ≤ (J (o + 4) v9.toNat) → (v_X12_costOf_88 J o a1 a2 a3 a4 a5 post' ZZ) v6 v7 v8 v9) ∧ (¬ a1 ≤ (J (o + 4) v9.toNat) → (v_X12_costOf_84 J o a1 a2 a3 a4 a5 post' ZZ) v6 v7 v8 v9)))) ∧ (¬ (J (o + 5) v9.toNat) = a2 → ir (v9 + 1) ∧ ∀ y9, y9 = v9 + 1 → ZZ v6 v7 v8 y9))) → ZZ v6 v7 v8 v9) → ZZ v6 v7 v8 v9
theorem vw_X12_costOf_28 {J : mJ} {o : Nat} {a1 : Int} {a2 : Int} {a3 : Int} {a4 : Int} {a5 : Int} (hJ : irm J) (ia1 : ir a1) (ia2 : ir a2) (ia3 : ir a3) (ia4 : ir a4) (ia5 : ir a5) {post : Int32 → Prop} {post' : Int → Prop} {k134' : Int → Int → Int → Prop} {k134 : Int32 → Int32 → Int32 → Prop} (hp : ∀ (x : Int32) (r : Int), x = zi r → ir r → post' r → post x) (hk134 : ∀ (xv6 : Int32) (v6 : Int) (xv7 : Int32) (v7 : Int) (xv8 : Int32) (v8 : Int), xv6 = zi v6 → ir v6 → xv7 = zi v7 → ir v7 → xv8 = zi v8 → ir v8 → k134' v6 v7 v8 → k134 xv6 xv7 xv8) {xv6 : Int32} {v6 : Int} {xv7 : Int32} {v7 : Int} {xv8 : Int32} {v8 : Int} {xv9 : Int32} {v9 : Int} (ev6 : xv6 = zi v6) (iv6 : ir v6) (ev7 : xv7 = zi v7) (iv7 : ir v7) (ev8 : xv8 = zi v8) (iv8 : ir v8) (ev9 : xv9 = zi v9) (iv9 : ir v9) (hv : v_X12_costOf_28 J o a1 a2 a3 a4 a5 post' k134' v6 v7 v8 v9) : w_X12_costOf_28 (zz J) o (zi a1) (zi a2) (zi a3) (zi a4) (zi a5) post k134 xv6 xv7 xv8 xv9 := by
  subst ev6
  subst ev7
  subst ev8
  subst ev9
  unfold v_X12_costOf_28 at hv
  unfold w_X12_costOf_28
  intro ZZ hZ
  refine hv (fun v6 v7 v8 v9 => ∀ (xv6 : Int32) (xv7 : Int32) (xv8 : Int32) (xv9 : Int32), xv6 = zi v6 → ir v6 → xv7 = zi v7 → ir v7 → xv8 = zi v8 → ir v8 → xv9 = zi v9 → ir v9 → ZZ xv6 xv7 xv8 xv9) ?_ _ _ _ _ rfl iv6 rfl iv7 rfl iv8 rfl iv9
  clear hv iv6 iv7 iv8 iv9
  intro v6 v7 v8 v9 hv xv6 xv7 xv8 xv9 ev6 iv6 ev7 iv7 ev8 iv8 ev9 iv9
  subst ev6
  subst ev7
  subst ev8
  subst ev9
  refine hZ _ _ _ _ ?_
  refine ⟨fun cq => ?_, fun cq => ?_⟩
  · have hv := hv.1 ((zle zrf (rfl : zi v9 = zi v9) (hJ _ _) iv9).mp cq)
    exact hk134 _ _ _ _ _ _ (rfl : zi v6 = zi v6) iv6 (rfl : zi v7 = zi v7) iv7 (rfl : zi v8 = zi v8) iv8 hv
  · have hv := hv.2 (fun q => cq ((zle zrf (rfl : zi v9 = zi v9) (hJ _ _) iv9).mpr q))
    obtain ⟨g4, hv⟩ := hv
    refine ⟨zvp (rfl : zi v9 = zi v9) iv9 g4.1 g4.2, ?_⟩
    refine ⟨fun cq => ?_, fun cq => ?_⟩
    · have hv := hv.1 ((zeq (zrd (rfl : zi v9 = zi v9) iv9 g4.1) (rfl : zi a2 = zi a2) (hJ _ _) ia2).mp cq)
      obtain ⟨g5, hv⟩ := hv
      refine ⟨zvp (rfl : zi v9 = zi v9) iv9 g5.1 g5.2, ?_⟩
      refine ⟨fun cq => ?_, fun cq => ?_⟩
      · have hv := hv.1 ((zlt (zrd (rfl : zi v9 = zi v9) iv9 g5.1) (rfl : zi a3 = zi a3) (hJ _ _) ia3).mp cq)
        refine vw_X12_costOf_84 hJ ia1 ia2 ia3 ia4 ia5 hp ?_ (rfl : zi v6 = zi v6) iv6 (rfl : zi v7 = zi v7) iv7 (rfl : zi v8 = zi v8) iv8 (rfl : zi v9 = zi v9) iv9 hv
        · intro xx vv xx vv xx vv xx vv ev6 iv6 ev7 iv7 ev8 iv8 ev9 iv9 hv
          exact hv _ _ _ _ ev6 iv6 ev7 iv7 ev8 iv8 ev9 iv9
      · have hv := hv.2 (fun q => cq ((zlt (zrd (rfl : zi v9 = zi v9) iv9 g5.1) (rfl : zi a3 = zi a3) (hJ _ _) ia3).mpr q))
        obtain ⟨g6, hv⟩ := hv
        refine ⟨zvp (rfl : zi v9 = zi v9) iv9 g6.1 g6.2, ?_⟩
        refine ⟨fun cq => ?_, fun cq => ?_⟩
        · have hv := hv.1 (fun q => cq ((zeq (zrd (rfl : zi v9 = zi v9) iv9 g6.1) (rfl : zi a3 = zi a3) (hJ _ _) ia3).mpr q))
          refine vw_X12_costOf_88 hJ ia1 ia2 ia3 ia4 ia5 hp ?_ (rfl : zi v6 = zi v6) iv6 (rfl : zi v7 = zi v7) iv7 (rfl : zi v8 = zi v8) iv8 (rfl : zi v9 = zi v9) iv9 hv
          · intro xx vv xx vv xx vv xx vv ev6 iv6 ev7 iv7 ev8 iv8 ev9 iv9 hv
            exact hv _ _ _ _ ev6 iv6 ev7 iv7 ev8 iv8 ev9 iv9
        · have hv := hv.2 ((zeq (zrd (rfl : zi v9 = zi v9) iv9 g6.1) (rfl : zi a3 = zi a3) (hJ _ _) ia3).mp cq)
          obtain ⟨g7, hv⟩ := hv
          refine ⟨zvp (rfl : zi v9 = zi v9) iv9 g7.1 g7.2, ?_⟩
          refine ⟨fun cq => ?_, fun cq => ?_⟩
          · have hv := hv.1 ((zle (rfl : zi a1 = zi a1) (zrd (rfl : zi v9 = zi v9) iv9 g7.1) ia1 (hJ _ _)).mp cq)
            refine vw_X12_costOf_88 hJ ia1 ia2 ia3 ia4 ia5 hp ?_ (rfl : zi v6 = zi v6) iv6 (rfl : zi v7 = zi v7) iv7 (rfl : zi v8 = zi v8) iv8 (rfl : zi v9 = zi v9) iv9 hv
            · intro xx vv xx vv xx vv xx vv ev6 iv6 ev7 iv7 ev8 iv8 ev9 iv9 hv
              exact hv _ _ _ _ ev6 iv6 ev7 iv7 ev8 iv8 ev9 iv9
          · have hv := hv.2 (fun q => cq ((zle (rfl : zi a1 = zi a1) (zrd (rfl : zi v9 = zi v9) iv9 g7.1) ia1 (hJ _ _)).mpr q))
            refine vw_X12_costOf_84 hJ ia1 ia2 ia3 ia4 ia5 hp ?_ (rfl : zi v6 = zi v6) iv6 (rfl : zi v7 = zi v7) iv7 (rfl : zi v8 = zi v8) iv8 (rfl : zi v9 = zi v9) iv9 hv
            · intro xx vv xx vv xx vv xx vv ev6 iv6 ev7 iv7 ev8 iv8 ev9 iv9 hv
              exact hv _ _ _ _ ev6 iv6 ev7 iv7 ev8 iv8 ev9 iv9
    · have hv := hv.2 (fun q => cq ((zeq (zrd (rfl : zi v9 = zi v9) iv9 g4.1) (rfl : zi a2 = zi a2) (hJ _ _) ia2).mpr q))
      obtain ⟨g8, hv⟩ := hv
      intro xy9 exy9
      obtain ⟨y9, eyy9⟩ : ∃ q9 : Int, q9 = v9 + 1 := ⟨_, rfl⟩
      have hv := hv y9 eyy9
      have Ey9 : xy9 = zi y9 := exy9.trans (((za (rfl : zi v9 = zi v9) (by decide : (1 : Int32) = zi 1))).trans (congrArg zi eyy9.symm))
      have Iy9 : ir y9 := by rw [eyy9]; exact g8
      clear exy9
      exact hv _ _ _ _ (rfl : zi v6 = zi v6) iv6 (rfl : zi v7 = zi v7) iv7 (rfl : zi v8 = zi v8) iv8 Ey9 Iy9
def v_X12_costOf_176 (J : mJ) (o : Nat) (a1 : Int) (a2 : Int) (a3 : Int) (a4 : Int) (a5 : Int) (post' : Int → Prop) (v6 : Int) (v8 : Int) : Prop := (¬ (andZ v6 a4) = 0 → (a5 = 0 → post' 1000000) ∧ (¬ a5 = 0 → (v8 = 0 → post' 1) ∧ (¬ v8 = 0 → post' 0))) ∧ ((andZ v6 a4) = 0 → post' 0)
theorem vw_X12_costOf_176 {J : mJ} {o : Nat} {a1 : Int} {a2 : Int} {a3 : Int} {a4 : Int} {a5 : Int} (hJ : irm J) (ia1 : ir a1) (ia2 : ir a2) (ia3 : ir a3) (ia4 : ir a4) (ia5 : ir a5) {post : Int32 → Prop} {post' : Int → Prop} (hp : ∀ (x : Int32) (r : Int), x = zi r → ir r → post' r → post x) {xv6 : Int32} {v6 : Int} {xv8 : Int32} {v8 : Int} (ev6 : xv6 = zi v6) (iv6 : ir v6) (ev8 : xv8 = zi v8) (iv8 : ir v8) (hv : v_X12_costOf_176 J o a1 a2 a3 a4 a5 post' v6 v8) : w_X12_costOf_176 (zz J) o (zi a1) (zi a2) (zi a3) (zi a4) (zi a5) post xv6 xv8 := by
  subst ev6
  subst ev8
  unfold v_X12_costOf_176 at hv
  unfold w_X12_costOf_176
  refine ⟨fun cq => ?_, fun cq => ?_⟩
  · have hv := hv.1 (fun q => cq ((zeq (z_and (rfl : zi v6 = zi v6) (rfl : zi a4 = zi a4)) (by decide : (0 : Int32) = zi 0) (ir_toInt _) (by decide : ir 0)).mpr q))
    refine ⟨fun cq => ?_, fun cq => ?_⟩
    · have hv := hv.1 ((zeq (rfl : zi a5 = zi a5) (by decide : (0 : Int32) = zi 0) ia5 (by decide : ir 0)).mp cq)
      exact hp _ _ (by decide : (1000000 : Int32) = zi 1000000) (by decide : ir 1000000) hv
    · have hv := hv.2 (fun q => cq ((zeq (rfl : zi a5 = zi a5) (by decide : (0 : Int32) = zi 0) ia5 (by decide : ir 0)).mpr q))
      refine ⟨fun cq => ?_, fun cq => ?_⟩
      · have hv := hv.1 ((zeq (rfl : zi v8 = zi v8) (by decide : (0 : Int32) = zi 0) iv8 (by decide : ir 0)).mp cq)
        exact hp _ _ (by decide : (1 : Int32) = zi 1) (by decide : ir 1) hv
      · have hv := hv.2 (fun q => cq ((zeq (rfl : zi v8 = zi v8) (by decide : (0 : Int32) = zi 0) iv8 (by decide : ir 0)).mpr q))
        exact hp _ _ (by decide : (0 : Int32) = zi 0) (by decide : ir 0) hv
  · have hv := hv.2 ((zeq (z_and (rfl : zi v6 = zi v6) (rfl : zi a4 = zi a4)) (by decide : (0 : Int32) = zi 0) (ir_toInt _) (by decide : ir 0)).mp cq)
    exact hp _ _ (by decide : (0 : Int32) = zi 0) (by decide : ir 0) hv
def v_X12_costOf_134 (J : mJ) (o : Nat) (a1 : Int) (a2 : Int) (a3 : Int) (a4 : Int) (a5 : Int) (post' : Int → Prop) (v6 : Int) (v7 : Int) (v8 : Int) : Prop := (v7 = (-1) → (v_X12_costOf_176 J o a1 a2 a3 a4 a5 post') v6 v8) ∧ (¬ v7 = (-1) → (0 ≤ v7 ∧ v7 < 640) ∧ ir (a3 - (J (o + 6) v7.toNat)) ∧ v_X12_of J o 1 (fun r19 => (r19 < (a3 - (J (o + 6) v7.toNat)) → (v_X12_costOf_176 J o a1 a2 a3 a4 a5 post') v6 v8) ∧ (¬ r19 < (a3 - (J (o + 6) v7.toNat)) → (0 ≤ v7 ∧ v7 < 640) ∧ v_X12_ears J o (divZ (J (o + 8) v7.toNat) 2) a2 (fun r21 => ∀ y22, y22 = (orZ v6 r21) → (v_X12_costOf_176 J o a1 a2 a3 a4 a5 post') y22 v8))))
theorem vw_X12_costOf_134 {J : mJ} {o : Nat} {a1 : Int} {a2 : Int} {a3 : Int} {a4 : Int} {a5 : Int} (hJ : irm J) (ia1 : ir a1) (ia2 : ir a2) (ia3 : ir a3) (ia4 : ir a4) (ia5 : ir a5) {post : Int32 → Prop} {post' : Int → Prop} (hp : ∀ (x : Int32) (r : Int), x = zi r → ir r → post' r → post x) {xv6 : Int32} {v6 : Int} {xv7 : Int32} {v7 : Int} {xv8 : Int32} {v8 : Int} (ev6 : xv6 = zi v6) (iv6 : ir v6) (ev7 : xv7 = zi v7) (iv7 : ir v7) (ev8 : xv8 = zi v8) (iv8 : ir v8) (hv : v_X12_costOf_134 J o a1 a2 a3 a4 a5 post' v6 v7 v8) : w_X12_costOf_134 (zz J) o (zi a1) (zi a2) (zi a3) (zi a4) (zi a5) post xv6 xv7 xv8 := by
  subst ev6
  subst ev7
  subst ev8
  unfold v_X12_costOf_134 at hv
  unfold w_X12_costOf_134
  refine ⟨fun cq => ?_, fun cq => ?_⟩
  · have hv := hv.1 ((zeq (rfl : zi v7 = zi v7) (by decide : ((-1) : Int32) = zi (-1)) iv7 (by decide : ir (-1))).mp cq)
    exact vw_X12_costOf_176 hJ ia1 ia2 ia3 ia4 ia5 hp (rfl : zi v6 = zi v6) iv6 (rfl : zi v8 = zi v8) iv8 hv
  · have hv := hv.2 (fun q => cq ((zeq (rfl : zi v7 = zi v7) (by decide : ((-1) : Int32) = zi (-1)) iv7 (by decide : ir (-1))).mpr q))
    obtain ⟨g17, hv⟩ := hv
    refine ⟨zvp (rfl : zi v7 = zi v7) iv7 g17.1 g17.2, ?_⟩
    obtain ⟨g18, hv⟩ := hv
    refine vw_X12_of hJ (by decide : (1 : Int32) = zi 1) (by decide : ir 1) (fun xr19 r19 Er19 Ir19 hv => ?_) hv
    refine ⟨fun cq => ?_, fun cq => ?_⟩
    · have hv := hv.1 ((zlt Er19 (zs (rfl : zi a3 = zi a3) (zrd (rfl : zi v7 = zi v7) iv7 g17.1)) Ir19 g18).mp cq)
      exact vw_X12_costOf_176 hJ ia1 ia2 ia3 ia4 ia5 hp (rfl : zi v6 = zi v6) iv6 (rfl : zi v8 = zi v8) iv8 hv
    · have hv := hv.2 (fun q => cq ((zlt Er19 (zs (rfl : zi a3 = zi a3) (zrd (rfl : zi v7 = zi v7) iv7 g17.1)) Ir19 g18).mpr q))
      obtain ⟨g20, hv⟩ := hv
      refine ⟨zvp (rfl : zi v7 = zi v7) iv7 g20.1 g20.2, ?_⟩
      refine vw_X12_ears hJ (z_div (zrd (rfl : zi v7 = zi v7) iv7 g20.1) (by decide : (2 : Int32) = zi 2)) (ir_toInt _) (rfl : zi a2 = zi a2) ia2 (fun xr21 r21 Er21 Ir21 hv => ?_) hv
      intro xy22 exy22
      obtain ⟨y22, eyy22⟩ : ∃ q9 : Int, q9 = (orZ v6 r21) := ⟨_, rfl⟩
      have hv := hv y22 eyy22
      have Ey22 : xy22 = zi y22 := exy22.trans (((z_or (rfl : zi v6 = zi v6) Er21)).trans (congrArg zi eyy22.symm))
      have Iy22 : ir y22 := by rw [eyy22]; exact (ir_toInt _)
      clear exy22
      exact vw_X12_costOf_176 hJ ia1 ia2 ia3 ia4 ia5 hp Ey22 Iy22 (rfl : zi v8 = zi v8) iv8 hv
def v_X12_costOf (J : mJ) (o : Nat) (a1 : Int) (a2 : Int) (a3 : Int) (a4 : Int) (a5 : Int) (post' : Int → Prop) : Prop := v_X12_shoeOf J o a1 a3 (fun r1 => v_X12_loudBy J o a1 r1 a2 (fun r2 => v_X12_ears J o r2 a2 (fun r3 => (v_X12_costOf_28 J o a1 a2 a3 a4 a5 post' (v_X12_costOf_134 J o a1 a2 a3 a4 a5 post')) r3 (-1) 0 0)))
theorem vw_X12_costOf {J : mJ} {o : Nat} {xa1 : Int32} {a1 : Int} {xa2 : Int32} {a2 : Int} {xa3 : Int32} {a3 : Int} {xa4 : Int32} {a4 : Int} {xa5 : Int32} {a5 : Int} (hJ : irm J)   (ea1 : xa1 = zi a1) (ia1 : ir a1) (ea2 : xa2 = zi a2) (ia2 : ir a2) (ea3 : xa3 = zi a3) (ia3 : ir a3) (ea4 : xa4 = zi a4) (ia4 : ir a4) (ea5 : xa5 = zi a5) (ia5 : ir a5) {post : Int32 → Prop} {post' : Int → Prop} (hp : ∀ (x : Int32) (r : Int), x = zi r → ir r → post' r → post x) (hv : v_X12_costOf J o a1 a2 a3 a4 a5 post') : w_X12_costOf (zz J) o xa1 xa2 xa3 xa4 xa5 post := by
  subst ea1
  subst ea2
  subst ea3
  subst ea4
  subst ea5
  unfold v_X12_costOf at hv
  unfold w_X12_costOf
  refine vw_X12_shoeOf hJ (rfl : zi a1 = zi a1) ia1 (rfl : zi a3 = zi a3) ia3 (fun xr1 r1 Er1 Ir1 hv => ?_) hv
  refine vw_X12_loudBy hJ (rfl : zi a1 = zi a1) ia1 Er1 Ir1 (rfl : zi a2 = zi a2) ia2 (fun xr2 r2 Er2 Ir2 hv => ?_) hv
  refine vw_X12_ears hJ Er2 Ir2 (rfl : zi a2 = zi a2) ia2 (fun xr3 r3 Er3 Ir3 hv => ?_) hv
  refine vw_X12_costOf_28 hJ ia1 ia2 ia3 ia4 ia5 hp ?_ Er3 Ir3 (by decide : ((-1) : Int32) = zi (-1)) (by decide : ir (-1)) (by decide : (0 : Int32) = zi 0) (by decide : ir 0) (by decide : (0 : Int32) = zi 0) (by decide : ir 0) hv
  · intro xx vv xx vv xx vv ev6 iv6 ev7 iv7 ev8 iv8 hv
    exact vw_X12_costOf_134 hJ ia1 ia2 ia3 ia4 ia5 hp ev6 iv6 ev7 iv7 ev8 iv8 hv
def v_X12_costs_22 (o : Nat) (a1 : Int) (a2 : Int) (a3 : Int) (a4 : Int) (post' : mJ → Prop) (k12' : mJ → Int → Prop) (J : mJ) (v5 : Int) (v6 : Int) : Prop := ∀ ZZ : (mJ → Int → Int → Prop), (∀ (J : mJ) (v5 : Int) (v6 : Int), (v_X12_of J o 0 (fun r3 => (r3 ≤ v6 → ir (v5 + 1) ∧ ∀ y5, y5 = v5 + 1 → k12' J y5) ∧ (¬ r3 ≤ v6 → ir (24 * v5) ∧ ir ((24 * v5) + v6) ∧ ir (a2 + v5) ∧ v_X12_costOf J o a1 v6 (a2 + v5) a3 a4 (fun r9 => (0 ≤ ((24 * v5) + v6) ∧ ((24 * v5) + v6) < 1464) ∧ ∀ J11, J11 = up2 J (o + 16) (((24 * v5) + v6).toNat) r9 → ir (v6 + 1) ∧ ∀ y13, y13 = v6 + 1 → ZZ J11 v5 y13)))) → ZZ J v5 v6) → ZZ J v5 v6
theorem vw_X12_costs_22 {o : Nat} {a1 : Int} {a2 : Int} {a3 : Int} {a4 : Int}  (ia1 : ir a1) (ia2 : ir a2) (ia3 : ir a3) (ia4 : ir a4) {post : mI → Prop} {post' : mJ → Prop} {k12' : mJ → Int → Prop} {k12 : mI → Int32 → Prop} (hp : ∀ (J1 : mJ), irm J1 → post' J1 → post (zz J1)) (hk12 : ∀ (J : mJ) (xv5 : Int32) (v5 : Int), irm J → xv5 = zi v5 → ir v5 → k12' J v5 → k12 (zz J) xv5) {J : mJ} {xv5 : Int32} {v5 : Int} {xv6 : Int32} {v6 : Int} (hJ : irm J) (ev5 : xv5 = zi v5) (iv5 : ir v5) (ev6 : xv6 = zi v6) (iv6 : ir v6) (hv : v_X12_costs_22 o a1 a2 a3 a4 post' k12' J v5 v6) : w_X12_costs_22 o (zi a1) (zi a2) (zi a3) (zi a4) post k12 (zz J) xv5 xv6 := by
  subst ev5
  subst ev6
  unfold v_X12_costs_22 at hv
  unfold w_X12_costs_22
  intro ZZ hZ
  refine hv (fun J v5 v6 => ∀ (xv5 : Int32) (xv6 : Int32), irm J → xv5 = zi v5 → ir v5 → xv6 = zi v6 → ir v6 → ZZ (zz J) xv5 xv6) ?_ _ _ hJ rfl iv5 rfl iv6
  clear hv hJ iv5 iv6
  intro J v5 v6 hv xv5 xv6 hJ ev5 iv5 ev6 iv6
  subst ev5
  subst ev6
  refine hZ _ _ _ ?_
  refine vw_X12_of hJ (by decide : (0 : Int32) = zi 0) (by decide : ir 0) (fun xr3 r3 Er3 Ir3 hv => ?_) hv
  refine ⟨fun cq => ?_, fun cq => ?_⟩
  · have hv := hv.1 ((zle Er3 (rfl : zi v6 = zi v6) Ir3 iv6).mp cq)
    obtain ⟨g4, hv⟩ := hv
    intro xy5 exy5
    obtain ⟨y5, eyy5⟩ : ∃ q9 : Int, q9 = v5 + 1 := ⟨_, rfl⟩
    have hv := hv y5 eyy5
    have Ey5 : xy5 = zi y5 := exy5.trans (((za (rfl : zi v5 = zi v5) (by decide : (1 : Int32) = zi 1))).trans (congrArg zi eyy5.symm))
    have Iy5 : ir y5 := by rw [eyy5]; exact g4
    clear exy5
    exact hk12 _ _ _ hJ Ey5 Iy5 hv
  · have hv := hv.2 (fun q => cq ((zle Er3 (rfl : zi v6 = zi v6) Ir3 iv6).mpr q))
    obtain ⟨g6, hv⟩ := hv
    obtain ⟨g7, hv⟩ := hv
    obtain ⟨g8, hv⟩ := hv
    refine vw_X12_costOf hJ (rfl : zi a1 = zi a1) ia1 (rfl : zi v6 = zi v6) iv6 (za (rfl : zi a2 = zi a2) (rfl : zi v5 = zi v5)) g8 (rfl : zi a3 = zi a3) ia3 (rfl : zi a4 = zi a4) ia4 (fun xr9 r9 Er9 Ir9 hv => ?_) hv
    obtain ⟨g10, hv⟩ := hv
    refine ⟨zvp (za (zm (by decide : (24 : Int32) = zi 24) (rfl : zi v5 = zi v5)) (rfl : zi v6 = zi v6)) g7 g10.1 g10.2, ?_⟩
    intro I1 eI1
    obtain ⟨J11, eJ11⟩ : ∃ q9 : mJ, q9 = up2 J (o + 16) (((24 * v5) + v6).toNat) r9 := ⟨_, rfl⟩
    have eI1 : I1 = zz J11 := by rw [eI1, eJ11]; exact zupa (za (zm (by decide : (24 : Int32) = zi 24) (rfl : zi v5 = zi v5)) (rfl : zi v6 = zi v6)) g7 g10.1 Er9
    subst eI1
    have hv := hv J11 eJ11
    have hJ : irm J11 := by rw [eJ11]; exact irm_up hJ Ir9
    obtain ⟨g12, hv⟩ := hv
    intro xy13 exy13
    obtain ⟨y13, eyy13⟩ : ∃ q9 : Int, q9 = v6 + 1 := ⟨_, rfl⟩
    have hv := hv y13 eyy13
    have Ey13 : xy13 = zi y13 := exy13.trans (((za (rfl : zi v6 = zi v6) (by decide : (1 : Int32) = zi 1))).trans (congrArg zi eyy13.symm))
    have Iy13 : ir y13 := by rw [eyy13]; exact g12
    clear exy13
    exact hv _ _ hJ (rfl : zi v5 = zi v5) iv5 Ey13 Iy13
def v_X12_costs_12 (o : Nat) (a1 : Int) (a2 : Int) (a3 : Int) (a4 : Int) (post' : mJ → Prop) (J : mJ) (v5 : Int) : Prop := ∀ ZZ : (mJ → Int → Prop), (∀ (J : mJ) (v5 : Int), ((60 < v5 → post' J) ∧ (¬ 60 < v5 → (v_X12_costs_22 o a1 a2 a3 a4 post' ZZ) J v5 0)) → ZZ J v5) → ZZ J v5
theorem vw_X12_costs_12 {o : Nat} {a1 : Int} {a2 : Int} {a3 : Int} {a4 : Int}  (ia1 : ir a1) (ia2 : ir a2) (ia3 : ir a3) (ia4 : ir a4) {post : mI → Prop} {post' : mJ → Prop} (hp : ∀ (J1 : mJ), irm J1 → post' J1 → post (zz J1)) {J : mJ} {xv5 : Int32} {v5 : Int} (hJ : irm J) (ev5 : xv5 = zi v5) (iv5 : ir v5) (hv : v_X12_costs_12 o a1 a2 a3 a4 post' J v5) : w_X12_costs_12 o (zi a1) (zi a2) (zi a3) (zi a4) post (zz J) xv5 := by
  subst ev5
  unfold v_X12_costs_12 at hv
  unfold w_X12_costs_12
  intro ZZ hZ
  refine hv (fun J v5 => ∀ (xv5 : Int32), irm J → xv5 = zi v5 → ir v5 → ZZ (zz J) xv5) ?_ _ hJ rfl iv5
  clear hv hJ iv5
  intro J v5 hv xv5 hJ ev5 iv5
  subst ev5
  refine hZ _ _ ?_
  refine ⟨fun cq => ?_, fun cq => ?_⟩
  · have hv := hv.1 ((zlt (by decide : (60 : Int32) = zi 60) (rfl : zi v5 = zi v5) (by decide : ir 60) iv5).mp cq)
    exact hp _ hJ hv
  · have hv := hv.2 (fun q => cq ((zlt (by decide : (60 : Int32) = zi 60) (rfl : zi v5 = zi v5) (by decide : ir 60) iv5).mpr q))
    refine vw_X12_costs_22 ia1 ia2 ia3 ia4 hp ?_ hJ (rfl : zi v5 = zi v5) iv5 (by decide : (0 : Int32) = zi 0) (by decide : ir 0) hv
    · intro qq xx vv hJ ev5 iv5 hv
      exact hv _ hJ ev5 iv5
def v_X12_costs (J : mJ) (o : Nat) (a1 : Int) (a2 : Int) (a3 : Int) (a4 : Int) (post' : mJ → Prop) : Prop := ∀ J1, J1 = up2 J o 17 a1 → v_X12_runs J1 o (fun J2 => (v_X12_costs_12 o a1 a2 a3 a4 post') J2 1)
theorem vw_X12_costs {J : mJ} {o : Nat} {xa1 : Int32} {a1 : Int} {xa2 : Int32} {a2 : Int} {xa3 : Int32} {a3 : Int} {xa4 : Int32} {a4 : Int} (hJ : irm J)   (ea1 : xa1 = zi a1) (ia1 : ir a1) (ea2 : xa2 = zi a2) (ia2 : ir a2) (ea3 : xa3 = zi a3) (ia3 : ir a3) (ea4 : xa4 = zi a4) (ia4 : ir a4) {post : mI → Prop} {post' : mJ → Prop} (hp : ∀ (J1 : mJ), irm J1 → post' J1 → post (zz J1)) (hv : v_X12_costs J o a1 a2 a3 a4 post') : w_X12_costs (zz J) o xa1 xa2 xa3 xa4 post := by
  subst ea1
  subst ea2
  subst ea3
  subst ea4
  unfold v_X12_costs at hv
  unfold w_X12_costs
  intro I1 eI1
  obtain ⟨J1, eJ1⟩ : ∃ q9 : mJ, q9 = up2 J o 17 a1 := ⟨_, rfl⟩
  have eI1 : I1 = zz J1 := by rw [eI1, eJ1]; exact zup (rfl : zi a1 = zi a1)
  subst eI1
  have hv := hv J1 eJ1
  have hJ : irm J1 := by rw [eJ1]; exact irm_up hJ ia1
  refine vw_X12_runs hJ  (fun J2 hJ hv => ?_) hv
  exact vw_X12_costs_12 ia1 ia2 ia3 ia4 hp hJ (by decide : (1 : Int32) = zi 1) (by decide : ir 1) hv
def v_X12_stepCost (J : mJ) (o : Nat) (a1 : Int) (a2 : Int) (a3 : Int) (post' : Int → Prop) : Prop := (¬ a2 = a3 → ir (24 * a1) ∧ ir ((24 * a1) + a3) ∧ (0 ≤ ((24 * a1) + a3) ∧ ((24 * a1) + a3) < 1464) ∧ post' (J (o + 16) ((24 * a1) + a3).toNat)) ∧ (a2 = a3 → post' 0)
theorem vw_X12_stepCost {J : mJ} {o : Nat} {xa1 : Int32} {a1 : Int} {xa2 : Int32} {a2 : Int} {xa3 : Int32} {a3 : Int} (hJ : irm J)   (ea1 : xa1 = zi a1) (ia1 : ir a1) (ea2 : xa2 = zi a2) (ia2 : ir a2) (ea3 : xa3 = zi a3) (ia3 : ir a3) {post : Int32 → Prop} {post' : Int → Prop} (hp : ∀ (x : Int32) (r : Int), x = zi r → ir r → post' r → post x) (hv : v_X12_stepCost J o a1 a2 a3 post') : w_X12_stepCost (zz J) o xa1 xa2 xa3 post := by
  subst ea1
  subst ea2
  subst ea3
  unfold v_X12_stepCost at hv
  unfold w_X12_stepCost
  refine ⟨fun cq => ?_, fun cq => ?_⟩
  · have hv := hv.1 (fun q => cq ((zeq (rfl : zi a2 = zi a2) (rfl : zi a3 = zi a3) ia2 ia3).mpr q))
    obtain ⟨g1, hv⟩ := hv
    obtain ⟨g2, hv⟩ := hv
    obtain ⟨g3, hv⟩ := hv
    refine ⟨zvp (za (zm (by decide : (24 : Int32) = zi 24) (rfl : zi a1 = zi a1)) (rfl : zi a3 = zi a3)) g2 g3.1 g3.2, ?_⟩
    exact hp _ _ (zrd (za (zm (by decide : (24 : Int32) = zi 24) (rfl : zi a1 = zi a1)) (rfl : zi a3 = zi a3)) g2 g3.1) (hJ _ _) hv
  · have hv := hv.2 ((zeq (rfl : zi a2 = zi a2) (rfl : zi a3 = zi a3) ia2 ia3).mp cq)
    exact hp _ _ (by decide : (0 : Int32) = zi 0) (by decide : ir 0) hv
def v_X12_isReach (J : mJ) (o : Nat) (a1 : Int) (a2 : Int) (a3 : Int) (post' : Bool → Prop) : Prop := ir (a2 - a3) ∧ v_X12_told J o a1 2 (fun r2 => (r2 < (a2 - a3) → post' false) ∧ (¬ r2 < (a2 - a3) → ir (a3 - a2) ∧ v_X12_told J o a1 2 (fun r4 => (r4 < (a3 - a2) → post' false) ∧ (¬ r4 < (a3 - a2) → post' true))))
theorem vw_X12_isReach {J : mJ} {o : Nat} {xa1 : Int32} {a1 : Int} {xa2 : Int32} {a2 : Int} {xa3 : Int32} {a3 : Int} (hJ : irm J)   (ea1 : xa1 = zi a1) (ia1 : ir a1) (ea2 : xa2 = zi a2) (ia2 : ir a2) (ea3 : xa3 = zi a3) (ia3 : ir a3) {post : Bool → Prop} {post' : Bool → Prop} (hp : ∀ (r : Bool), post' r → post r) (hv : v_X12_isReach J o a1 a2 a3 post') : w_X12_isReach (zz J) o xa1 xa2 xa3 post := by
  subst ea1
  subst ea2
  subst ea3
  unfold v_X12_isReach at hv
  unfold w_X12_isReach
  obtain ⟨g1, hv⟩ := hv
  refine vw_X12_told hJ (rfl : zi a1 = zi a1) ia1 (by decide : (2 : Int32) = zi 2) (by decide : ir 2) (fun xr2 r2 Er2 Ir2 hv => ?_) hv
  refine ⟨fun cq => ?_, fun cq => ?_⟩
  · have hv := hv.1 ((zlt Er2 (zs (rfl : zi a2 = zi a2) (rfl : zi a3 = zi a3)) Ir2 g1).mp cq)
    exact hp _ hv
  · have hv := hv.2 (fun q => cq ((zlt Er2 (zs (rfl : zi a2 = zi a2) (rfl : zi a3 = zi a3)) Ir2 g1).mpr q))
    obtain ⟨g3, hv⟩ := hv
    refine vw_X12_told hJ (rfl : zi a1 = zi a1) ia1 (by decide : (2 : Int32) = zi 2) (by decide : ir 2) (fun xr4 r4 Er4 Ir4 hv => ?_) hv
    refine ⟨fun cq => ?_, fun cq => ?_⟩
    · have hv := hv.1 ((zlt Er4 (zs (rfl : zi a3 = zi a3) (rfl : zi a2 = zi a2)) Ir4 g3).mp cq)
      exact hp _ hv
    · have hv := hv.2 (fun q => cq ((zlt Er4 (zs (rfl : zi a3 = zi a3) (rfl : zi a2 = zi a2)) Ir4 g3).mpr q))
      exact hp _ hv
def v_X12_solves_37 (o : Nat) (a1 : Int) (a2 : Int) (a3 : Int) (post' : mJ → Prop) (k3' : mJ → Int → Prop) (J : mJ) (v4 : Int) (s1 : Int) (s2 : Int) : Prop := (0 ≤ s1 ∧ s1 < 1464) ∧ ∀ J7, J7 = up2 J (o + 17) s1.toNat s2 → ir (v4 + 1) ∧ ∀ y9, y9 = v4 + 1 → k3' J7 y9
theorem vw_X12_solves_37 {o : Nat} {a1 : Int} {a2 : Int} {a3 : Int}  (ia1 : ir a1) (ia2 : ir a2) (ia3 : ir a3) {post : mI → Prop} {post' : mJ → Prop} {k3' : mJ → Int → Prop} {k3 : mI → Int32 → Prop} (hp : ∀ (J1 : mJ), irm J1 → post' J1 → post (zz J1)) (hk3 : ∀ (J : mJ) (xv4 : Int32) (v4 : Int), irm J → xv4 = zi v4 → ir v4 → k3' J v4 → k3 (zz J) xv4) {J : mJ} {xv4 : Int32} {v4 : Int} {xs1 : Int32} {s1 : Int} {xs2 : Int32} {s2 : Int} (hJ : irm J) (ev4 : xv4 = zi v4) (iv4 : ir v4) (es1 : xs1 = zi s1) (is1 : ir s1) (es2 : xs2 = zi s2) (is2 : ir s2) (hv : v_X12_solves_37 o a1 a2 a3 post' k3' J v4 s1 s2) : w_X12_solves_37 o (zi a1) (zi a2) (zi a3) post k3 (zz J) xv4 xs1 xs2 := by
  subst ev4
  subst es1
  subst es2
  unfold v_X12_solves_37 at hv
  unfold w_X12_solves_37
  obtain ⟨g6, hv⟩ := hv
  refine ⟨zvp (rfl : zi s1 = zi s1) is1 g6.1 g6.2, ?_⟩
  intro I1 eI1
  obtain ⟨J7, eJ7⟩ : ∃ q9 : mJ, q9 = up2 J (o + 17) s1.toNat s2 := ⟨_, rfl⟩
  have eI1 : I1 = zz J7 := by rw [eI1, eJ7]; exact zupa (rfl : zi s1 = zi s1) is1 g6.1 (rfl : zi s2 = zi s2)
  subst eI1
  have hv := hv J7 eJ7
  have hJ : irm J7 := by rw [eJ7]; exact irm_up hJ is2
  obtain ⟨g8, hv⟩ := hv
  intro xy9 exy9
  obtain ⟨y9, eyy9⟩ : ∃ q9 : Int, q9 = v4 + 1 := ⟨_, rfl⟩
  have hv := hv y9 eyy9
  have Ey9 : xy9 = zi y9 := exy9.trans (((za (rfl : zi v4 = zi v4) (by decide : (1 : Int32) = zi 1))).trans (congrArg zi eyy9.symm))
  have Iy9 : ir y9 := by rw [eyy9]; exact g8
  clear exy9
  exact hk3 _ _ _ hJ Ey9 Iy9 hv
def v_X12_solves_3 (o : Nat) (a1 : Int) (a2 : Int) (a3 : Int) (post' : mJ → Prop) (k49' : mJ → Int → Prop) (J : mJ) (v4 : Int) : Prop := ∀ ZZ : (mJ → Int → Prop), (∀ (J : mJ) (v4 : Int), (v_X12_of J o 0 (fun r1 => (r1 ≤ v4 → ir (a3 - 1) ∧ ∀ y3, y3 = (a3 - 1) → k49' J y3) ∧ (¬ r1 ≤ v4 → ir (24 * a3) ∧ ir ((24 * a3) + v4) ∧ (¬ v4 = a2 → (v_X12_solves_37 o a1 a2 a3 post' ZZ) J v4 ((24 * a3) + v4) 1000000) ∧ (v4 = a2 → (v_X12_solves_37 o a1 a2 a3 post' ZZ) J v4 ((24 * a3) + v4) 0)))) → ZZ J v4) → ZZ J v4
theorem vw_X12_solves_3 {o : Nat} {a1 : Int} {a2 : Int} {a3 : Int}  (ia1 : ir a1) (ia2 : ir a2) (ia3 : ir a3) {post : mI → Prop} {post' : mJ → Prop} {k49' : mJ → Int → Prop} {k49 : mI → Int32 → Prop} (hp : ∀ (J1 : mJ), irm J1 → post' J1 → post (zz J1)) (hk49 : ∀ (J : mJ) (xv4 : Int32) (v4 : Int), irm J → xv4 = zi v4 → ir v4 → k49' J v4 → k49 (zz J) xv4) {J : mJ} {xv4 : Int32} {v4 : Int} (hJ : irm J) (ev4 : xv4 = zi v4) (iv4 : ir v4) (hv : v_X12_solves_3 o a1 a2 a3 post' k49' J v4) : w_X12_solves_3 o (zi a1) (zi a2) (zi a3) post k49 (zz J) xv4 := by
  subst ev4
  unfold v_X12_solves_3 at hv
  unfold w_X12_solves_3
  intro ZZ hZ
  refine hv (fun J v4 => ∀ (xv4 : Int32), irm J → xv4 = zi v4 → ir v4 → ZZ (zz J) xv4) ?_ _ hJ rfl iv4
  clear hv hJ iv4
  intro J v4 hv xv4 hJ ev4 iv4
  subst ev4
  refine hZ _ _ ?_
  refine vw_X12_of hJ (by decide : (0 : Int32) = zi 0) (by decide : ir 0) (fun xr1 r1 Er1 Ir1 hv => ?_) hv
  refine ⟨fun cq => ?_, fun cq => ?_⟩
  · have hv := hv.1 ((zle Er1 (rfl : zi v4 = zi v4) Ir1 iv4).mp cq)
    obtain ⟨g2, hv⟩ := hv
    intro xy3 exy3
    obtain ⟨y3, eyy3⟩ : ∃ q9 : Int, q9 = (a3 - 1) := ⟨_, rfl⟩
    have hv := hv y3 eyy3
    have Ey3 : xy3 = zi y3 := exy3.trans (((zs (rfl : zi a3 = zi a3) (by decide : (1 : Int32) = zi 1))).trans (congrArg zi eyy3.symm))
    have Iy3 : ir y3 := by rw [eyy3]; exact g2
    clear exy3
    exact hk49 _ _ _ hJ Ey3 Iy3 hv
  · have hv := hv.2 (fun q => cq ((zle Er1 (rfl : zi v4 = zi v4) Ir1 iv4).mpr q))
    obtain ⟨g4, hv⟩ := hv
    obtain ⟨g5, hv⟩ := hv
    refine ⟨fun cq => ?_, fun cq => ?_⟩
    · have hv := hv.1 (fun q => cq ((zeq (rfl : zi v4 = zi v4) (rfl : zi a2 = zi a2) iv4 ia2).mpr q))
      refine vw_X12_solves_37 ia1 ia2 ia3 hp ?_ hJ (rfl : zi v4 = zi v4) iv4 (za (zm (by decide : (24 : Int32) = zi 24) (rfl : zi a3 = zi a3)) (rfl : zi v4 = zi v4)) g5 (by decide : (1000000 : Int32) = zi 1000000) (by decide : ir 1000000) hv
      · intro qq xx vv hJ ev4 iv4 hv
        exact hv _ hJ ev4 iv4
    · have hv := hv.2 ((zeq (rfl : zi v4 = zi v4) (rfl : zi a2 = zi a2) iv4 ia2).mp cq)
      refine vw_X12_solves_37 ia1 ia2 ia3 hp ?_ hJ (rfl : zi v4 = zi v4) iv4 (za (zm (by decide : (24 : Int32) = zi 24) (rfl : zi a3 = zi a3)) (rfl : zi v4 = zi v4)) g5 (by decide : (0 : Int32) = zi 0) (by decide : ir 0) hv
      · intro qq xx vv hJ ev4 iv4 hv
        exact hv _ hJ ev4 iv4
def v_X12_solves_75 (o : Nat) (a1 : Int) (a2 : Int) (a3 : Int) (post' : mJ → Prop) (k152' : mJ → Int → Int → Int → Prop) (J : mJ) (v4 : Int) (v5 : Int) (v6 : Int) (v7 : Int) : Prop := ∀ ZZ : (mJ → Int → Int → Int → Int → Prop), (∀ (J : mJ) (v4 : Int) (v5 : Int) (v6 : Int) (v7 : Int), (v_X12_of J o 0 (fun r13 => (r13 ≤ v7 → k152' J v4 v5 v6) ∧ (¬ r13 ≤ v7 → v_X12_isReach J o a1 v5 v7 (fun b14 => (b14 = true → ir (v4 + 1) ∧ v_X12_stepCost J o (v4 + 1) v5 v7 (fun r16 => ir (v4 + 1) ∧ ir (24 * (v4 + 1)) ∧ ir ((24 * (v4 + 1)) + v7) ∧ (0 ≤ ((24 * (v4 + 1)) + v7) ∧ ((24 * (v4 + 1)) + v7) < 1464) ∧ ir (r16 + (J (o + 17) ((24 * (v4 + 1)) + v7).toNat)) ∧ ∀ y22, y22 = (r16 + (J (o + 17) ((24 * (v4 + 1)) + v7).toNat)) → (v6 ≤ y22 → ir (v7 + 1) ∧ ∀ y24, y24 = v7 + 1 → ZZ J v4 v5 v6 y24) ∧ (¬ v6 ≤ y22 → ir (v7 + 1) ∧ ∀ y26, y26 = v7 + 1 → ZZ J v4 v5 y22 y26))) ∧ (b14 = false → ir (v7 + 1) ∧ ∀ y28, y28 = v7 + 1 → ZZ J v4 v5 v6 y28))))) → ZZ J v4 v5 v6 v7) → ZZ J v4 v5 v6 v7
theorem vw_X12_solves_75 {o : Nat} {a1 : Int} {a2 : Int} {a3 : Int}  (ia1 : ir a1) (ia2 : ir a2) (ia3 : ir a3) {post : mI → Prop} {post' : mJ → Prop} {k152' : mJ → Int → Int → Int → Prop} {k152 : mI → Int32 → Int32 → Int32 → Prop} (hp : ∀ (J1 : mJ), irm J1 → post' J1 → post (zz J1)) (hk152 : ∀ (J : mJ) (xv4 : Int32) (v4 : Int) (xv5 : Int32) (v5 : Int) (xv6 : Int32) (v6 : Int), irm J → xv4 = zi v4 → ir v4 → xv5 = zi v5 → ir v5 → xv6 = zi v6 → ir v6 → k152' J v4 v5 v6 → k152 (zz J) xv4 xv5 xv6) {J : mJ} {xv4 : Int32} {v4 : Int} {xv5 : Int32} {v5 : Int} {xv6 : Int32} {v6 : Int} {xv7 : Int32} {v7 : Int} (hJ : irm J) (ev4 : xv4 = zi v4) (iv4 : ir v4) (ev5 : xv5 = zi v5) (iv5 : ir v5) (ev6 : xv6 = zi v6) (iv6 : ir v6) (ev7 : xv7 = zi v7) (iv7 : ir v7) (hv : v_X12_solves_75 o a1 a2 a3 post' k152' J v4 v5 v6 v7) : w_X12_solves_75 o (zi a1) (zi a2) (zi a3) post k152 (zz J) xv4 xv5 xv6 xv7 := by
  subst ev4
  subst ev5
  subst ev6
  subst ev7
  unfold v_X12_solves_75 at hv
  unfold w_X12_solves_75
  intro ZZ hZ
  refine hv (fun J v4 v5 v6 v7 => ∀ (xv4 : Int32) (xv5 : Int32) (xv6 : Int32) (xv7 : Int32), irm J → xv4 = zi v4 → ir v4 → xv5 = zi v5 → ir v5 → xv6 = zi v6 → ir v6 → xv7 = zi v7 → ir v7 → ZZ (zz J) xv4 xv5 xv6 xv7) ?_ _ _ _ _ hJ rfl iv4 rfl iv5 rfl iv6 rfl iv7
  clear hv hJ iv4 iv5 iv6 iv7
  intro J v4 v5 v6 v7 hv xv4 xv5 xv6 xv7 hJ ev4 iv4 ev5 iv5 ev6 iv6 ev7 iv7
  subst ev4
  subst ev5
  subst ev6
  subst ev7
  refine hZ _ _ _ _ _ ?_
  refine vw_X12_of hJ (by decide : (0 : Int32) = zi 0) (by decide : ir 0) (fun xr13 r13 Er13 Ir13 hv => ?_) hv
  refine ⟨fun cq => ?_, fun cq => ?_⟩
  · have hv := hv.1 ((zle Er13 (rfl : zi v7 = zi v7) Ir13 iv7).mp cq)
    exact hk152 _ _ _ _ _ _ _ hJ (rfl : zi v4 = zi v4) iv4 (rfl : zi v5 = zi v5) iv5 (rfl : zi v6 = zi v6) iv6 hv
  · have hv := hv.2 (fun q => cq ((zle Er13 (rfl : zi v7 = zi v7) Ir13 iv7).mpr q))
    refine vw_X12_isReach hJ (rfl : zi a1 = zi a1) ia1 (rfl : zi v5 = zi v5) iv5 (rfl : zi v7 = zi v7) iv7 (fun b14  hv => ?_) hv
    refine ⟨fun cq => ?_, fun cq => ?_⟩
    · have hv := hv.1 cq
      obtain ⟨g15, hv⟩ := hv
      refine vw_X12_stepCost hJ (za (rfl : zi v4 = zi v4) (by decide : (1 : Int32) = zi 1)) g15 (rfl : zi v5 = zi v5) iv5 (rfl : zi v7 = zi v7) iv7 (fun xr16 r16 Er16 Ir16 hv => ?_) hv
      obtain ⟨g17, hv⟩ := hv
      obtain ⟨g18, hv⟩ := hv
      obtain ⟨g19, hv⟩ := hv
      obtain ⟨g20, hv⟩ := hv
      refine ⟨zvp (za (zm (by decide : (24 : Int32) = zi 24) (za (rfl : zi v4 = zi v4) (by decide : (1 : Int32) = zi 1))) (rfl : zi v7 = zi v7)) g19 g20.1 g20.2, ?_⟩
      obtain ⟨g21, hv⟩ := hv
      intro xy22 exy22
      obtain ⟨y22, eyy22⟩ : ∃ q9 : Int, q9 = (r16 + (J (o + 17) ((24 * (v4 + 1)) + v7).toNat)) := ⟨_, rfl⟩
      have hv := hv y22 eyy22
      have Ey22 : xy22 = zi y22 := exy22.trans (((za Er16 (zrd (za (zm (by decide : (24 : Int32) = zi 24) (za (rfl : zi v4 = zi v4) (by decide : (1 : Int32) = zi 1))) (rfl : zi v7 = zi v7)) g19 g20.1))).trans (congrArg zi eyy22.symm))
      have Iy22 : ir y22 := by rw [eyy22]; exact g21
      clear exy22
      refine ⟨fun cq => ?_, fun cq => ?_⟩
      · have hv := hv.1 ((zle (rfl : zi v6 = zi v6) Ey22 iv6 Iy22).mp cq)
        obtain ⟨g23, hv⟩ := hv
        intro xy24 exy24
        obtain ⟨y24, eyy24⟩ : ∃ q9 : Int, q9 = v7 + 1 := ⟨_, rfl⟩
        have hv := hv y24 eyy24
        have Ey24 : xy24 = zi y24 := exy24.trans (((za (rfl : zi v7 = zi v7) (by decide : (1 : Int32) = zi 1))).trans (congrArg zi eyy24.symm))
        have Iy24 : ir y24 := by rw [eyy24]; exact g23
        clear exy24
        exact hv _ _ _ _ hJ (rfl : zi v4 = zi v4) iv4 (rfl : zi v5 = zi v5) iv5 (rfl : zi v6 = zi v6) iv6 Ey24 Iy24
      · have hv := hv.2 (fun q => cq ((zle (rfl : zi v6 = zi v6) Ey22 iv6 Iy22).mpr q))
        obtain ⟨g25, hv⟩ := hv
        intro xy26 exy26
        obtain ⟨y26, eyy26⟩ : ∃ q9 : Int, q9 = v7 + 1 := ⟨_, rfl⟩
        have hv := hv y26 eyy26
        have Ey26 : xy26 = zi y26 := exy26.trans (((za (rfl : zi v7 = zi v7) (by decide : (1 : Int32) = zi 1))).trans (congrArg zi eyy26.symm))
        have Iy26 : ir y26 := by rw [eyy26]; exact g25
        clear exy26
        exact hv _ _ _ _ hJ (rfl : zi v4 = zi v4) iv4 (rfl : zi v5 = zi v5) iv5 Ey22 Iy22 Ey26 Iy26
    · have hv := hv.2 cq
      obtain ⟨g27, hv⟩ := hv
      intro xy28 exy28
      obtain ⟨y28, eyy28⟩ : ∃ q9 : Int, q9 = v7 + 1 := ⟨_, rfl⟩
      have hv := hv y28 eyy28
      have Ey28 : xy28 = zi y28 := exy28.trans (((za (rfl : zi v7 = zi v7) (by decide : (1 : Int32) = zi 1))).trans (congrArg zi eyy28.symm))
      have Iy28 : ir y28 := by rw [eyy28]; exact g27
      clear exy28
      exact hv _ _ _ _ hJ (rfl : zi v4 = zi v4) iv4 (rfl : zi v5 = zi v5) iv5 (rfl : zi v6 = zi v6) iv6 Ey28 Iy28
def v_X12_solves_152 (o : Nat) (a1 : Int) (a2 : Int) (a3 : Int) (post' : mJ → Prop) (k57' : mJ → Int → Int → Prop) (J : mJ) (v4 : Int) (v5 : Int) (v6 : Int) : Prop := ir (24 * v4) ∧ ir ((24 * v4) + v5) ∧ (0 ≤ ((24 * v4) + v5) ∧ ((24 * v4) + v5) < 1464) ∧ ∀ J32, J32 = up2 J (o + 17) (((24 * v4) + v5).toNat) v6 → ir (v5 + 1) ∧ ∀ y34, y34 = v5 + 1 → k57' J32 v4 y34
theorem vw_X12_solves_152 {o : Nat} {a1 : Int} {a2 : Int} {a3 : Int}  (ia1 : ir a1) (ia2 : ir a2) (ia3 : ir a3) {post : mI → Prop} {post' : mJ → Prop} {k57' : mJ → Int → Int → Prop} {k57 : mI → Int32 → Int32 → Prop} (hp : ∀ (J1 : mJ), irm J1 → post' J1 → post (zz J1)) (hk57 : ∀ (J : mJ) (xv4 : Int32) (v4 : Int) (xv5 : Int32) (v5 : Int), irm J → xv4 = zi v4 → ir v4 → xv5 = zi v5 → ir v5 → k57' J v4 v5 → k57 (zz J) xv4 xv5) {J : mJ} {xv4 : Int32} {v4 : Int} {xv5 : Int32} {v5 : Int} {xv6 : Int32} {v6 : Int} (hJ : irm J) (ev4 : xv4 = zi v4) (iv4 : ir v4) (ev5 : xv5 = zi v5) (iv5 : ir v5) (ev6 : xv6 = zi v6) (iv6 : ir v6) (hv : v_X12_solves_152 o a1 a2 a3 post' k57' J v4 v5 v6) : w_X12_solves_152 o (zi a1) (zi a2) (zi a3) post k57 (zz J) xv4 xv5 xv6 := by
  subst ev4
  subst ev5
  subst ev6
  unfold v_X12_solves_152 at hv
  unfold w_X12_solves_152
  obtain ⟨g29, hv⟩ := hv
  obtain ⟨g30, hv⟩ := hv
  obtain ⟨g31, hv⟩ := hv
  refine ⟨zvp (za (zm (by decide : (24 : Int32) = zi 24) (rfl : zi v4 = zi v4)) (rfl : zi v5 = zi v5)) g30 g31.1 g31.2, ?_⟩
  intro I1 eI1
  obtain ⟨J32, eJ32⟩ : ∃ q9 : mJ, q9 = up2 J (o + 17) (((24 * v4) + v5).toNat) v6 := ⟨_, rfl⟩
  have eI1 : I1 = zz J32 := by rw [eI1, eJ32]; exact zupa (za (zm (by decide : (24 : Int32) = zi 24) (rfl : zi v4 = zi v4)) (rfl : zi v5 = zi v5)) g30 g31.1 (rfl : zi v6 = zi v6)
  subst eI1
  have hv := hv J32 eJ32
  have hJ : irm J32 := by rw [eJ32]; exact irm_up hJ iv6
  obtain ⟨g33, hv⟩ := hv
  intro xy34 exy34
  obtain ⟨y34, eyy34⟩ : ∃ q9 : Int, q9 = v5 + 1 := ⟨_, rfl⟩
  have hv := hv y34 eyy34
  have Ey34 : xy34 = zi y34 := exy34.trans (((za (rfl : zi v5 = zi v5) (by decide : (1 : Int32) = zi 1))).trans (congrArg zi eyy34.symm))
  have Iy34 : ir y34 := by rw [eyy34]; exact g33
  clear exy34
  exact hk57 _ _ _ _ _ hJ (rfl : zi v4 = zi v4) iv4 Ey34 Iy34 hv
def v_X12_solves_57 (o : Nat) (a1 : Int) (a2 : Int) (a3 : Int) (post' : mJ → Prop) (k49' : mJ → Int → Prop) (J : mJ) (v4 : Int) (v5 : Int) : Prop := ∀ ZZ : (mJ → Int → Int → Prop), (∀ (J : mJ) (v4 : Int) (v5 : Int), (v_X12_of J o 0 (fun r10 => (r10 ≤ v5 → ir (v4 + (-1)) ∧ ∀ y12, y12 = v4 + (-1) → k49' J y12) ∧ (¬ r10 ≤ v5 → (v_X12_solves_75 o a1 a2 a3 post' (v_X12_solves_152 o a1 a2 a3 post' ZZ)) J v4 v5 1000000 0))) → ZZ J v4 v5) → ZZ J v4 v5
theorem vw_X12_solves_57 {o : Nat} {a1 : Int} {a2 : Int} {a3 : Int}  (ia1 : ir a1) (ia2 : ir a2) (ia3 : ir a3) {post : mI → Prop} {post' : mJ → Prop} {k49' : mJ → Int → Prop} {k49 : mI → Int32 → Prop} (hp : ∀ (J1 : mJ), irm J1 → post' J1 → post (zz J1)) (hk49 : ∀ (J : mJ) (xv4 : Int32) (v4 : Int), irm J → xv4 = zi v4 → ir v4 → k49' J v4 → k49 (zz J) xv4) {J : mJ} {xv4 : Int32} {v4 : Int} {xv5 : Int32} {v5 : Int} (hJ : irm J) (ev4 : xv4 = zi v4) (iv4 : ir v4) (ev5 : xv5 = zi v5) (iv5 : ir v5) (hv : v_X12_solves_57 o a1 a2 a3 post' k49' J v4 v5) : w_X12_solves_57 o (zi a1) (zi a2) (zi a3) post k49 (zz J) xv4 xv5 := by
  subst ev4
  subst ev5
  unfold v_X12_solves_57 at hv
  unfold w_X12_solves_57
  intro ZZ hZ
  refine hv (fun J v4 v5 => ∀ (xv4 : Int32) (xv5 : Int32), irm J → xv4 = zi v4 → ir v4 → xv5 = zi v5 → ir v5 → ZZ (zz J) xv4 xv5) ?_ _ _ hJ rfl iv4 rfl iv5
  clear hv hJ iv4 iv5
  intro J v4 v5 hv xv4 xv5 hJ ev4 iv4 ev5 iv5
  subst ev4
  subst ev5
  refine hZ _ _ _ ?_
  refine vw_X12_of hJ (by decide : (0 : Int32) = zi 0) (by decide : ir 0) (fun xr10 r10 Er10 Ir10 hv => ?_) hv
  refine ⟨fun cq => ?_, fun cq => ?_⟩
  · have hv := hv.1 ((zle Er10 (rfl : zi v5 = zi v5) Ir10 iv5).mp cq)
    obtain ⟨g11, hv⟩ := hv
    intro xy12 exy12
    obtain ⟨y12, eyy12⟩ : ∃ q9 : Int, q9 = v4 + (-1) := ⟨_, rfl⟩
    have hv := hv y12 eyy12
    have Ey12 : xy12 = zi y12 := exy12.trans (((za (rfl : zi v4 = zi v4) (by decide : ((-1) : Int32) = zi (-1)))).trans (congrArg zi eyy12.symm))
    have Iy12 : ir y12 := by rw [eyy12]; exact g11
    clear exy12
    exact hk49 _ _ _ hJ Ey12 Iy12 hv
  · have hv := hv.2 (fun q => cq ((zle Er10 (rfl : zi v5 = zi v5) Ir10 iv5).mpr q))
    refine vw_X12_solves_75 ia1 ia2 ia3 hp ?_ hJ (rfl : zi v4 = zi v4) iv4 (rfl : zi v5 = zi v5) iv5 (by decide : (1000000 : Int32) = zi 1000000) (by decide : ir 1000000) (by decide : (0 : Int32) = zi 0) (by decide : ir 0) hv
    · intro qq xx vv xx vv xx vv hJ ev4 iv4 ev5 iv5 ev6 iv6 hv
      refine vw_X12_solves_152 ia1 ia2 ia3 hp ?_ hJ ev4 iv4 ev5 iv5 ev6 iv6 hv
      · intro qq xx vv xx vv hJ ev4 iv4 ev5 iv5 hv
        exact hv _ _ hJ ev4 iv4 ev5 iv5
def v_X12_solves_49 (o : Nat) (a1 : Int) (a2 : Int) (a3 : Int) (post' : mJ → Prop) (J : mJ) (v4 : Int) : Prop := ∀ ZZ : (mJ → Int → Prop), (∀ (J : mJ) (v4 : Int), ((v4 < 0 → post' J) ∧ (¬ v4 < 0 → (v_X12_solves_57 o a1 a2 a3 post' ZZ) J v4 0)) → ZZ J v4) → ZZ J v4
theorem vw_X12_solves_49 {o : Nat} {a1 : Int} {a2 : Int} {a3 : Int}  (ia1 : ir a1) (ia2 : ir a2) (ia3 : ir a3) {post : mI → Prop} {post' : mJ → Prop} (hp : ∀ (J1 : mJ), irm J1 → post' J1 → post (zz J1)) {J : mJ} {xv4 : Int32} {v4 : Int} (hJ : irm J) (ev4 : xv4 = zi v4) (iv4 : ir v4) (hv : v_X12_solves_49 o a1 a2 a3 post' J v4) : w_X12_solves_49 o (zi a1) (zi a2) (zi a3) post (zz J) xv4 := by
  subst ev4
  unfold v_X12_solves_49 at hv
  unfold w_X12_solves_49
  intro ZZ hZ
  refine hv (fun J v4 => ∀ (xv4 : Int32), irm J → xv4 = zi v4 → ir v4 → ZZ (zz J) xv4) ?_ _ hJ rfl iv4
  clear hv hJ iv4
  intro J v4 hv xv4 hJ ev4 iv4
  subst ev4
  refine hZ _ _ ?_
  refine ⟨fun cq => ?_, fun cq => ?_⟩
  · have hv := hv.1 ((zlt (rfl : zi v4 = zi v4) (by decide : (0 : Int32) = zi 0) iv4 (by decide : ir 0)).mp cq)
    exact hp _ hJ hv
  · have hv := hv.2 (fun q => cq ((zlt (rfl : zi v4 = zi v4) (by decide : (0 : Int32) = zi 0) iv4 (by decide : ir 0)).mpr q))
    refine vw_X12_solves_57 ia1 ia2 ia3 hp ?_ hJ (rfl : zi v4 = zi v4) iv4 (by decide : (0 : Int32) = zi 0) (by decide : ir 0) hv
    · intro qq xx vv hJ ev4 iv4 hv
      exact hv _ hJ ev4 iv4
def v_X12_solves (J : mJ) (o : Nat) (a1 : Int) (a2 : Int) (a3 : Int) (post' : mJ → Prop) : Prop := (v_X12_solves_3 o a1 a2 a3 post' (v_X12_solves_49 o a1 a2 a3 post')) J 0
theorem vw_X12_solves {J : mJ} {o : Nat} {xa1 : Int32} {a1 : Int} {xa2 : Int32} {a2 : Int} {xa3 : Int32} {a3 : Int} (hJ : irm J)   (ea1 : xa1 = zi a1) (ia1 : ir a1) (ea2 : xa2 = zi a2) (ia2 : ir a2) (ea3 : xa3 = zi a3) (ia3 : ir a3) {post : mI → Prop} {post' : mJ → Prop} (hp : ∀ (J1 : mJ), irm J1 → post' J1 → post (zz J1)) (hv : v_X12_solves J o a1 a2 a3 post') : w_X12_solves (zz J) o xa1 xa2 xa3 post := by
  subst ea1
  subst ea2
  subst ea3
  unfold v_X12_solves at hv
  unfold w_X12_solves
  refine vw_X12_solves_3 ia1 ia2 ia3 hp ?_ hJ (by decide : (0 : Int32) = zi 0) (by decide : ir 0) hv
  · intro qq xx vv hJ ev4 iv4 hv
    exact vw_X12_solves_49 ia1 ia2 ia3 hp hJ ev4 iv4 hv
def v_X12_isWay_10 (o : Nat) (a1 : Int) (a2 : Int) (a3 : Int) (post' : Bool → mJ → Prop) (k63' : mJ → Prop) (J : mJ) (v4 : Int) : Prop := ∀ ZZ : (mJ → Int → Prop), (∀ (J : mJ) (v4 : Int), ((60 < v4 → k63' J) ∧ (¬ 60 < v4 → v_X12_solves J o a1 a3 v4 (fun J2 => (0 ≤ a2 ∧ a2 < 1464) ∧ ((J2 (o + 17) a2.toNat) < (J2 o 40) → (0 ≤ a2 ∧ a2 < 1464) ∧ ∀ J5, J5 = up2 J2 o 40 (J2 (o + 17) a2.toNat) → ∀ J6, J6 = up2 J5 o 41 v4 → ir (v4 + 1) ∧ ∀ y8, y8 = v4 + 1 → ZZ J6 y8) ∧ (¬ (J2 (o + 17) a2.toNat) < (J2 o 40) → ir (v4 + 1) ∧ ∀ y10, y10 = v4 + 1 → ZZ J2 y10)))) → ZZ J v4) → ZZ J v4
theorem vw_X12_isWay_10 {o : Nat} {a1 : Int} {a2 : Int} {a3 : Int}  (ia1 : ir a1) (ia2 : ir a2) (ia3 : ir a3) {post : Bool → mI → Prop} {post' : Bool → mJ → Prop} {k63' : mJ → Prop} {k63 : mI → Prop} (hp : ∀ (r : Bool) (J1 : mJ), irm J1 → post' r J1 → post r (zz J1)) (hk63 : ∀ (J : mJ), irm J → k63' J → k63 (zz J)) {J : mJ} {xv4 : Int32} {v4 : Int} (hJ : irm J) (ev4 : xv4 = zi v4) (iv4 : ir v4) (hv : v_X12_isWay_10 o a1 a2 a3 post' k63' J v4) : w_X12_isWay_10 o (zi a1) (zi a2) (zi a3) post k63 (zz J) xv4 := by
  subst ev4
  unfold v_X12_isWay_10 at hv
  unfold w_X12_isWay_10
  intro ZZ hZ
  refine hv (fun J v4 => ∀ (xv4 : Int32), irm J → xv4 = zi v4 → ir v4 → ZZ (zz J) xv4) ?_ _ hJ rfl iv4
  clear hv hJ iv4
  intro J v4 hv xv4 hJ ev4 iv4
  subst ev4
  refine hZ _ _ ?_
  refine ⟨fun cq => ?_, fun cq => ?_⟩
  · have hv := hv.1 ((zlt (by decide : (60 : Int32) = zi 60) (rfl : zi v4 = zi v4) (by decide : ir 60) iv4).mp cq)
    exact hk63 _ hJ hv
  · have hv := hv.2 (fun q => cq ((zlt (by decide : (60 : Int32) = zi 60) (rfl : zi v4 = zi v4) (by decide : ir 60) iv4).mpr q))
    refine vw_X12_solves hJ (rfl : zi a1 = zi a1) ia1 (rfl : zi a3 = zi a3) ia3 (rfl : zi v4 = zi v4) iv4 (fun J2 hJ hv => ?_) hv
    obtain ⟨g3, hv⟩ := hv
    refine ⟨zvp (rfl : zi a2 = zi a2) ia2 g3.1 g3.2, ?_⟩
    refine ⟨fun cq => ?_, fun cq => ?_⟩
    · have hv := hv.1 ((zlt (zrd (rfl : zi a2 = zi a2) ia2 g3.1) zrf (hJ _ _) (hJ _ _)).mp cq)
      obtain ⟨g4, hv⟩ := hv
      refine ⟨zvp (rfl : zi a2 = zi a2) ia2 g4.1 g4.2, ?_⟩
      intro I1 eI1
      obtain ⟨J5, eJ5⟩ : ∃ q9 : mJ, q9 = up2 J2 o 40 (J2 (o + 17) a2.toNat) := ⟨_, rfl⟩
      have eI1 : I1 = zz J5 := by rw [eI1, eJ5]; exact zup (zrd (rfl : zi a2 = zi a2) ia2 g4.1)
      subst eI1
      have hv := hv J5 eJ5
      have hJ : irm J5 := by rw [eJ5]; exact irm_up hJ (hJ _ _)
      intro I1 eI1
      obtain ⟨J6, eJ6⟩ : ∃ q9 : mJ, q9 = up2 J5 o 41 v4 := ⟨_, rfl⟩
      have eI1 : I1 = zz J6 := by rw [eI1, eJ6]; exact zup (rfl : zi v4 = zi v4)
      subst eI1
      have hv := hv J6 eJ6
      have hJ : irm J6 := by rw [eJ6]; exact irm_up hJ iv4
      obtain ⟨g7, hv⟩ := hv
      intro xy8 exy8
      obtain ⟨y8, eyy8⟩ : ∃ q9 : Int, q9 = v4 + 1 := ⟨_, rfl⟩
      have hv := hv y8 eyy8
      have Ey8 : xy8 = zi y8 := exy8.trans (((za (rfl : zi v4 = zi v4) (by decide : (1 : Int32) = zi 1))).trans (congrArg zi eyy8.symm))
      have Iy8 : ir y8 := by rw [eyy8]; exact g7
      clear exy8
      exact hv _ hJ Ey8 Iy8
    · have hv := hv.2 (fun q => cq ((zlt (zrd (rfl : zi a2 = zi a2) ia2 g3.1) zrf (hJ _ _) (hJ _ _)).mpr q))
      obtain ⟨g9, hv⟩ := hv
      intro xy10 exy10
      obtain ⟨y10, eyy10⟩ : ∃ q9 : Int, q9 = v4 + 1 := ⟨_, rfl⟩
      have hv := hv y10 eyy10
      have Ey10 : xy10 = zi y10 := exy10.trans (((za (rfl : zi v4 = zi v4) (by decide : (1 : Int32) = zi 1))).trans (congrArg zi eyy10.symm))
      have Iy10 : ir y10 := by rw [eyy10]; exact g9
      clear exy10
      exact hv _ hJ Ey10 Iy10
def v_X12_isWay_103 (o : Nat) (a1 : Int) (a2 : Int) (a3 : Int) (post' : Bool → mJ → Prop) (k165' : mJ → Int → Int → Prop) (J : mJ) (v4 : Int) (v5 : Int) (v6 : Int) : Prop := ∀ ZZ : (mJ → Int → Int → Int → Prop), (∀ (J : mJ) (v4 : Int) (v5 : Int) (v6 : Int), (v_X12_isReach J o a1 v4 v6 (fun b12 => (b12 = false → ir (v6 + 1) ∧ ∀ y14, y14 = v6 + 1 → ZZ J v4 v5 y14) ∧ (b12 = true → ir (v5 + 1) ∧ v_X12_stepCost J o (v5 + 1) v4 v6 (fun r16 => ir (v5 + 1) ∧ ir (24 * (v5 + 1)) ∧ ir ((24 * (v5 + 1)) + v6) ∧ (0 ≤ ((24 * (v5 + 1)) + v6) ∧ ((24 * (v5 + 1)) + v6) < 1464) ∧ ir (r16 + (J (o + 17) ((24 * (v5 + 1)) + v6).toNat)) ∧ ir (24 * v5) ∧ ir ((24 * v5) + v4) ∧ (0 ≤ ((24 * v5) + v4) ∧ ((24 * v5) + v4) < 1464) ∧ ((r16 + (J (o + 17) ((24 * (v5 + 1)) + v6).toNat)) = (J (o + 17) ((24 * v5) + v4).toNat) → k165' J v5 v6) ∧ (¬ (r16 + (J (o + 17) ((24 * (v5 + 1)) + v6).toNat)) = (J (o + 17) ((24 * v5) + v4).toNat) → ir (v6 + 1) ∧ ∀ y26, y26 = v6 + 1 → ZZ J v4 v5 y26))))) → ZZ J v4 v5 v6) → ZZ J v4 v5 v6
theorem vw_X12_isWay_103 {o : Nat} {a1 : Int} {a2 : Int} {a3 : Int}  (ia1 : ir a1) (ia2 : ir a2) (ia3 : ir a3) {post : Bool → mI → Prop} {post' : Bool → mJ → Prop} {k165' : mJ → Int → Int → Prop} {k165 : mI → Int32 → Int32 → Prop} (hp : ∀ (r : Bool) (J1 : mJ), irm J1 → post' r J1 → post r (zz J1)) (hk165 : ∀ (J : mJ) (xv5 : Int32) (v5 : Int) (xv6 : Int32) (v6 : Int), irm J → xv5 = zi v5 → ir v5 → xv6 = zi v6 → ir v6 → k165' J v5 v6 → k165 (zz J) xv5 xv6) {J : mJ} {xv4 : Int32} {v4 : Int} {xv5 : Int32} {v5 : Int} {xv6 : Int32} {v6 : Int} (hJ : irm J) (ev4 : xv4 = zi v4) (iv4 : ir v4) (ev5 : xv5 = zi v5) (iv5 : ir v5) (ev6 : xv6 = zi v6) (iv6 : ir v6) (hv : v_X12_isWay_103 o a1 a2 a3 post' k165' J v4 v5 v6) : w_X12_isWay_103 o (zi a1) (zi a2) (zi a3) post k165 (zz J) xv4 xv5 xv6 := by
  subst ev4
  subst ev5
  subst ev6
  unfold v_X12_isWay_103 at hv
  unfold w_X12_isWay_103
  intro ZZ hZ
  refine hv (fun J v4 v5 v6 => ∀ (xv4 : Int32) (xv5 : Int32) (xv6 : Int32), irm J → xv4 = zi v4 → ir v4 → xv5 = zi v5 → ir v5 → xv6 = zi v6 → ir v6 → ZZ (zz J) xv4 xv5 xv6) ?_ _ _ _ hJ rfl iv4 rfl iv5 rfl iv6
  clear hv hJ iv4 iv5 iv6
  intro J v4 v5 v6 hv xv4 xv5 xv6 hJ ev4 iv4 ev5 iv5 ev6 iv6
  subst ev4
  subst ev5
  subst ev6
  refine hZ _ _ _ _ ?_
  refine vw_X12_isReach hJ (rfl : zi a1 = zi a1) ia1 (rfl : zi v4 = zi v4) iv4 (rfl : zi v6 = zi v6) iv6 (fun b12  hv => ?_) hv
  refine ⟨fun cq => ?_, fun cq => ?_⟩
  · have hv := hv.1 cq
    obtain ⟨g13, hv⟩ := hv
    intro xy14 exy14
    obtain ⟨y14, eyy14⟩ : ∃ q9 : Int, q9 = v6 + 1 := ⟨_, rfl⟩
    have hv := hv y14 eyy14
    have Ey14 : xy14 = zi y14 := exy14.trans (((za (rfl : zi v6 = zi v6) (by decide : (1 : Int32) = zi 1))).trans (congrArg zi eyy14.symm))
    have Iy14 : ir y14 := by rw [eyy14]; exact g13
    clear exy14
    exact hv _ _ _ hJ (rfl : zi v4 = zi v4) iv4 (rfl : zi v5 = zi v5) iv5 Ey14 Iy14
  · have hv := hv.2 cq
    obtain ⟨g15, hv⟩ := hv
    refine vw_X12_stepCost hJ (za (rfl : zi v5 = zi v5) (by decide : (1 : Int32) = zi 1)) g15 (rfl : zi v4 = zi v4) iv4 (rfl : zi v6 = zi v6) iv6 (fun xr16 r16 Er16 Ir16 hv => ?_) hv
    obtain ⟨g17, hv⟩ := hv
    obtain ⟨g18, hv⟩ := hv
    obtain ⟨g19, hv⟩ := hv
    obtain ⟨g20, hv⟩ := hv
    refine ⟨zvp (za (zm (by decide : (24 : Int32) = zi 24) (za (rfl : zi v5 = zi v5) (by decide : (1 : Int32) = zi 1))) (rfl : zi v6 = zi v6)) g19 g20.1 g20.2, ?_⟩
    obtain ⟨g21, hv⟩ := hv
    obtain ⟨g22, hv⟩ := hv
    obtain ⟨g23, hv⟩ := hv
    obtain ⟨g24, hv⟩ := hv
    refine ⟨zvp (za (zm (by decide : (24 : Int32) = zi 24) (rfl : zi v5 = zi v5)) (rfl : zi v4 = zi v4)) g23 g24.1 g24.2, ?_⟩
    refine ⟨fun cq => ?_, fun cq => ?_⟩
    · have hv := hv.1 ((zeq (za Er16 (zrd (za (zm (by decide : (24 : Int32) = zi 24) (za (rfl : zi v5 = zi v5) (by decide : (1 : Int32) = zi 1))) (rfl : zi v6 = zi v6)) g19 g20.1)) (zrd (za (zm (by decide : (24 : Int32) = zi 24) (rfl : zi v5 = zi v5)) (rfl : zi v4 = zi v4)) g23 g24.1) g21 (hJ _ _)).mp cq)
      exact hk165 _ _ _ _ _ hJ (rfl : zi v5 = zi v5) iv5 (rfl : zi v6 = zi v6) iv6 hv
    · have hv := hv.2 (fun q => cq ((zeq (za Er16 (zrd (za (zm (by decide : (24 : Int32) = zi 24) (za (rfl : zi v5 = zi v5) (by decide : (1 : Int32) = zi 1))) (rfl : zi v6 = zi v6)) g19 g20.1)) (zrd (za (zm (by decide : (24 : Int32) = zi 24) (rfl : zi v5 = zi v5)) (rfl : zi v4 = zi v4)) g23 g24.1) g21 (hJ _ _)).mpr q))
      obtain ⟨g25, hv⟩ := hv
      intro xy26 exy26
      obtain ⟨y26, eyy26⟩ : ∃ q9 : Int, q9 = v6 + 1 := ⟨_, rfl⟩
      have hv := hv y26 eyy26
      have Ey26 : xy26 = zi y26 := exy26.trans (((za (rfl : zi v6 = zi v6) (by decide : (1 : Int32) = zi 1))).trans (congrArg zi eyy26.symm))
      have Iy26 : ir y26 := by rw [eyy26]; exact g25
      clear exy26
      exact hv _ _ _ hJ (rfl : zi v4 = zi v4) iv4 (rfl : zi v5 = zi v5) iv5 Ey26 Iy26
def v_X12_isWay_165 (o : Nat) (a1 : Int) (a2 : Int) (a3 : Int) (post' : Bool → mJ → Prop) (k91' : mJ → Int → Int → Prop) (J : mJ) (v5 : Int) (v6 : Int) : Prop := (0 ≤ v5 ∧ v5 < 61) ∧ ∀ J28, J28 = up2 J (o + 18) v5.toNat v6 → ir (v5 + 1) ∧ ∀ y30, y30 = v5 + 1 → k91' J28 v6 y30
theorem vw_X12_isWay_165 {o : Nat} {a1 : Int} {a2 : Int} {a3 : Int}  (ia1 : ir a1) (ia2 : ir a2) (ia3 : ir a3) {post : Bool → mI → Prop} {post' : Bool → mJ → Prop} {k91' : mJ → Int → Int → Prop} {k91 : mI → Int32 → Int32 → Prop} (hp : ∀ (r : Bool) (J1 : mJ), irm J1 → post' r J1 → post r (zz J1)) (hk91 : ∀ (J : mJ) (xv4 : Int32) (v4 : Int) (xv5 : Int32) (v5 : Int), irm J → xv4 = zi v4 → ir v4 → xv5 = zi v5 → ir v5 → k91' J v4 v5 → k91 (zz J) xv4 xv5) {J : mJ} {xv5 : Int32} {v5 : Int} {xv6 : Int32} {v6 : Int} (hJ : irm J) (ev5 : xv5 = zi v5) (iv5 : ir v5) (ev6 : xv6 = zi v6) (iv6 : ir v6) (hv : v_X12_isWay_165 o a1 a2 a3 post' k91' J v5 v6) : w_X12_isWay_165 o (zi a1) (zi a2) (zi a3) post k91 (zz J) xv5 xv6 := by
  subst ev5
  subst ev6
  unfold v_X12_isWay_165 at hv
  unfold w_X12_isWay_165
  obtain ⟨g27, hv⟩ := hv
  refine ⟨zvp (rfl : zi v5 = zi v5) iv5 g27.1 g27.2, ?_⟩
  intro I1 eI1
  obtain ⟨J28, eJ28⟩ : ∃ q9 : mJ, q9 = up2 J (o + 18) v5.toNat v6 := ⟨_, rfl⟩
  have eI1 : I1 = zz J28 := by rw [eI1, eJ28]; exact zupa (rfl : zi v5 = zi v5) iv5 g27.1 (rfl : zi v6 = zi v6)
  subst eI1
  have hv := hv J28 eJ28
  have hJ : irm J28 := by rw [eJ28]; exact irm_up hJ iv6
  obtain ⟨g29, hv⟩ := hv
  intro xy30 exy30
  obtain ⟨y30, eyy30⟩ : ∃ q9 : Int, q9 = v5 + 1 := ⟨_, rfl⟩
  have hv := hv y30 eyy30
  have Ey30 : xy30 = zi y30 := exy30.trans (((za (rfl : zi v5 = zi v5) (by decide : (1 : Int32) = zi 1))).trans (congrArg zi eyy30.symm))
  have Iy30 : ir y30 := by rw [eyy30]; exact g29
  clear exy30
  exact hk91 _ _ _ _ _ hJ (rfl : zi v6 = zi v6) iv6 Ey30 Iy30 hv
def v_X12_isWay_91 (o : Nat) (a1 : Int) (a2 : Int) (a3 : Int) (post' : Bool → mJ → Prop) (J : mJ) (v4 : Int) (v5 : Int) : Prop := ∀ ZZ : (mJ → Int → Int → Prop), (∀ (J : mJ) (v4 : Int) (v5 : Int), (((J o 41) ≤ v5 → post' true J) ∧ (¬ (J o 41) ≤ v5 → (v_X12_isWay_103 o a1 a2 a3 post' (v_X12_isWay_165 o a1 a2 a3 post' ZZ)) J v4 v5 0)) → ZZ J v4 v5) → ZZ J v4 v5
theorem vw_X12_isWay_91 {o : Nat} {a1 : Int} {a2 : Int} {a3 : Int}  (ia1 : ir a1) (ia2 : ir a2) (ia3 : ir a3) {post : Bool → mI → Prop} {post' : Bool → mJ → Prop} (hp : ∀ (r : Bool) (J1 : mJ), irm J1 → post' r J1 → post r (zz J1)) {J : mJ} {xv4 : Int32} {v4 : Int} {xv5 : Int32} {v5 : Int} (hJ : irm J) (ev4 : xv4 = zi v4) (iv4 : ir v4) (ev5 : xv5 = zi v5) (iv5 : ir v5) (hv : v_X12_isWay_91 o a1 a2 a3 post' J v4 v5) : w_X12_isWay_91 o (zi a1) (zi a2) (zi a3) post (zz J) xv4 xv5 := by
  subst ev4
  subst ev5
  unfold v_X12_isWay_91 at hv
  unfold w_X12_isWay_91
  intro ZZ hZ
  refine hv (fun J v4 v5 => ∀ (xv4 : Int32) (xv5 : Int32), irm J → xv4 = zi v4 → ir v4 → xv5 = zi v5 → ir v5 → ZZ (zz J) xv4 xv5) ?_ _ _ hJ rfl iv4 rfl iv5
  clear hv hJ iv4 iv5
  intro J v4 v5 hv xv4 xv5 hJ ev4 iv4 ev5 iv5
  subst ev4
  subst ev5
  refine hZ _ _ _ ?_
  refine ⟨fun cq => ?_, fun cq => ?_⟩
  · have hv := hv.1 ((zle zrf (rfl : zi v5 = zi v5) (hJ _ _) iv5).mp cq)
    exact hp _ _ hJ hv
  · have hv := hv.2 (fun q => cq ((zle zrf (rfl : zi v5 = zi v5) (hJ _ _) iv5).mpr q))
    refine vw_X12_isWay_103 ia1 ia2 ia3 hp ?_ hJ (rfl : zi v4 = zi v4) iv4 (rfl : zi v5 = zi v5) iv5 (by decide : (0 : Int32) = zi 0) (by decide : ir 0) hv
    · intro qq xx vv xx vv hJ ev5 iv5 ev6 iv6 hv
      refine vw_X12_isWay_165 ia1 ia2 ia3 hp ?_ hJ ev5 iv5 ev6 iv6 hv
      · intro qq xx vv xx vv hJ ev4 iv4 ev5 iv5 hv
        exact hv _ _ hJ ev4 iv4 ev5 iv5
def v_X12_isWay_63 (o : Nat) (a1 : Int) (a2 : Int) (a3 : Int) (post' : Bool → mJ → Prop) (J : mJ) : Prop := ((J o 40) < 1000000 → v_X12_solves J o a1 a3 (J o 41) (fun J11 => (v_X12_isWay_91 o a1 a2 a3 post') J11 a2 0)) ∧ (¬ (J o 40) < 1000000 → post' false J)
theorem vw_X12_isWay_63 {o : Nat} {a1 : Int} {a2 : Int} {a3 : Int}  (ia1 : ir a1) (ia2 : ir a2) (ia3 : ir a3) {post : Bool → mI → Prop} {post' : Bool → mJ → Prop} (hp : ∀ (r : Bool) (J1 : mJ), irm J1 → post' r J1 → post r (zz J1)) {J : mJ} (hJ : irm J) (hv : v_X12_isWay_63 o a1 a2 a3 post' J) : w_X12_isWay_63 o (zi a1) (zi a2) (zi a3) post (zz J) := by
  unfold v_X12_isWay_63 at hv
  unfold w_X12_isWay_63
  refine ⟨fun cq => ?_, fun cq => ?_⟩
  · have hv := hv.1 ((zlt zrf (by decide : (1000000 : Int32) = zi 1000000) (hJ _ _) (by decide : ir 1000000)).mp cq)
    refine vw_X12_solves hJ (rfl : zi a1 = zi a1) ia1 (rfl : zi a3 = zi a3) ia3 zrf (hJ _ _) (fun J11 hJ hv => ?_) hv
    exact vw_X12_isWay_91 ia1 ia2 ia3 hp hJ (rfl : zi a2 = zi a2) ia2 (by decide : (0 : Int32) = zi 0) (by decide : ir 0) hv
  · have hv := hv.2 (fun q => cq ((zlt zrf (by decide : (1000000 : Int32) = zi 1000000) (hJ _ _) (by decide : ir 1000000)).mpr q))
    exact hp _ _ hJ hv
def v_X12_isWay (J : mJ) (o : Nat) (a1 : Int) (a2 : Int) (a3 : Int) (post' : Bool → mJ → Prop) : Prop := ∀ J1, J1 = up2 J o 40 1000000 → (v_X12_isWay_10 o a1 a2 a3 post' (v_X12_isWay_63 o a1 a2 a3 post')) J1 0
theorem vw_X12_isWay {J : mJ} {o : Nat} {xa1 : Int32} {a1 : Int} {xa2 : Int32} {a2 : Int} {xa3 : Int32} {a3 : Int} (hJ : irm J)   (ea1 : xa1 = zi a1) (ia1 : ir a1) (ea2 : xa2 = zi a2) (ia2 : ir a2) (ea3 : xa3 = zi a3) (ia3 : ir a3) {post : Bool → mI → Prop} {post' : Bool → mJ → Prop} (hp : ∀ (r : Bool) (J1 : mJ), irm J1 → post' r J1 → post r (zz J1)) (hv : v_X12_isWay J o a1 a2 a3 post') : w_X12_isWay (zz J) o xa1 xa2 xa3 post := by
  subst ea1
  subst ea2
  subst ea3
  unfold v_X12_isWay at hv
  unfold w_X12_isWay
  intro I1 eI1
  obtain ⟨J1, eJ1⟩ : ∃ q9 : mJ, q9 = up2 J o 40 1000000 := ⟨_, rfl⟩
  have eI1 : I1 = zz J1 := by rw [eI1, eJ1]; exact zup (by decide : (1000000 : Int32) = zi 1000000)
  subst eI1
  have hv := hv J1 eJ1
  have hJ : irm J1 := by rw [eJ1]; exact irm_up hJ (by decide : ir 1000000)
  refine vw_X12_isWay_10 ia1 ia2 ia3 hp ?_ hJ (by decide : (0 : Int32) = zi 0) (by decide : ir 0) hv
  · intro qq hJ hv
    exact vw_X12_isWay_63 ia1 ia2 ia3 hp hJ hv
def v_X12_isAsked (J : mJ) (o : Nat) (a1 : Int) (a2 : Int) (a3 : Int) (a4 : Int) (a5 : Int) (post' : Bool → mJ → Prop) : Prop := v_X12_isHouse J o a1 (fun b1 J2 => (b1 = false → post' false J2) ∧ (b1 = true → v_X12_isPerson J2 o a2 (fun b3 => (b3 = false → post' false J2) ∧ (b3 = true → v_X12_isStep J2 o a3 (fun b4 => (b4 = false → post' false J2) ∧ (b4 = true → v_X12_isStep J2 o a4 (fun b5 => (b5 = false → post' false J2) ∧ (b5 = true → v_X12_isMinute o a5 (fun b6 => (b6 = false → post' false J2) ∧ (b6 = true → post' true J2))))))))))
theorem vw_X12_isAsked {J : mJ} {o : Nat} {xa1 : Int32} {a1 : Int} {xa2 : Int32} {a2 : Int} {xa3 : Int32} {a3 : Int} {xa4 : Int32} {a4 : Int} {xa5 : Int32} {a5 : Int} (hJ : irm J)   (ea1 : xa1 = zi a1) (ia1 : ir a1) (ea2 : xa2 = zi a2) (ia2 : ir a2) (ea3 : xa3 = zi a3) (ia3 : ir a3) (ea4 : xa4 = zi a4) (ia4 : ir a4) (ea5 : xa5 = zi a5) (ia5 : ir a5) {post : Bool → mI → Prop} {post' : Bool → mJ → Prop} (hp : ∀ (r : Bool) (J1 : mJ), irm J1 → post' r J1 → post r (zz J1)) (hv : v_X12_isAsked J o a1 a2 a3 a4 a5 post') : w_X12_isAsked (zz J) o xa1 xa2 xa3 xa4 xa5 post := by
  subst ea1
  subst ea2
  subst ea3
  subst ea4
  subst ea5
  unfold v_X12_isAsked at hv
  unfold w_X12_isAsked
  refine vw_X12_isHouse hJ (rfl : zi a1 = zi a1) ia1 (fun b1 J2 hJ hv => ?_) hv
  refine ⟨fun cq => ?_, fun cq => ?_⟩
  · have hv := hv.1 cq
    exact hp _ _ hJ hv
  · have hv := hv.2 cq
    refine vw_X12_isPerson hJ (rfl : zi a2 = zi a2) ia2 (fun b3  hv => ?_) hv
    refine ⟨fun cq => ?_, fun cq => ?_⟩
    · have hv := hv.1 cq
      exact hp _ _ hJ hv
    · have hv := hv.2 cq
      refine vw_X12_isStep hJ (rfl : zi a3 = zi a3) ia3 (fun b4  hv => ?_) hv
      refine ⟨fun cq => ?_, fun cq => ?_⟩
      · have hv := hv.1 cq
        exact hp _ _ hJ hv
      · have hv := hv.2 cq
        refine vw_X12_isStep hJ (rfl : zi a4 = zi a4) ia4 (fun b5  hv => ?_) hv
        refine ⟨fun cq => ?_, fun cq => ?_⟩
        · have hv := hv.1 cq
          exact hp _ _ hJ hv
        · have hv := hv.2 cq
          refine vw_X12_isMinute (rfl : zi a5 = zi a5) ia5 (fun b6  hv => ?_) hv
          refine ⟨fun cq => ?_, fun cq => ?_⟩
          · have hv := hv.1 cq
            exact hp _ _ hJ hv
          · have hv := hv.2 cq
            exact hp _ _ hJ hv
def v_X12_home (J : mJ) (o : Nat) (a1 : Int) (a2 : Int) (a3 : Int) (a4 : Int) (a5 : Int) (a6 : Int) (a7 : Int) (post' : Int → mJ → Prop) : Prop := v_X12_isAsked J o a1 a2 a3 a4 a5 (fun b1 J2 => (b1 = false → post' (-1) J2) ∧ (b1 = true → v_X12_flats J2 o (fun r3 => ir ((shlZ 1 r3) - 1) ∧ v_X12_isIn a6 0 ((shlZ 1 r3) - 1) (fun b5 => (b5 = true → v_X12_costs J2 o a2 a5 a6 0 (fun J6 => v_X12_isWay J6 o a2 a3 a4 (fun b7 J8 => (b7 = true → (¬ a7 = 0 → ir (9 + (J8 o 41)) ∧ v_X12_isIn a7 10 (9 + (J8 o 41)) (fun b10 => (b10 = false → post' (-1) J8) ∧ (b10 = true → ir (a7 - 10) ∧ (0 ≤ (a7 - 10) ∧ (a7 - 10) < 61) ∧ post' (J8 (o + 18) (a7 - 10).toNat) J8))) ∧ (a7 = 0 → post' (J8 o 41) J8)) ∧ (b7 = false → post' (-1) J8)))) ∧ (b5 = false → post' (-1) J2)))))
theorem vw_X12_home {J : mJ} {o : Nat} {xa1 : Int32} {a1 : Int} {xa2 : Int32} {a2 : Int} {xa3 : Int32} {a3 : Int} {xa4 : Int32} {a4 : Int} {xa5 : Int32} {a5 : Int} {xa6 : Int32} {a6 : Int} {xa7 : Int32} {a7 : Int} (hJ : irm J)   (ea1 : xa1 = zi a1) (ia1 : ir a1) (ea2 : xa2 = zi a2) (ia2 : ir a2) (ea3 : xa3 = zi a3) (ia3 : ir a3) (ea4 : xa4 = zi a4) (ia4 : ir a4) (ea5 : xa5 = zi a5) (ia5 : ir a5) (ea6 : xa6 = zi a6) (ia6 : ir a6) (ea7 : xa7 = zi a7) (ia7 : ir a7) {post : Int32 → mI → Prop} {post' : Int → mJ → Prop} (hp : ∀ (x : Int32) (r : Int) (J1 : mJ), x = zi r → ir r → irm J1 → post' r J1 → post x (zz J1)) (hv : v_X12_home J o a1 a2 a3 a4 a5 a6 a7 post') : w_X12_home (zz J) o xa1 xa2 xa3 xa4 xa5 xa6 xa7 post := by
  subst ea1
  subst ea2
  subst ea3
  subst ea4
  subst ea5
  subst ea6
  subst ea7
  unfold v_X12_home at hv
  unfold w_X12_home
  refine vw_X12_isAsked hJ (rfl : zi a1 = zi a1) ia1 (rfl : zi a2 = zi a2) ia2 (rfl : zi a3 = zi a3) ia3 (rfl : zi a4 = zi a4) ia4 (rfl : zi a5 = zi a5) ia5 (fun b1 J2 hJ hv => ?_) hv
  refine ⟨fun cq => ?_, fun cq => ?_⟩
  · have hv := hv.1 cq
    exact hp _ _ _ (by decide : ((-1) : Int32) = zi (-1)) (by decide : ir (-1)) hJ hv
  · have hv := hv.2 cq
    refine vw_X12_flats hJ  (fun xr3 r3 Er3 Ir3 hv => ?_) hv
    obtain ⟨g4, hv⟩ := hv
    refine vw_X12_isIn (rfl : zi a6 = zi a6) ia6 (by decide : (0 : Int32) = zi 0) (by decide : ir 0) (zs (z_shl (by decide : (1 : Int32) = zi 1) Er3) (by decide : (1 : Int32) = zi 1)) g4 (fun b5  hv => ?_) hv
    refine ⟨fun cq => ?_, fun cq => ?_⟩
    · have hv := hv.1 cq
      refine vw_X12_costs hJ (rfl : zi a2 = zi a2) ia2 (rfl : zi a5 = zi a5) ia5 (rfl : zi a6 = zi a6) ia6 (by decide : (0 : Int32) = zi 0) (by decide : ir 0) (fun J6 hJ hv => ?_) hv
      refine vw_X12_isWay hJ (rfl : zi a2 = zi a2) ia2 (rfl : zi a3 = zi a3) ia3 (rfl : zi a4 = zi a4) ia4 (fun b7 J8 hJ hv => ?_) hv
      refine ⟨fun cq => ?_, fun cq => ?_⟩
      · have hv := hv.1 cq
        refine ⟨fun cq => ?_, fun cq => ?_⟩
        · have hv := hv.1 (fun q => cq ((zeq (rfl : zi a7 = zi a7) (by decide : (0 : Int32) = zi 0) ia7 (by decide : ir 0)).mpr q))
          obtain ⟨g9, hv⟩ := hv
          refine vw_X12_isIn (rfl : zi a7 = zi a7) ia7 (by decide : (10 : Int32) = zi 10) (by decide : ir 10) (za (by decide : (9 : Int32) = zi 9) zrf) g9 (fun b10  hv => ?_) hv
          refine ⟨fun cq => ?_, fun cq => ?_⟩
          · have hv := hv.1 cq
            exact hp _ _ _ (by decide : ((-1) : Int32) = zi (-1)) (by decide : ir (-1)) hJ hv
          · have hv := hv.2 cq
            obtain ⟨g11, hv⟩ := hv
            obtain ⟨g12, hv⟩ := hv
            refine ⟨zvp (zs (rfl : zi a7 = zi a7) (by decide : (10 : Int32) = zi 10)) g11 g12.1 g12.2, ?_⟩
            exact hp _ _ _ (zrd (zs (rfl : zi a7 = zi a7) (by decide : (10 : Int32) = zi 10)) g11 g12.1) (hJ _ _) hJ hv
        · have hv := hv.2 ((zeq (rfl : zi a7 = zi a7) (by decide : (0 : Int32) = zi 0) ia7 (by decide : ir 0)).mp cq)
          exact hp _ _ _ zrf (hJ _ _) hJ hv
      · have hv := hv.2 cq
        exact hp _ _ _ (by decide : ((-1) : Int32) = zi (-1)) (by decide : ir (-1)) hJ hv
    · have hv := hv.2 cq
      exact hp _ _ _ (by decide : ((-1) : Int32) = zi (-1)) (by decide : ir (-1)) hJ hv
def v_X12_thief (J : mJ) (o : Nat) (a1 : Int) (a2 : Int) (a3 : Int) (a4 : Int) (a5 : Int) (a6 : Int) (post' : Int → mJ → Prop) : Prop := v_X12_isAsked J o a1 a2 a3 a4 a5 (fun b1 J2 => (b1 = true → v_X12_flats J2 o (fun r3 => ir ((shlZ 1 r3) - 1) ∧ v_X12_costs J2 o a2 a5 ((shlZ 1 r3) - 1) 1 (fun J5 => v_X12_isWay J5 o a2 a3 a4 (fun b6 J7 => (b6 = true → (¬ a6 = 0 → (¬ a6 = 1 → ir (9 + (J7 o 41)) ∧ v_X12_isIn a6 10 (9 + (J7 o 41)) (fun b9 => (b9 = false → post' (-1) J7) ∧ (b9 = true → ir (a6 - 10) ∧ (0 ≤ (a6 - 10) ∧ (a6 - 10) < 61) ∧ post' (J7 (o + 18) (a6 - 10).toNat) J7))) ∧ (a6 = 1 → post' (J7 o 41) J7)) ∧ (a6 = 0 → post' (J7 o 40) J7)) ∧ (b6 = false → post' (-1) J7))))) ∧ (b1 = false → post' (-1) J2))
theorem vw_X12_thief {J : mJ} {o : Nat} {xa1 : Int32} {a1 : Int} {xa2 : Int32} {a2 : Int} {xa3 : Int32} {a3 : Int} {xa4 : Int32} {a4 : Int} {xa5 : Int32} {a5 : Int} {xa6 : Int32} {a6 : Int} (hJ : irm J)   (ea1 : xa1 = zi a1) (ia1 : ir a1) (ea2 : xa2 = zi a2) (ia2 : ir a2) (ea3 : xa3 = zi a3) (ia3 : ir a3) (ea4 : xa4 = zi a4) (ia4 : ir a4) (ea5 : xa5 = zi a5) (ia5 : ir a5) (ea6 : xa6 = zi a6) (ia6 : ir a6) {post : Int32 → mI → Prop} {post' : Int → mJ → Prop} (hp : ∀ (x : Int32) (r : Int) (J1 : mJ), x = zi r → ir r → irm J1 → post' r J1 → post x (zz J1)) (hv : v_X12_thief J o a1 a2 a3 a4 a5 a6 post') : w_X12_thief (zz J) o xa1 xa2 xa3 xa4 xa5 xa6 post := by
  subst ea1
  subst ea2
  subst ea3
  subst ea4
  subst ea5
  subst ea6
  unfold v_X12_thief at hv
  unfold w_X12_thief
  refine vw_X12_isAsked hJ (rfl : zi a1 = zi a1) ia1 (rfl : zi a2 = zi a2) ia2 (rfl : zi a3 = zi a3) ia3 (rfl : zi a4 = zi a4) ia4 (rfl : zi a5 = zi a5) ia5 (fun b1 J2 hJ hv => ?_) hv
  refine ⟨fun cq => ?_, fun cq => ?_⟩
  · have hv := hv.1 cq
    refine vw_X12_flats hJ  (fun xr3 r3 Er3 Ir3 hv => ?_) hv
    obtain ⟨g4, hv⟩ := hv
    refine vw_X12_costs hJ (rfl : zi a2 = zi a2) ia2 (rfl : zi a5 = zi a5) ia5 (zs (z_shl (by decide : (1 : Int32) = zi 1) Er3) (by decide : (1 : Int32) = zi 1)) g4 (by decide : (1 : Int32) = zi 1) (by decide : ir 1) (fun J5 hJ hv => ?_) hv
    refine vw_X12_isWay hJ (rfl : zi a2 = zi a2) ia2 (rfl : zi a3 = zi a3) ia3 (rfl : zi a4 = zi a4) ia4 (fun b6 J7 hJ hv => ?_) hv
    refine ⟨fun cq => ?_, fun cq => ?_⟩
    · have hv := hv.1 cq
      refine ⟨fun cq => ?_, fun cq => ?_⟩
      · have hv := hv.1 (fun q => cq ((zeq (rfl : zi a6 = zi a6) (by decide : (0 : Int32) = zi 0) ia6 (by decide : ir 0)).mpr q))
        refine ⟨fun cq => ?_, fun cq => ?_⟩
        · have hv := hv.1 (fun q => cq ((zeq (rfl : zi a6 = zi a6) (by decide : (1 : Int32) = zi 1) ia6 (by decide : ir 1)).mpr q))
          obtain ⟨g8, hv⟩ := hv
          refine vw_X12_isIn (rfl : zi a6 = zi a6) ia6 (by decide : (10 : Int32) = zi 10) (by decide : ir 10) (za (by decide : (9 : Int32) = zi 9) zrf) g8 (fun b9  hv => ?_) hv
          refine ⟨fun cq => ?_, fun cq => ?_⟩
          · have hv := hv.1 cq
            exact hp _ _ _ (by decide : ((-1) : Int32) = zi (-1)) (by decide : ir (-1)) hJ hv
          · have hv := hv.2 cq
            obtain ⟨g10, hv⟩ := hv
            obtain ⟨g11, hv⟩ := hv
            refine ⟨zvp (zs (rfl : zi a6 = zi a6) (by decide : (10 : Int32) = zi 10)) g10 g11.1 g11.2, ?_⟩
            exact hp _ _ _ (zrd (zs (rfl : zi a6 = zi a6) (by decide : (10 : Int32) = zi 10)) g10 g11.1) (hJ _ _) hJ hv
        · have hv := hv.2 ((zeq (rfl : zi a6 = zi a6) (by decide : (1 : Int32) = zi 1) ia6 (by decide : ir 1)).mp cq)
          exact hp _ _ _ zrf (hJ _ _) hJ hv
      · have hv := hv.2 ((zeq (rfl : zi a6 = zi a6) (by decide : (0 : Int32) = zi 0) ia6 (by decide : ir 0)).mp cq)
        exact hp _ _ _ zrf (hJ _ _) hJ hv
    · have hv := hv.2 cq
      exact hp _ _ _ (by decide : ((-1) : Int32) = zi (-1)) (by decide : ir (-1)) hJ hv
  · have hv := hv.2 cq
    exact hp _ _ _ (by decide : ((-1) : Int32) = zi (-1)) (by decide : ir (-1)) hJ hv
def v_X12_bits_4 (a1 : Int) (post' : Int → Prop) (v1 : Int) (v2 : Int) : Prop := ∀ ZZ : (Int → Int → Prop), (∀ (v1 : Int) (v2 : Int), ((31 ≤ v2 → post' v1) ∧ (¬ 31 ≤ v2 → ir (v1 + (andZ (shrZ a1 v2) 1)) ∧ ∀ y2, y2 = (v1 + (andZ (shrZ a1 v2) 1)) → ir (v2 + 1) ∧ ∀ y4, y4 = v2 + 1 → ZZ y2 y4)) → ZZ v1 v2) → ZZ v1 v2
theorem vw_X12_bits_4 {a1 : Int}  (ia1 : ir a1) {post : Int32 → Prop} {post' : Int → Prop} (hp : ∀ (x : Int32) (r : Int), x = zi r → ir r → post' r → post x) {xv1 : Int32} {v1 : Int} {xv2 : Int32} {v2 : Int} (ev1 : xv1 = zi v1) (iv1 : ir v1) (ev2 : xv2 = zi v2) (iv2 : ir v2) (hv : v_X12_bits_4 a1 post' v1 v2) : w_X12_bits_4 (zi a1) post xv1 xv2 := by
  subst ev1
  subst ev2
  unfold v_X12_bits_4 at hv
  unfold w_X12_bits_4
  intro ZZ hZ
  refine hv (fun v1 v2 => ∀ (xv1 : Int32) (xv2 : Int32), xv1 = zi v1 → ir v1 → xv2 = zi v2 → ir v2 → ZZ xv1 xv2) ?_ _ _ rfl iv1 rfl iv2
  clear hv iv1 iv2
  intro v1 v2 hv xv1 xv2 ev1 iv1 ev2 iv2
  subst ev1
  subst ev2
  refine hZ _ _ ?_
  refine ⟨fun cq => ?_, fun cq => ?_⟩
  · have hv := hv.1 ((zle (by decide : (31 : Int32) = zi 31) (rfl : zi v2 = zi v2) (by decide : ir 31) iv2).mp cq)
    exact hp _ _ (rfl : zi v1 = zi v1) iv1 hv
  · have hv := hv.2 (fun q => cq ((zle (by decide : (31 : Int32) = zi 31) (rfl : zi v2 = zi v2) (by decide : ir 31) iv2).mpr q))
    obtain ⟨g1, hv⟩ := hv
    intro xy2 exy2
    obtain ⟨y2, eyy2⟩ : ∃ q9 : Int, q9 = (v1 + (andZ (shrZ a1 v2) 1)) := ⟨_, rfl⟩
    have hv := hv y2 eyy2
    have Ey2 : xy2 = zi y2 := exy2.trans (((za (rfl : zi v1 = zi v1) (z_and (z_shr (rfl : zi a1 = zi a1) (rfl : zi v2 = zi v2)) (by decide : (1 : Int32) = zi 1)))).trans (congrArg zi eyy2.symm))
    have Iy2 : ir y2 := by rw [eyy2]; exact g1
    clear exy2
    obtain ⟨g3, hv⟩ := hv
    intro xy4 exy4
    obtain ⟨y4, eyy4⟩ : ∃ q9 : Int, q9 = v2 + 1 := ⟨_, rfl⟩
    have hv := hv y4 eyy4
    have Ey4 : xy4 = zi y4 := exy4.trans (((za (rfl : zi v2 = zi v2) (by decide : (1 : Int32) = zi 1))).trans (congrArg zi eyy4.symm))
    have Iy4 : ir y4 := by rw [eyy4]; exact g3
    clear exy4
    exact hv _ _ Ey2 Iy2 Ey4 Iy4
def v_X12_bits (a1 : Int) (post' : Int → Prop) : Prop := (v_X12_bits_4 a1 post') 0 0
theorem vw_X12_bits {xa1 : Int32} {a1 : Int}  (ea1 : xa1 = zi a1) (ia1 : ir a1) {post : Int32 → Prop} {post' : Int → Prop} (hp : ∀ (x : Int32) (r : Int), x = zi r → ir r → post' r → post x) (hv : v_X12_bits a1 post') : w_X12_bits xa1 post := by
  subst ea1
  unfold v_X12_bits at hv
  unfold w_X12_bits
  exact vw_X12_bits_4 ia1 hp (by decide : (0 : Int32) = zi 0) (by decide : ir 0) (by decide : (0 : Int32) = zi 0) (by decide : ir 0) hv
def v_X12_shodBy_4 (J : mJ) (o : Nat) (a1 : Int) (post' : Int → Prop) (k25' : Int → Int → Prop) (v2 : Int) (v3 : Int) : Prop := ∀ ZZ : (Int → Int → Prop), (∀ (v2 : Int) (v3 : Int), (v_X12_people J o (fun r1 => (r1 ≤ v3 → k25' v2 0) ∧ (¬ r1 ≤ v3 → ir (v2 * 6) ∧ ∀ y3, y3 = (v2 * 6) → ir (v3 + 1) ∧ ∀ y5, y5 = v3 + 1 → ZZ y3 y5))) → ZZ v2 v3) → ZZ v2 v3
theorem vw_X12_shodBy_4 {J : mJ} {o : Nat} {a1 : Int} (hJ : irm J) (ia1 : ir a1) {post : Int32 → Prop} {post' : Int → Prop} {k25' : Int → Int → Prop} {k25 : Int32 → Int32 → Prop} (hp : ∀ (x : Int32) (r : Int), x = zi r → ir r → post' r → post x) (hk25 : ∀ (xv2 : Int32) (v2 : Int) (xv3 : Int32) (v3 : Int), xv2 = zi v2 → ir v2 → xv3 = zi v3 → ir v3 → k25' v2 v3 → k25 xv2 xv3) {xv2 : Int32} {v2 : Int} {xv3 : Int32} {v3 : Int} (ev2 : xv2 = zi v2) (iv2 : ir v2) (ev3 : xv3 = zi v3) (iv3 : ir v3) (hv : v_X12_shodBy_4 J o a1 post' k25' v2 v3) : w_X12_shodBy_4 (zz J) o (zi a1) post k25 xv2 xv3 := by
  subst ev2
  subst ev3
  unfold v_X12_shodBy_4 at hv
  unfold w_X12_shodBy_4
  intro ZZ hZ
  refine hv (fun v2 v3 => ∀ (xv2 : Int32) (xv3 : Int32), xv2 = zi v2 → ir v2 → xv3 = zi v3 → ir v3 → ZZ xv2 xv3) ?_ _ _ rfl iv2 rfl iv3
  clear hv iv2 iv3
  intro v2 v3 hv xv2 xv3 ev2 iv2 ev3 iv3
  subst ev2
  subst ev3
  refine hZ _ _ ?_
  refine vw_X12_people hJ  (fun xr1 r1 Er1 Ir1 hv => ?_) hv
  refine ⟨fun cq => ?_, fun cq => ?_⟩
  · have hv := hv.1 ((zle Er1 (rfl : zi v3 = zi v3) Ir1 iv3).mp cq)
    exact hk25 _ _ _ _ (rfl : zi v2 = zi v2) iv2 (by decide : (0 : Int32) = zi 0) (by decide : ir 0) hv
  · have hv := hv.2 (fun q => cq ((zle Er1 (rfl : zi v3 = zi v3) Ir1 iv3).mpr q))
    obtain ⟨g2, hv⟩ := hv
    intro xy3 exy3
    obtain ⟨y3, eyy3⟩ : ∃ q9 : Int, q9 = (v2 * 6) := ⟨_, rfl⟩
    have hv := hv y3 eyy3
    have Ey3 : xy3 = zi y3 := exy3.trans (((zm (rfl : zi v2 = zi v2) (by decide : (6 : Int32) = zi 6))).trans (congrArg zi eyy3.symm))
    have Iy3 : ir y3 := by rw [eyy3]; exact g2
    clear exy3
    obtain ⟨g4, hv⟩ := hv
    intro xy5 exy5
    obtain ⟨y5, eyy5⟩ : ∃ q9 : Int, q9 = v3 + 1 := ⟨_, rfl⟩
    have hv := hv y5 eyy5
    have Ey5 : xy5 = zi y5 := exy5.trans (((za (rfl : zi v3 = zi v3) (by decide : (1 : Int32) = zi 1))).trans (congrArg zi eyy5.symm))
    have Iy5 : ir y5 := by rw [eyy5]; exact g4
    clear exy5
    exact hv _ _ Ey3 Iy3 Ey5 Iy5
def v_X12_shodBy_127 (J : mJ) (o : Nat) (a1 : Int) (post' : Int → Prop) (k80' : Int → Int → Int → Int → Int → Int → Int → Prop) (v2 : Int) (v3 : Int) (v5 : Int) (v6 : Int) (v7 : Int) (v8 : Int) : Prop := ∀ y19, y19 = (divZ v7 6) → ir (v8 + 1) ∧ ∀ y21, y21 = v8 + 1 → k80' v2 v3 1 v5 v6 y19 y21
theorem vw_X12_shodBy_127 {J : mJ} {o : Nat} {a1 : Int} (hJ : irm J) (ia1 : ir a1) {post : Int32 → Prop} {post' : Int → Prop} {k80' : Int → Int → Int → Int → Int → Int → Int → Prop} {k80 : Int32 → Int32 → Int32 → Int32 → Int32 → Int32 → Int32 → Prop} (hp : ∀ (x : Int32) (r : Int), x = zi r → ir r → post' r → post x) (hk80 : ∀ (xv2 : Int32) (v2 : Int) (xv3 : Int32) (v3 : Int) (xv4 : Int32) (v4 : Int) (xv5 : Int32) (v5 : Int) (xv6 : Int32) (v6 : Int) (xv7 : Int32) (v7 : Int) (xv8 : Int32) (v8 : Int), xv2 = zi v2 → ir v2 → xv3 = zi v3 → ir v3 → xv4 = zi v4 → ir v4 → xv5 = zi v5 → ir v5 → xv6 = zi v6 → ir v6 → xv7 = zi v7 → ir v7 → xv8 = zi v8 → ir v8 → k80' v2 v3 v4 v5 v6 v7 v8 → k80 xv2 xv3 xv4 xv5 xv6 xv7 xv8) {xv2 : Int32} {v2 : Int} {xv3 : Int32} {v3 : Int} {xv5 : Int32} {v5 : Int} {xv6 : Int32} {v6 : Int} {xv7 : Int32} {v7 : Int} {xv8 : Int32} {v8 : Int} (ev2 : xv2 = zi v2) (iv2 : ir v2) (ev3 : xv3 = zi v3) (iv3 : ir v3) (ev5 : xv5 = zi v5) (iv5 : ir v5) (ev6 : xv6 = zi v6) (iv6 : ir v6) (ev7 : xv7 = zi v7) (iv7 : ir v7) (ev8 : xv8 = zi v8) (iv8 : ir v8) (hv : v_X12_shodBy_127 J o a1 post' k80' v2 v3 v5 v6 v7 v8) : w_X12_shodBy_127 (zz J) o (zi a1) post k80 xv2 xv3 xv5 xv6 xv7 xv8 := by
  subst ev2
  subst ev3
  subst ev5
  subst ev6
  subst ev7
  subst ev8
  unfold v_X12_shodBy_127 at hv
  unfold w_X12_shodBy_127
  intro xy19 exy19
  obtain ⟨y19, eyy19⟩ : ∃ q9 : Int, q9 = (divZ v7 6) := ⟨_, rfl⟩
  have hv := hv y19 eyy19
  have Ey19 : xy19 = zi y19 := exy19.trans (((z_div (rfl : zi v7 = zi v7) (by decide : (6 : Int32) = zi 6))).trans (congrArg zi eyy19.symm))
  have Iy19 : ir y19 := by rw [eyy19]; exact (ir_toInt _)
  clear exy19
  obtain ⟨g20, hv⟩ := hv
  intro xy21 exy21
  obtain ⟨y21, eyy21⟩ : ∃ q9 : Int, q9 = v8 + 1 := ⟨_, rfl⟩
  have hv := hv y21 eyy21
  have Ey21 : xy21 = zi y21 := exy21.trans (((za (rfl : zi v8 = zi v8) (by decide : (1 : Int32) = zi 1))).trans (congrArg zi eyy21.symm))
  have Iy21 : ir y21 := by rw [eyy21]; exact g20
  clear exy21
  exact hk80 _ _ _ _ _ _ _ _ _ _ _ _ _ _ (rfl : zi v2 = zi v2) iv2 (rfl : zi v3 = zi v3) iv3 (by decide : (1 : Int32) = zi 1) (by decide : ir 1) (rfl : zi v5 = zi v5) iv5 (rfl : zi v6 = zi v6) iv6 Ey19 Iy19 Ey21 Iy21 hv
def v_X12_shodBy_80 (J : mJ) (o : Nat) (a1 : Int) (post' : Int → Prop) (k42' : Int → Int → Int → Int → Int → Prop) (v2 : Int) (v3 : Int) (v4 : Int) (v5 : Int) (v6 : Int) (v7 : Int) (v8 : Int) : Prop := ∀ ZZ : (Int → Int → Int → Int → Int → Int → Int → Prop), (∀ (v2 : Int) (v3 : Int) (v4 : Int) (v5 : Int) (v6 : Int) (v7 : Int) (v8 : Int), ((v6 ≤ v8 → ∀ y8, y8 = (divZ v5 6) → ir (v6 + 1) ∧ ∀ y10, y10 = v6 + 1 → k42' v2 v3 v4 y8 y10) ∧ (¬ v6 ≤ v8 → (v4 = 0 → ∀ y11, y11 = (divZ v5 6) → ir (v6 + 1) ∧ ∀ y13, y13 = v6 + 1 → k42' v2 v3 v4 y11 y13) ∧ (¬ v4 = 0 → ¬ v5 = 0 ∧ ¬ v7 = 0 ∧ (¬ (remZ (divZ v3 v5) 6) = (remZ (divZ v3 v7) 6) → (v_X12_shodBy_127 J o a1 post' ZZ) v2 v3 v5 v6 v7 v8) ∧ ((remZ (divZ v3 v5) 6) = (remZ (divZ v3 v7) 6) → (0 ≤ v6 ∧ v6 < 6) ∧ (0 ≤ v8 ∧ v8 < 6) ∧ (¬ (andZ (J (o + 19) v6.toNat) (J (o + 19) v8.toNat)) = 0 → ∀ y16, y16 = (divZ v7 6) → ir (v8 + 1) ∧ ∀ y18, y18 = v8 + 1 → ZZ v2 v3 0 v5 v6 y16 y18) ∧ ((andZ (J (o + 19) v6.toNat) (J (o + 19) v8.toNat)) = 0 → (v_X12_shodBy_127 J o a1 post' ZZ) v2 v3 v5 v6 v7 v8))))) → ZZ v2 v3 v4 v5 v6 v7 v8) → ZZ v2 v3 v4 v5 v6 v7 v8
theorem vw_X12_shodBy_80 {J : mJ} {o : Nat} {a1 : Int} (hJ : irm J) (ia1 : ir a1) {post : Int32 → Prop} {post' : Int → Prop} {k42' : Int → Int → Int → Int → Int → Prop} {k42 : Int32 → Int32 → Int32 → Int32 → Int32 → Prop} (hp : ∀ (x : Int32) (r : Int), x = zi r → ir r → post' r → post x) (hk42 : ∀ (xv2 : Int32) (v2 : Int) (xv3 : Int32) (v3 : Int) (xv4 : Int32) (v4 : Int) (xv5 : Int32) (v5 : Int) (xv6 : Int32) (v6 : Int), xv2 = zi v2 → ir v2 → xv3 = zi v3 → ir v3 → xv4 = zi v4 → ir v4 → xv5 = zi v5 → ir v5 → xv6 = zi v6 → ir v6 → k42' v2 v3 v4 v5 v6 → k42 xv2 xv3 xv4 xv5 xv6) {xv2 : Int32} {v2 : Int} {xv3 : Int32} {v3 : Int} {xv4 : Int32} {v4 : Int} {xv5 : Int32} {v5 : Int} {xv6 : Int32} {v6 : Int} {xv7 : Int32} {v7 : Int} {xv8 : Int32} {v8 : Int} (ev2 : xv2 = zi v2) (iv2 : ir v2) (ev3 : xv3 = zi v3) (iv3 : ir v3) (ev4 : xv4 = zi v4) (iv4 : ir v4) (ev5 : xv5 = zi v5) (iv5 : ir v5) (ev6 : xv6 = zi v6) (iv6 : ir v6) (ev7 : xv7 = zi v7) (iv7 : ir v7) (ev8 : xv8 = zi v8) (iv8 : ir v8) (hv : v_X12_shodBy_80 J o a1 post' k42' v2 v3 v4 v5 v6 v7 v8) : w_X12_shodBy_80 (zz J) o (zi a1) post k42 xv2 xv3 xv4 xv5 xv6 xv7 xv8 := by
  subst ev2
  subst ev3
  subst ev4
  subst ev5
  subst ev6
  subst ev7
  subst ev8
  unfold v_X12_shodBy_80 at hv
  unfold w_X12_shodBy_80
  intro ZZ hZ
  refine hv (fun v2 v3 v4 v5 v6 v7 v8 => ∀ (xv2 : Int32) (xv3 : Int32) (xv4 : Int32) (xv5 : Int32) (xv6 : Int32) (xv7 : Int32) (xv8 : Int32), xv2 = zi v2 → ir v2 → xv3 = zi v3 → ir v3 → xv4 = zi v4 → ir v4 → xv5 = zi v5 → ir v5 → xv6 = zi v6 → ir v6 → xv7 = zi v7 → ir v7 → xv8 = zi v8 → ir v8 → ZZ xv2 xv3 xv4 xv5 xv6 xv7 xv8) ?_ _ _ _ _ _ _ _ rfl iv2 rfl iv3 rfl iv4 rfl iv5 rfl iv6 rfl iv7 rfl iv8
  clear hv iv2 iv3 iv4 iv5 iv6 iv7 iv8
  intro v2 v3 v4 v5 v6 v7 v8 hv xv2 xv3 xv4 xv5 xv6 xv7 xv8 ev2 iv2 ev3 iv3 ev4 iv4 ev5 iv5 ev6 iv6 ev7 iv7 ev8 iv8
  subst ev2
  subst ev3
  subst ev4
  subst ev5
  subst ev6
  subst ev7
  subst ev8
  refine hZ _ _ _ _ _ _ _ ?_
  refine ⟨fun cq => ?_, fun cq => ?_⟩
  · have hv := hv.1 ((zle (rfl : zi v6 = zi v6) (rfl : zi v8 = zi v8) iv6 iv8).mp cq)
    intro xy8 exy8
    obtain ⟨y8, eyy8⟩ : ∃ q9 : Int, q9 = (divZ v5 6) := ⟨_, rfl⟩
    have hv := hv y8 eyy8
    have Ey8 : xy8 = zi y8 := exy8.trans (((z_div (rfl : zi v5 = zi v5) (by decide : (6 : Int32) = zi 6))).trans (congrArg zi eyy8.symm))
    have Iy8 : ir y8 := by rw [eyy8]; exact (ir_toInt _)
    clear exy8
    obtain ⟨g9, hv⟩ := hv
    intro xy10 exy10
    obtain ⟨y10, eyy10⟩ : ∃ q9 : Int, q9 = v6 + 1 := ⟨_, rfl⟩
    have hv := hv y10 eyy10
    have Ey10 : xy10 = zi y10 := exy10.trans (((za (rfl : zi v6 = zi v6) (by decide : (1 : Int32) = zi 1))).trans (congrArg zi eyy10.symm))
    have Iy10 : ir y10 := by rw [eyy10]; exact g9
    clear exy10
    exact hk42 _ _ _ _ _ _ _ _ _ _ (rfl : zi v2 = zi v2) iv2 (rfl : zi v3 = zi v3) iv3 (rfl : zi v4 = zi v4) iv4 Ey8 Iy8 Ey10 Iy10 hv
  · have hv := hv.2 (fun q => cq ((zle (rfl : zi v6 = zi v6) (rfl : zi v8 = zi v8) iv6 iv8).mpr q))
    refine ⟨fun cq => ?_, fun cq => ?_⟩
    · have hv := hv.1 ((zeq (rfl : zi v4 = zi v4) (by decide : (0 : Int32) = zi 0) iv4 (by decide : ir 0)).mp cq)
      intro xy11 exy11
      obtain ⟨y11, eyy11⟩ : ∃ q9 : Int, q9 = (divZ v5 6) := ⟨_, rfl⟩
      have hv := hv y11 eyy11
      have Ey11 : xy11 = zi y11 := exy11.trans (((z_div (rfl : zi v5 = zi v5) (by decide : (6 : Int32) = zi 6))).trans (congrArg zi eyy11.symm))
      have Iy11 : ir y11 := by rw [eyy11]; exact (ir_toInt _)
      clear exy11
      obtain ⟨g12, hv⟩ := hv
      intro xy13 exy13
      obtain ⟨y13, eyy13⟩ : ∃ q9 : Int, q9 = v6 + 1 := ⟨_, rfl⟩
      have hv := hv y13 eyy13
      have Ey13 : xy13 = zi y13 := exy13.trans (((za (rfl : zi v6 = zi v6) (by decide : (1 : Int32) = zi 1))).trans (congrArg zi eyy13.symm))
      have Iy13 : ir y13 := by rw [eyy13]; exact g12
      clear exy13
      exact hk42 _ _ _ _ _ _ _ _ _ _ (rfl : zi v2 = zi v2) iv2 (rfl : zi v3 = zi v3) iv3 (rfl : zi v4 = zi v4) iv4 Ey11 Iy11 Ey13 Iy13 hv
    · have hv := hv.2 (fun q => cq ((zeq (rfl : zi v4 = zi v4) (by decide : (0 : Int32) = zi 0) iv4 (by decide : ir 0)).mpr q))
      refine ⟨fun q => hv.1 ((zeq (rfl : zi v5 = zi v5) (rfl : (0 : Int32) = zi 0) iv5 (by decide)).mp q), ?_⟩
      have hv := hv.2
      refine ⟨fun q => hv.1 ((zeq (rfl : zi v7 = zi v7) (rfl : (0 : Int32) = zi 0) iv7 (by decide)).mp q), ?_⟩
      have hv := hv.2
      refine ⟨fun cq => ?_, fun cq => ?_⟩
      · have hv := hv.1 (fun q => cq ((zeq (z_rem (z_div (rfl : zi v3 = zi v3) (rfl : zi v5 = zi v5)) (by decide : (6 : Int32) = zi 6)) (z_rem (z_div (rfl : zi v3 = zi v3) (rfl : zi v7 = zi v7)) (by decide : (6 : Int32) = zi 6)) (ir_toInt _) (ir_toInt _)).mpr q))
        refine vw_X12_shodBy_127 hJ ia1 hp ?_ (rfl : zi v2 = zi v2) iv2 (rfl : zi v3 = zi v3) iv3 (rfl : zi v5 = zi v5) iv5 (rfl : zi v6 = zi v6) iv6 (rfl : zi v7 = zi v7) iv7 (rfl : zi v8 = zi v8) iv8 hv
        · intro xx vv xx vv xx vv xx vv xx vv xx vv xx vv ev2 iv2 ev3 iv3 ev4 iv4 ev5 iv5 ev6 iv6 ev7 iv7 ev8 iv8 hv
          exact hv _ _ _ _ _ _ _ ev2 iv2 ev3 iv3 ev4 iv4 ev5 iv5 ev6 iv6 ev7 iv7 ev8 iv8
      · have hv := hv.2 ((zeq (z_rem (z_div (rfl : zi v3 = zi v3) (rfl : zi v5 = zi v5)) (by decide : (6 : Int32) = zi 6)) (z_rem (z_div (rfl : zi v3 = zi v3) (rfl : zi v7 = zi v7)) (by decide : (6 : Int32) = zi 6)) (ir_toInt _) (ir_toInt _)).mp cq)
        obtain ⟨g14, hv⟩ := hv
        refine ⟨zvp (rfl : zi v6 = zi v6) iv6 g14.1 g14.2, ?_⟩
        obtain ⟨g15, hv⟩ := hv
        refine ⟨zvp (rfl : zi v8 = zi v8) iv8 g15.1 g15.2, ?_⟩
        refine ⟨fun cq => ?_, fun cq => ?_⟩
        · have hv := hv.1 (fun q => cq ((zeq (z_and (zrd (rfl : zi v6 = zi v6) iv6 g14.1) (zrd (rfl : zi v8 = zi v8) iv8 g15.1)) (by decide : (0 : Int32) = zi 0) (ir_toInt _) (by decide : ir 0)).mpr q))
          intro xy16 exy16
          obtain ⟨y16, eyy16⟩ : ∃ q9 : Int, q9 = (divZ v7 6) := ⟨_, rfl⟩
          have hv := hv y16 eyy16
          have Ey16 : xy16 = zi y16 := exy16.trans (((z_div (rfl : zi v7 = zi v7) (by decide : (6 : Int32) = zi 6))).trans (congrArg zi eyy16.symm))
          have Iy16 : ir y16 := by rw [eyy16]; exact (ir_toInt _)
          clear exy16
          obtain ⟨g17, hv⟩ := hv
          intro xy18 exy18
          obtain ⟨y18, eyy18⟩ : ∃ q9 : Int, q9 = v8 + 1 := ⟨_, rfl⟩
          have hv := hv y18 eyy18
          have Ey18 : xy18 = zi y18 := exy18.trans (((za (rfl : zi v8 = zi v8) (by decide : (1 : Int32) = zi 1))).trans (congrArg zi eyy18.symm))
          have Iy18 : ir y18 := by rw [eyy18]; exact g17
          clear exy18
          exact hv _ _ _ _ _ _ _ (rfl : zi v2 = zi v2) iv2 (rfl : zi v3 = zi v3) iv3 (by decide : (0 : Int32) = zi 0) (by decide : ir 0) (rfl : zi v5 = zi v5) iv5 (rfl : zi v6 = zi v6) iv6 Ey16 Iy16 Ey18 Iy18
        · have hv := hv.2 ((zeq (z_and (zrd (rfl : zi v6 = zi v6) iv6 g14.1) (zrd (rfl : zi v8 = zi v8) iv8 g15.1)) (by decide : (0 : Int32) = zi 0) (ir_toInt _) (by decide : ir 0)).mp cq)
          refine vw_X12_shodBy_127 hJ ia1 hp ?_ (rfl : zi v2 = zi v2) iv2 (rfl : zi v3 = zi v3) iv3 (rfl : zi v5 = zi v5) iv5 (rfl : zi v6 = zi v6) iv6 (rfl : zi v7 = zi v7) iv7 (rfl : zi v8 = zi v8) iv8 hv
          · intro xx vv xx vv xx vv xx vv xx vv xx vv xx vv ev2 iv2 ev3 iv3 ev4 iv4 ev5 iv5 ev6 iv6 ev7 iv7 ev8 iv8 hv
            exact hv _ _ _ _ _ _ _ ev2 iv2 ev3 iv3 ev4 iv4 ev5 iv5 ev6 iv6 ev7 iv7 ev8 iv8
def v_X12_shodBy_42 (J : mJ) (o : Nat) (a1 : Int) (post' : Int → Prop) (k160' : Int → Int → Int → Prop) (v2 : Int) (v3 : Int) (v4 : Int) (v5 : Int) (v6 : Int) : Prop := ∀ ZZ : (Int → Int → Int → Int → Int → Prop), (∀ (v2 : Int) (v3 : Int) (v4 : Int) (v5 : Int) (v6 : Int), (v_X12_people J o (fun r7 => (r7 ≤ v6 → k160' v2 v3 v4) ∧ (¬ r7 ≤ v6 → (v4 = 0 → k160' v2 v3 v4) ∧ (¬ v4 = 0 → ¬ v5 = 0 ∧ (a1 ≤ (remZ (divZ v3 v5) 6) → (v_X12_shodBy_80 J o a1 post' ZZ) v2 v3 0 v5 v6 v2 0) ∧ (¬ a1 ≤ (remZ (divZ v3 v5) 6) → (v_X12_shodBy_80 J o a1 post' ZZ) v2 v3 1 v5 v6 v2 0))))) → ZZ v2 v3 v4 v5 v6) → ZZ v2 v3 v4 v5 v6
theorem vw_X12_shodBy_42 {J : mJ} {o : Nat} {a1 : Int} (hJ : irm J) (ia1 : ir a1) {post : Int32 → Prop} {post' : Int → Prop} {k160' : Int → Int → Int → Prop} {k160 : Int32 → Int32 → Int32 → Prop} (hp : ∀ (x : Int32) (r : Int), x = zi r → ir r → post' r → post x) (hk160 : ∀ (xv2 : Int32) (v2 : Int) (xv3 : Int32) (v3 : Int) (xv4 : Int32) (v4 : Int), xv2 = zi v2 → ir v2 → xv3 = zi v3 → ir v3 → xv4 = zi v4 → ir v4 → k160' v2 v3 v4 → k160 xv2 xv3 xv4) {xv2 : Int32} {v2 : Int} {xv3 : Int32} {v3 : Int} {xv4 : Int32} {v4 : Int} {xv5 : Int32} {v5 : Int} {xv6 : Int32} {v6 : Int} (ev2 : xv2 = zi v2) (iv2 : ir v2) (ev3 : xv3 = zi v3) (iv3 : ir v3) (ev4 : xv4 = zi v4) (iv4 : ir v4) (ev5 : xv5 = zi v5) (iv5 : ir v5) (ev6 : xv6 = zi v6) (iv6 : ir v6) (hv : v_X12_shodBy_42 J o a1 post' k160' v2 v3 v4 v5 v6) : w_X12_shodBy_42 (zz J) o (zi a1) post k160 xv2 xv3 xv4 xv5 xv6 := by
  subst ev2
  subst ev3
  subst ev4
  subst ev5
  subst ev6
  unfold v_X12_shodBy_42 at hv
  unfold w_X12_shodBy_42
  intro ZZ hZ
  refine hv (fun v2 v3 v4 v5 v6 => ∀ (xv2 : Int32) (xv3 : Int32) (xv4 : Int32) (xv5 : Int32) (xv6 : Int32), xv2 = zi v2 → ir v2 → xv3 = zi v3 → ir v3 → xv4 = zi v4 → ir v4 → xv5 = zi v5 → ir v5 → xv6 = zi v6 → ir v6 → ZZ xv2 xv3 xv4 xv5 xv6) ?_ _ _ _ _ _ rfl iv2 rfl iv3 rfl iv4 rfl iv5 rfl iv6
  clear hv iv2 iv3 iv4 iv5 iv6
  intro v2 v3 v4 v5 v6 hv xv2 xv3 xv4 xv5 xv6 ev2 iv2 ev3 iv3 ev4 iv4 ev5 iv5 ev6 iv6
  subst ev2
  subst ev3
  subst ev4
  subst ev5
  subst ev6
  refine hZ _ _ _ _ _ ?_
  refine vw_X12_people hJ  (fun xr7 r7 Er7 Ir7 hv => ?_) hv
  refine ⟨fun cq => ?_, fun cq => ?_⟩
  · have hv := hv.1 ((zle Er7 (rfl : zi v6 = zi v6) Ir7 iv6).mp cq)
    exact hk160 _ _ _ _ _ _ (rfl : zi v2 = zi v2) iv2 (rfl : zi v3 = zi v3) iv3 (rfl : zi v4 = zi v4) iv4 hv
  · have hv := hv.2 (fun q => cq ((zle Er7 (rfl : zi v6 = zi v6) Ir7 iv6).mpr q))
    refine ⟨fun cq => ?_, fun cq => ?_⟩
    · have hv := hv.1 ((zeq (rfl : zi v4 = zi v4) (by decide : (0 : Int32) = zi 0) iv4 (by decide : ir 0)).mp cq)
      exact hk160 _ _ _ _ _ _ (rfl : zi v2 = zi v2) iv2 (rfl : zi v3 = zi v3) iv3 (rfl : zi v4 = zi v4) iv4 hv
    · have hv := hv.2 (fun q => cq ((zeq (rfl : zi v4 = zi v4) (by decide : (0 : Int32) = zi 0) iv4 (by decide : ir 0)).mpr q))
      refine ⟨fun q => hv.1 ((zeq (rfl : zi v5 = zi v5) (rfl : (0 : Int32) = zi 0) iv5 (by decide)).mp q), ?_⟩
      have hv := hv.2
      refine ⟨fun cq => ?_, fun cq => ?_⟩
      · have hv := hv.1 ((zle (rfl : zi a1 = zi a1) (z_rem (z_div (rfl : zi v3 = zi v3) (rfl : zi v5 = zi v5)) (by decide : (6 : Int32) = zi 6)) ia1 (ir_toInt _)).mp cq)
        refine vw_X12_shodBy_80 hJ ia1 hp ?_ (rfl : zi v2 = zi v2) iv2 (rfl : zi v3 = zi v3) iv3 (by decide : (0 : Int32) = zi 0) (by decide : ir 0) (rfl : zi v5 = zi v5) iv5 (rfl : zi v6 = zi v6) iv6 (rfl : zi v2 = zi v2) iv2 (by decide : (0 : Int32) = zi 0) (by decide : ir 0) hv
        · intro xx vv xx vv xx vv xx vv xx vv ev2 iv2 ev3 iv3 ev4 iv4 ev5 iv5 ev6 iv6 hv
          exact hv _ _ _ _ _ ev2 iv2 ev3 iv3 ev4 iv4 ev5 iv5 ev6 iv6
      · have hv := hv.2 (fun q => cq ((zle (rfl : zi a1 = zi a1) (z_rem (z_div (rfl : zi v3 = zi v3) (rfl : zi v5 = zi v5)) (by decide : (6 : Int32) = zi 6)) ia1 (ir_toInt _)).mpr q))
        refine vw_X12_shodBy_80 hJ ia1 hp ?_ (rfl : zi v2 = zi v2) iv2 (rfl : zi v3 = zi v3) iv3 (by decide : (1 : Int32) = zi 1) (by decide : ir 1) (rfl : zi v5 = zi v5) iv5 (rfl : zi v6 = zi v6) iv6 (rfl : zi v2 = zi v2) iv2 (by decide : (0 : Int32) = zi 0) (by decide : ir 0) hv
        · intro xx vv xx vv xx vv xx vv xx vv ev2 iv2 ev3 iv3 ev4 iv4 ev5 iv5 ev6 iv6 hv
          exact hv _ _ _ _ _ ev2 iv2 ev3 iv3 ev4 iv4 ev5 iv5 ev6 iv6
def v_X12_shodBy_160 (J : mJ) (o : Nat) (a1 : Int) (post' : Int → Prop) (k25' : Int → Int → Prop) (v2 : Int) (v3 : Int) (v4 : Int) : Prop := (v4 = 0 → ir (v3 + 1) ∧ ∀ y23, y23 = v3 + 1 → k25' v2 y23) ∧ (¬ v4 = 0 → post' v3)
theorem vw_X12_shodBy_160 {J : mJ} {o : Nat} {a1 : Int} (hJ : irm J) (ia1 : ir a1) {post : Int32 → Prop} {post' : Int → Prop} {k25' : Int → Int → Prop} {k25 : Int32 → Int32 → Prop} (hp : ∀ (x : Int32) (r : Int), x = zi r → ir r → post' r → post x) (hk25 : ∀ (xv2 : Int32) (v2 : Int) (xv3 : Int32) (v3 : Int), xv2 = zi v2 → ir v2 → xv3 = zi v3 → ir v3 → k25' v2 v3 → k25 xv2 xv3) {xv2 : Int32} {v2 : Int} {xv3 : Int32} {v3 : Int} {xv4 : Int32} {v4 : Int} (ev2 : xv2 = zi v2) (iv2 : ir v2) (ev3 : xv3 = zi v3) (iv3 : ir v3) (ev4 : xv4 = zi v4) (iv4 : ir v4) (hv : v_X12_shodBy_160 J o a1 post' k25' v2 v3 v4) : w_X12_shodBy_160 (zz J) o (zi a1) post k25 xv2 xv3 xv4 := by
  subst ev2
  subst ev3
  subst ev4
  unfold v_X12_shodBy_160 at hv
  unfold w_X12_shodBy_160
  refine ⟨fun cq => ?_, fun cq => ?_⟩
  · have hv := hv.1 ((zeq (rfl : zi v4 = zi v4) (by decide : (0 : Int32) = zi 0) iv4 (by decide : ir 0)).mp cq)
    obtain ⟨g22, hv⟩ := hv
    intro xy23 exy23
    obtain ⟨y23, eyy23⟩ : ∃ q9 : Int, q9 = v3 + 1 := ⟨_, rfl⟩
    have hv := hv y23 eyy23
    have Ey23 : xy23 = zi y23 := exy23.trans (((za (rfl : zi v3 = zi v3) (by decide : (1 : Int32) = zi 1))).trans (congrArg zi eyy23.symm))
    have Iy23 : ir y23 := by rw [eyy23]; exact g22
    clear exy23
    exact hk25 _ _ _ _ (rfl : zi v2 = zi v2) iv2 Ey23 Iy23 hv
  · have hv := hv.2 (fun q => cq ((zeq (rfl : zi v4 = zi v4) (by decide : (0 : Int32) = zi 0) iv4 (by decide : ir 0)).mpr q))
    exact hp _ _ (rfl : zi v3 = zi v3) iv3 hv
def v_X12_shodBy_25 (J : mJ) (o : Nat) (a1 : Int) (post' : Int → Prop) (v2 : Int) (v3 : Int) : Prop := ∀ ZZ : (Int → Int → Prop), (∀ (v2 : Int) (v3 : Int), (ir (6 * v2) ∧ ((6 * v2) ≤ v3 → post' (-1)) ∧ (¬ (6 * v2) ≤ v3 → (v_X12_shodBy_42 J o a1 post' (v_X12_shodBy_160 J o a1 post' ZZ)) v2 v3 1 v2 0)) → ZZ v2 v3) → ZZ v2 v3
theorem vw_X12_shodBy_25 {J : mJ} {o : Nat} {a1 : Int} (hJ : irm J) (ia1 : ir a1) {post : Int32 → Prop} {post' : Int → Prop} (hp : ∀ (x : Int32) (r : Int), x = zi r → ir r → post' r → post x) {xv2 : Int32} {v2 : Int} {xv3 : Int32} {v3 : Int} (ev2 : xv2 = zi v2) (iv2 : ir v2) (ev3 : xv3 = zi v3) (iv3 : ir v3) (hv : v_X12_shodBy_25 J o a1 post' v2 v3) : w_X12_shodBy_25 (zz J) o (zi a1) post xv2 xv3 := by
  subst ev2
  subst ev3
  unfold v_X12_shodBy_25 at hv
  unfold w_X12_shodBy_25
  intro ZZ hZ
  refine hv (fun v2 v3 => ∀ (xv2 : Int32) (xv3 : Int32), xv2 = zi v2 → ir v2 → xv3 = zi v3 → ir v3 → ZZ xv2 xv3) ?_ _ _ rfl iv2 rfl iv3
  clear hv iv2 iv3
  intro v2 v3 hv xv2 xv3 ev2 iv2 ev3 iv3
  subst ev2
  subst ev3
  refine hZ _ _ ?_
  obtain ⟨g6, hv⟩ := hv
  refine ⟨fun cq => ?_, fun cq => ?_⟩
  · have hv := hv.1 ((zle (zm (by decide : (6 : Int32) = zi 6) (rfl : zi v2 = zi v2)) (rfl : zi v3 = zi v3) g6 iv3).mp cq)
    exact hp _ _ (by decide : ((-1) : Int32) = zi (-1)) (by decide : ir (-1)) hv
  · have hv := hv.2 (fun q => cq ((zle (zm (by decide : (6 : Int32) = zi 6) (rfl : zi v2 = zi v2)) (rfl : zi v3 = zi v3) g6 iv3).mpr q))
    refine vw_X12_shodBy_42 hJ ia1 hp ?_ (rfl : zi v2 = zi v2) iv2 (rfl : zi v3 = zi v3) iv3 (by decide : (1 : Int32) = zi 1) (by decide : ir 1) (rfl : zi v2 = zi v2) iv2 (by decide : (0 : Int32) = zi 0) (by decide : ir 0) hv
    · intro xx vv xx vv xx vv ev2 iv2 ev3 iv3 ev4 iv4 hv
      refine vw_X12_shodBy_160 hJ ia1 hp ?_ ev2 iv2 ev3 iv3 ev4 iv4 hv
      · intro xx vv xx vv ev2 iv2 ev3 iv3 hv
        exact hv _ _ ev2 iv2 ev3 iv3
def v_X12_shodBy (J : mJ) (o : Nat) (a1 : Int) (post' : Int → Prop) : Prop := (v_X12_shodBy_4 J o a1 post' (v_X12_shodBy_25 J o a1 post')) 1 1
theorem vw_X12_shodBy {J : mJ} {o : Nat} {xa1 : Int32} {a1 : Int} (hJ : irm J)   (ea1 : xa1 = zi a1) (ia1 : ir a1) {post : Int32 → Prop} {post' : Int → Prop} (hp : ∀ (x : Int32) (r : Int), x = zi r → ir r → post' r → post x) (hv : v_X12_shodBy J o a1 post') : w_X12_shodBy (zz J) o xa1 post := by
  subst ea1
  unfold v_X12_shodBy at hv
  unfold w_X12_shodBy
  refine vw_X12_shodBy_4 hJ ia1 hp ?_ (by decide : (1 : Int32) = zi 1) (by decide : ir 1) (by decide : (1 : Int32) = zi 1) (by decide : ir 1) hv
  · intro xx vv xx vv ev2 iv2 ev3 iv3 hv
    exact vw_X12_shodBy_25 hJ ia1 hp ev2 iv2 ev3 iv3 hv
def v_X12_apart_40 (o : Nat) (a1 : Int) (a2 : Int) (post' : Int → mJ → Prop) (k67' : mJ → Int → Prop) (J : mJ) (v3 : Int) : Prop := ∀ ZZ : (mJ → Int → Prop), (∀ (J : mJ) (v3 : Int), (v_X12_people J o (fun r6 => (r6 ≤ v3 → k67' J 1) ∧ (¬ r6 ≤ v3 → v_X12_heardOf J o v3 (fun r7 => (0 ≤ v3 ∧ v3 < 6) ∧ ∀ J9, J9 = up2 J (o + 19) v3.toNat r7 → ir (v3 + 1) ∧ ∀ y11, y11 = v3 + 1 → ZZ J9 y11)))) → ZZ J v3) → ZZ J v3
theorem vw_X12_apart_40 {o : Nat} {a1 : Int} {a2 : Int}  (ia1 : ir a1) (ia2 : ir a2) {post : Int32 → mI → Prop} {post' : Int → mJ → Prop} {k67' : mJ → Int → Prop} {k67 : mI → Int32 → Prop} (hp : ∀ (x : Int32) (r : Int) (J1 : mJ), x = zi r → ir r → irm J1 → post' r J1 → post x (zz J1)) (hk67 : ∀ (J : mJ) (xv3 : Int32) (v3 : Int), irm J → xv3 = zi v3 → ir v3 → k67' J v3 → k67 (zz J) xv3) {J : mJ} {xv3 : Int32} {v3 : Int} (hJ : irm J) (ev3 : xv3 = zi v3) (iv3 : ir v3) (hv : v_X12_apart_40 o a1 a2 post' k67' J v3) : w_X12_apart_40 o (zi a1) (zi a2) post k67 (zz J) xv3 := by
  subst ev3
  unfold v_X12_apart_40 at hv
  unfold w_X12_apart_40
  intro ZZ hZ
  refine hv (fun J v3 => ∀ (xv3 : Int32), irm J → xv3 = zi v3 → ir v3 → ZZ (zz J) xv3) ?_ _ hJ rfl iv3
  clear hv hJ iv3
  intro J v3 hv xv3 hJ ev3 iv3
  subst ev3
  refine hZ _ _ ?_
  refine vw_X12_people hJ  (fun xr6 r6 Er6 Ir6 hv => ?_) hv
  refine ⟨fun cq => ?_, fun cq => ?_⟩
  · have hv := hv.1 ((zle Er6 (rfl : zi v3 = zi v3) Ir6 iv3).mp cq)
    exact hk67 _ _ _ hJ (by decide : (1 : Int32) = zi 1) (by decide : ir 1) hv
  · have hv := hv.2 (fun q => cq ((zle Er6 (rfl : zi v3 = zi v3) Ir6 iv3).mpr q))
    refine vw_X12_heardOf hJ (rfl : zi v3 = zi v3) iv3 (fun xr7 r7 Er7 Ir7 hv => ?_) hv
    obtain ⟨g8, hv⟩ := hv
    refine ⟨zvp (rfl : zi v3 = zi v3) iv3 g8.1 g8.2, ?_⟩
    intro I1 eI1
    obtain ⟨J9, eJ9⟩ : ∃ q9 : mJ, q9 = up2 J (o + 19) v3.toNat r7 := ⟨_, rfl⟩
    have eI1 : I1 = zz J9 := by rw [eI1, eJ9]; exact zupa (rfl : zi v3 = zi v3) iv3 g8.1 Er7
    subst eI1
    have hv := hv J9 eJ9
    have hJ : irm J9 := by rw [eJ9]; exact irm_up hJ Ir7
    obtain ⟨g10, hv⟩ := hv
    intro xy11 exy11
    obtain ⟨y11, eyy11⟩ : ∃ q9 : Int, q9 = v3 + 1 := ⟨_, rfl⟩
    have hv := hv y11 eyy11
    have Ey11 : xy11 = zi y11 := exy11.trans (((za (rfl : zi v3 = zi v3) (by decide : (1 : Int32) = zi 1))).trans (congrArg zi eyy11.symm))
    have Iy11 : ir y11 := by rw [eyy11]; exact g10
    clear exy11
    exact hv _ hJ Ey11 Iy11
def v_X12_apart_67 (o : Nat) (a1 : Int) (a2 : Int) (post' : Int → mJ → Prop) (k82' : mJ → Int → Prop) (J : mJ) (v3 : Int) : Prop := ∀ ZZ : (mJ → Int → Prop), (∀ (J : mJ) (v3 : Int), (v_X12_shodBy J o v3 (fun r12 => (¬ r12 = (-1) → k82' J v3) ∧ (r12 = (-1) → ir (v3 + 1) ∧ ∀ y14, y14 = v3 + 1 → ZZ J y14))) → ZZ J v3) → ZZ J v3
theorem vw_X12_apart_67 {o : Nat} {a1 : Int} {a2 : Int}  (ia1 : ir a1) (ia2 : ir a2) {post : Int32 → mI → Prop} {post' : Int → mJ → Prop} {k82' : mJ → Int → Prop} {k82 : mI → Int32 → Prop} (hp : ∀ (x : Int32) (r : Int) (J1 : mJ), x = zi r → ir r → irm J1 → post' r J1 → post x (zz J1)) (hk82 : ∀ (J : mJ) (xv3 : Int32) (v3 : Int), irm J → xv3 = zi v3 → ir v3 → k82' J v3 → k82 (zz J) xv3) {J : mJ} {xv3 : Int32} {v3 : Int} (hJ : irm J) (ev3 : xv3 = zi v3) (iv3 : ir v3) (hv : v_X12_apart_67 o a1 a2 post' k82' J v3) : w_X12_apart_67 o (zi a1) (zi a2) post k82 (zz J) xv3 := by
  subst ev3
  unfold v_X12_apart_67 at hv
  unfold w_X12_apart_67
  intro ZZ hZ
  refine hv (fun J v3 => ∀ (xv3 : Int32), irm J → xv3 = zi v3 → ir v3 → ZZ (zz J) xv3) ?_ _ hJ rfl iv3
  clear hv hJ iv3
  intro J v3 hv xv3 hJ ev3 iv3
  subst ev3
  refine hZ _ _ ?_
  refine vw_X12_shodBy hJ (rfl : zi v3 = zi v3) iv3 (fun xr12 r12 Er12 Ir12 hv => ?_) hv
  refine ⟨fun cq => ?_, fun cq => ?_⟩
  · have hv := hv.1 (fun q => cq ((zeq Er12 (by decide : ((-1) : Int32) = zi (-1)) Ir12 (by decide : ir (-1))).mpr q))
    exact hk82 _ _ _ hJ (rfl : zi v3 = zi v3) iv3 hv
  · have hv := hv.2 ((zeq Er12 (by decide : ((-1) : Int32) = zi (-1)) Ir12 (by decide : ir (-1))).mp cq)
    obtain ⟨g13, hv⟩ := hv
    intro xy14 exy14
    obtain ⟨y14, eyy14⟩ : ∃ q9 : Int, q9 = v3 + 1 := ⟨_, rfl⟩
    have hv := hv y14 eyy14
    have Ey14 : xy14 = zi y14 := exy14.trans (((za (rfl : zi v3 = zi v3) (by decide : (1 : Int32) = zi 1))).trans (congrArg zi eyy14.symm))
    have Iy14 : ir y14 := by rw [eyy14]; exact g13
    clear exy14
    exact hv _ hJ Ey14 Iy14
def v_X12_apart_103 (o : Nat) (a1 : Int) (a2 : Int) (post' : Int → mJ → Prop) (J : mJ) (v4 : Int) (v5 : Int) : Prop := ∀ ZZ : (mJ → Int → Int → Prop), (∀ (J : mJ) (v4 : Int) (v5 : Int), ((v5 ≤ (subW a2 10) → post' (remZ v4 6) J) ∧ (¬ v5 ≤ (subW a2 10) → ∀ y19, y19 = (divZ v4 6) → ir (v5 + (-1)) ∧ ∀ y21, y21 = v5 + (-1) → ZZ J y19 y21)) → ZZ J v4 v5) → ZZ J v4 v5
theorem vw_X12_apart_103 {o : Nat} {a1 : Int} {a2 : Int}  (ia1 : ir a1) (ia2 : ir a2) {post : Int32 → mI → Prop} {post' : Int → mJ → Prop} (hp : ∀ (x : Int32) (r : Int) (J1 : mJ), x = zi r → ir r → irm J1 → post' r J1 → post x (zz J1)) {J : mJ} {xv4 : Int32} {v4 : Int} {xv5 : Int32} {v5 : Int} (hJ : irm J) (ev4 : xv4 = zi v4) (iv4 : ir v4) (ev5 : xv5 = zi v5) (iv5 : ir v5) (hv : v_X12_apart_103 o a1 a2 post' J v4 v5) : w_X12_apart_103 o (zi a1) (zi a2) post (zz J) xv4 xv5 := by
  subst ev4
  subst ev5
  unfold v_X12_apart_103 at hv
  unfold w_X12_apart_103
  intro ZZ hZ
  refine hv (fun J v4 v5 => ∀ (xv4 : Int32) (xv5 : Int32), irm J → xv4 = zi v4 → ir v4 → xv5 = zi v5 → ir v5 → ZZ (zz J) xv4 xv5) ?_ _ _ hJ rfl iv4 rfl iv5
  clear hv hJ iv4 iv5
  intro J v4 v5 hv xv4 xv5 hJ ev4 iv4 ev5 iv5
  subst ev4
  subst ev5
  refine hZ _ _ _ ?_
  refine ⟨fun cq => ?_, fun cq => ?_⟩
  · have hv := hv.1 ((zle (rfl : zi v5 = zi v5) (z_subW (rfl : zi a2 = zi a2) (by decide : (10 : Int32) = zi 10)) iv5 (ir_toInt _)).mp cq)
    exact hp _ _ _ (z_rem (rfl : zi v4 = zi v4) (by decide : (6 : Int32) = zi 6)) (ir_toInt _) hJ hv
  · have hv := hv.2 (fun q => cq ((zle (rfl : zi v5 = zi v5) (z_subW (rfl : zi a2 = zi a2) (by decide : (10 : Int32) = zi 10)) iv5 (ir_toInt _)).mpr q))
    intro xy19 exy19
    obtain ⟨y19, eyy19⟩ : ∃ q9 : Int, q9 = (divZ v4 6) := ⟨_, rfl⟩
    have hv := hv y19 eyy19
    have Ey19 : xy19 = zi y19 := exy19.trans (((z_div (rfl : zi v4 = zi v4) (by decide : (6 : Int32) = zi 6))).trans (congrArg zi eyy19.symm))
    have Iy19 : ir y19 := by rw [eyy19]; exact (ir_toInt _)
    clear exy19
    obtain ⟨g20, hv⟩ := hv
    intro xy21 exy21
    obtain ⟨y21, eyy21⟩ : ∃ q9 : Int, q9 = v5 + (-1) := ⟨_, rfl⟩
    have hv := hv y21 eyy21
    have Ey21 : xy21 = zi y21 := exy21.trans (((za (rfl : zi v5 = zi v5) (by decide : ((-1) : Int32) = zi (-1)))).trans (congrArg zi eyy21.symm))
    have Iy21 : ir y21 := by rw [eyy21]; exact g20
    clear exy21
    exact hv _ _ hJ Ey19 Iy19 Ey21 Iy21
def v_X12_apart_82 (o : Nat) (a1 : Int) (a2 : Int) (post' : Int → mJ → Prop) (J : mJ) (v3 : Int) : Prop := (¬ a2 = 0 → v_X12_shodBy J o v3 (fun r15 => v_X12_people J o (fun r16 => ir (r16 - 1) ∧ ∀ y18, y18 = (r16 - 1) → (v_X12_apart_103 o a1 a2 post') J r15 y18))) ∧ (a2 = 0 → post' v3 J)
theorem vw_X12_apart_82 {o : Nat} {a1 : Int} {a2 : Int}  (ia1 : ir a1) (ia2 : ir a2) {post : Int32 → mI → Prop} {post' : Int → mJ → Prop} (hp : ∀ (x : Int32) (r : Int) (J1 : mJ), x = zi r → ir r → irm J1 → post' r J1 → post x (zz J1)) {J : mJ} {xv3 : Int32} {v3 : Int} (hJ : irm J) (ev3 : xv3 = zi v3) (iv3 : ir v3) (hv : v_X12_apart_82 o a1 a2 post' J v3) : w_X12_apart_82 o (zi a1) (zi a2) post (zz J) xv3 := by
  subst ev3
  unfold v_X12_apart_82 at hv
  unfold w_X12_apart_82
  refine ⟨fun cq => ?_, fun cq => ?_⟩
  · have hv := hv.1 (fun q => cq ((zeq (rfl : zi a2 = zi a2) (by decide : (0 : Int32) = zi 0) ia2 (by decide : ir 0)).mpr q))
    refine vw_X12_shodBy hJ (rfl : zi v3 = zi v3) iv3 (fun xr15 r15 Er15 Ir15 hv => ?_) hv
    refine vw_X12_people hJ  (fun xr16 r16 Er16 Ir16 hv => ?_) hv
    obtain ⟨g17, hv⟩ := hv
    intro xy18 exy18
    obtain ⟨y18, eyy18⟩ : ∃ q9 : Int, q9 = (r16 - 1) := ⟨_, rfl⟩
    have hv := hv y18 eyy18
    have Ey18 : xy18 = zi y18 := exy18.trans (((zs Er16 (by decide : (1 : Int32) = zi 1))).trans (congrArg zi eyy18.symm))
    have Iy18 : ir y18 := by rw [eyy18]; exact g17
    clear exy18
    exact vw_X12_apart_103 ia1 ia2 hp hJ Er15 Ir15 Ey18 Iy18 hv
  · have hv := hv.2 ((zeq (rfl : zi a2 = zi a2) (by decide : (0 : Int32) = zi 0) ia2 (by decide : ir 0)).mp cq)
    exact hp _ _ _ (rfl : zi v3 = zi v3) iv3 hJ hv
def v_X12_apart_25 (o : Nat) (a1 : Int) (a2 : Int) (post' : Int → mJ → Prop) (J : mJ) : Prop := v_X12_people J o (fun r4 => (¬ r4 = 0 → v_X12_runs J o (fun J5 => (v_X12_apart_40 o a1 a2 post' (v_X12_apart_67 o a1 a2 post' (v_X12_apart_82 o a1 a2 post'))) J5 0)) ∧ (r4 = 0 → post' 0 J))
theorem vw_X12_apart_25 {o : Nat} {a1 : Int} {a2 : Int}  (ia1 : ir a1) (ia2 : ir a2) {post : Int32 → mI → Prop} {post' : Int → mJ → Prop} (hp : ∀ (x : Int32) (r : Int) (J1 : mJ), x = zi r → ir r → irm J1 → post' r J1 → post x (zz J1)) {J : mJ} (hJ : irm J) (hv : v_X12_apart_25 o a1 a2 post' J) : w_X12_apart_25 o (zi a1) (zi a2) post (zz J) := by
  unfold v_X12_apart_25 at hv
  unfold w_X12_apart_25
  refine vw_X12_people hJ  (fun xr4 r4 Er4 Ir4 hv => ?_) hv
  refine ⟨fun cq => ?_, fun cq => ?_⟩
  · have hv := hv.1 (fun q => cq ((zeq Er4 (by decide : (0 : Int32) = zi 0) Ir4 (by decide : ir 0)).mpr q))
    refine vw_X12_runs hJ  (fun J5 hJ hv => ?_) hv
    refine vw_X12_apart_40 ia1 ia2 hp ?_ hJ (by decide : (0 : Int32) = zi 0) (by decide : ir 0) hv
    · intro qq xx vv hJ ev3 iv3 hv
      refine vw_X12_apart_67 ia1 ia2 hp ?_ hJ ev3 iv3 hv
      · intro qq xx vv hJ ev3 iv3 hv
        exact vw_X12_apart_82 ia1 ia2 hp hJ ev3 iv3 hv
  · have hv := hv.2 ((zeq Er4 (by decide : (0 : Int32) = zi 0) Ir4 (by decide : ir 0)).mp cq)
    exact hp _ _ _ (by decide : (0 : Int32) = zi 0) (by decide : ir 0) hJ hv
def v_X12_apart (J : mJ) (o : Nat) (a1 : Int) (a2 : Int) (post' : Int → mJ → Prop) : Prop := v_X12_isHouse J o a1 (fun b1 J2 => (b1 = false → post' (-1) J2) ∧ (b1 = true → (a2 = 0 → (v_X12_apart_25 o a1 a2 post') J2) ∧ (¬ a2 = 0 → v_X12_isPerson J2 o (subW a2 10) (fun b3 => (b3 = true → (v_X12_apart_25 o a1 a2 post') J2) ∧ (b3 = false → post' (-1) J2)))))
theorem vw_X12_apart {J : mJ} {o : Nat} {xa1 : Int32} {a1 : Int} {xa2 : Int32} {a2 : Int} (hJ : irm J)   (ea1 : xa1 = zi a1) (ia1 : ir a1) (ea2 : xa2 = zi a2) (ia2 : ir a2) {post : Int32 → mI → Prop} {post' : Int → mJ → Prop} (hp : ∀ (x : Int32) (r : Int) (J1 : mJ), x = zi r → ir r → irm J1 → post' r J1 → post x (zz J1)) (hv : v_X12_apart J o a1 a2 post') : w_X12_apart (zz J) o xa1 xa2 post := by
  subst ea1
  subst ea2
  unfold v_X12_apart at hv
  unfold w_X12_apart
  refine vw_X12_isHouse hJ (rfl : zi a1 = zi a1) ia1 (fun b1 J2 hJ hv => ?_) hv
  refine ⟨fun cq => ?_, fun cq => ?_⟩
  · have hv := hv.1 cq
    exact hp _ _ _ (by decide : ((-1) : Int32) = zi (-1)) (by decide : ir (-1)) hJ hv
  · have hv := hv.2 cq
    refine ⟨fun cq => ?_, fun cq => ?_⟩
    · have hv := hv.1 ((zeq (rfl : zi a2 = zi a2) (by decide : (0 : Int32) = zi 0) ia2 (by decide : ir 0)).mp cq)
      exact vw_X12_apart_25 ia1 ia2 hp hJ hv
    · have hv := hv.2 (fun q => cq ((zeq (rfl : zi a2 = zi a2) (by decide : (0 : Int32) = zi 0) ia2 (by decide : ir 0)).mpr q))
      refine vw_X12_isPerson hJ (z_subW (rfl : zi a2 = zi a2) (by decide : (10 : Int32) = zi 10)) (ir_toInt _) (fun b3  hv => ?_) hv
      refine ⟨fun cq => ?_, fun cq => ?_⟩
      · have hv := hv.1 cq
        exact vw_X12_apart_25 ia1 ia2 hp hJ hv
      · have hv := hv.2 cq
        exact hp _ _ _ (by decide : ((-1) : Int32) = zi (-1)) (by decide : ir (-1)) hJ hv
def v_X12_worthOf (J : mJ) (o : Nat) (a1 : Int) (a2 : Int) (post' : Int → mJ → Prop) : Prop := v_X12_runs J o (fun J1 => v_X12_allNotes J1 o (fun r2 => ∀ J3, J3 = up2 J1 o 18 a1 → ∀ J4, J4 = up2 J3 o 19 a2 → v_X12_runs J4 o (fun J5 => ∀ J6, J6 = up2 J5 o 18 (-1) → v_X12_allNotes J6 o (fun r7 => ir (r2 - r7) ∧ post' (r2 - r7) J6))))
theorem vw_X12_worthOf {J : mJ} {o : Nat} {xa1 : Int32} {a1 : Int} {xa2 : Int32} {a2 : Int} (hJ : irm J)   (ea1 : xa1 = zi a1) (ia1 : ir a1) (ea2 : xa2 = zi a2) (ia2 : ir a2) {post : Int32 → mI → Prop} {post' : Int → mJ → Prop} (hp : ∀ (x : Int32) (r : Int) (J1 : mJ), x = zi r → ir r → irm J1 → post' r J1 → post x (zz J1)) (hv : v_X12_worthOf J o a1 a2 post') : w_X12_worthOf (zz J) o xa1 xa2 post := by
  subst ea1
  subst ea2
  unfold v_X12_worthOf at hv
  unfold w_X12_worthOf
  refine vw_X12_runs hJ  (fun J1 hJ hv => ?_) hv
  refine vw_X12_allNotes hJ  (fun xr2 r2 Er2 Ir2 hv => ?_) hv
  intro I1 eI1
  obtain ⟨J3, eJ3⟩ : ∃ q9 : mJ, q9 = up2 J1 o 18 a1 := ⟨_, rfl⟩
  have eI1 : I1 = zz J3 := by rw [eI1, eJ3]; exact zup (rfl : zi a1 = zi a1)
  subst eI1
  have hv := hv J3 eJ3
  have hJ : irm J3 := by rw [eJ3]; exact irm_up hJ ia1
  intro I1 eI1
  obtain ⟨J4, eJ4⟩ : ∃ q9 : mJ, q9 = up2 J3 o 19 a2 := ⟨_, rfl⟩
  have eI1 : I1 = zz J4 := by rw [eI1, eJ4]; exact zup (rfl : zi a2 = zi a2)
  subst eI1
  have hv := hv J4 eJ4
  have hJ : irm J4 := by rw [eJ4]; exact irm_up hJ ia2
  refine vw_X12_runs hJ  (fun J5 hJ hv => ?_) hv
  intro I1 eI1
  obtain ⟨J6, eJ6⟩ : ∃ q9 : mJ, q9 = up2 J5 o 18 (-1) := ⟨_, rfl⟩
  have eI1 : I1 = zz J6 := by rw [eI1, eJ6]; exact zup (by decide : ((-1) : Int32) = zi (-1))
  subst eI1
  have hv := hv J6 eJ6
  have hJ : irm J6 := by rw [eJ6]; exact irm_up hJ (by decide : ir (-1))
  refine vw_X12_allNotes hJ  (fun xr7 r7 Er7 Ir7 hv => ?_) hv
  obtain ⟨g8, hv⟩ := hv
  exact hp _ _ _ (zs Er2 Er7) g8 hJ hv
def v_X12_worth_93 (o : Nat) (a1 : Int) (a2 : Int) (a3 : Int) (post' : Int → mJ → Prop) (k60' : mJ → Int → Int → Int → Prop) (J : mJ) (v5 : Int) (v6 : Int) (v7 : Int) (s0 : Int) : Prop := (v7 ≤ v5 → ir (v6 + 1) ∧ ∀ y13, y13 = v6 + 1 → k60' J s0 v5 y13) ∧ (¬ v7 ≤ v5 → ir (v6 + 1) ∧ ∀ y15, y15 = v6 + 1 → k60' J s0 v7 y15)
theorem vw_X12_worth_93 {o : Nat} {a1 : Int} {a2 : Int} {a3 : Int}  (ia1 : ir a1) (ia2 : ir a2) (ia3 : ir a3) {post : Int32 → mI → Prop} {post' : Int → mJ → Prop} {k60' : mJ → Int → Int → Int → Prop} {k60 : mI → Int32 → Int32 → Int32 → Prop} (hp : ∀ (x : Int32) (r : Int) (J1 : mJ), x = zi r → ir r → irm J1 → post' r J1 → post x (zz J1)) (hk60 : ∀ (J : mJ) (xv4 : Int32) (v4 : Int) (xv5 : Int32) (v5 : Int) (xv6 : Int32) (v6 : Int), irm J → xv4 = zi v4 → ir v4 → xv5 = zi v5 → ir v5 → xv6 = zi v6 → ir v6 → k60' J v4 v5 v6 → k60 (zz J) xv4 xv5 xv6) {J : mJ} {xv5 : Int32} {v5 : Int} {xv6 : Int32} {v6 : Int} {xv7 : Int32} {v7 : Int} {xs0 : Int32} {s0 : Int} (hJ : irm J) (ev5 : xv5 = zi v5) (iv5 : ir v5) (ev6 : xv6 = zi v6) (iv6 : ir v6) (ev7 : xv7 = zi v7) (iv7 : ir v7) (es0 : xs0 = zi s0) (is0 : ir s0) (hv : v_X12_worth_93 o a1 a2 a3 post' k60' J v5 v6 v7 s0) : w_X12_worth_93 o (zi a1) (zi a2) (zi a3) post k60 (zz J) xv5 xv6 xv7 xs0 := by
  subst ev5
  subst ev6
  subst ev7
  subst es0
  unfold v_X12_worth_93 at hv
  unfold w_X12_worth_93
  refine ⟨fun cq => ?_, fun cq => ?_⟩
  · have hv := hv.1 ((zle (rfl : zi v7 = zi v7) (rfl : zi v5 = zi v5) iv7 iv5).mp cq)
    obtain ⟨g12, hv⟩ := hv
    intro xy13 exy13
    obtain ⟨y13, eyy13⟩ : ∃ q9 : Int, q9 = v6 + 1 := ⟨_, rfl⟩
    have hv := hv y13 eyy13
    have Ey13 : xy13 = zi y13 := exy13.trans (((za (rfl : zi v6 = zi v6) (by decide : (1 : Int32) = zi 1))).trans (congrArg zi eyy13.symm))
    have Iy13 : ir y13 := by rw [eyy13]; exact g12
    clear exy13
    exact hk60 _ _ _ _ _ _ _ hJ (rfl : zi s0 = zi s0) is0 (rfl : zi v5 = zi v5) iv5 Ey13 Iy13 hv
  · have hv := hv.2 (fun q => cq ((zle (rfl : zi v7 = zi v7) (rfl : zi v5 = zi v5) iv7 iv5).mpr q))
    obtain ⟨g14, hv⟩ := hv
    intro xy15 exy15
    obtain ⟨y15, eyy15⟩ : ∃ q9 : Int, q9 = v6 + 1 := ⟨_, rfl⟩
    have hv := hv y15 eyy15
    have Ey15 : xy15 = zi y15 := exy15.trans (((za (rfl : zi v6 = zi v6) (by decide : (1 : Int32) = zi 1))).trans (congrArg zi eyy15.symm))
    have Iy15 : ir y15 := by rw [eyy15]; exact g14
    clear exy15
    exact hk60 _ _ _ _ _ _ _ hJ (rfl : zi s0 = zi s0) is0 (rfl : zi v7 = zi v7) iv7 Ey15 Iy15 hv
def v_X12_worth_60 (o : Nat) (a1 : Int) (a2 : Int) (a3 : Int) (post' : Int → mJ → Prop) (J : mJ) (v4 : Int) (v5 : Int) (v6 : Int) : Prop := ∀ ZZ : (mJ → Int → Int → Int → Prop), (∀ (J : mJ) (v4 : Int) (v5 : Int) (v6 : Int), (v_X12_of J o 0 (fun r9 => (r9 ≤ v6 → post' v4 J) ∧ (¬ r9 ≤ v6 → v_X12_worthOf J o v6 a3 (fun r10 J11 => (r10 ≤ v5 → (v_X12_worth_93 o a1 a2 a3 post' ZZ) J11 v5 v6 r10 v4) ∧ (¬ r10 ≤ v5 → (v_X12_worth_93 o a1 a2 a3 post' ZZ) J11 v5 v6 r10 v6))))) → ZZ J v4 v5 v6) → ZZ J v4 v5 v6
theorem vw_X12_worth_60 {o : Nat} {a1 : Int} {a2 : Int} {a3 : Int}  (ia1 : ir a1) (ia2 : ir a2) (ia3 : ir a3) {post : Int32 → mI → Prop} {post' : Int → mJ → Prop} (hp : ∀ (x : Int32) (r : Int) (J1 : mJ), x = zi r → ir r → irm J1 → post' r J1 → post x (zz J1)) {J : mJ} {xv4 : Int32} {v4 : Int} {xv5 : Int32} {v5 : Int} {xv6 : Int32} {v6 : Int} (hJ : irm J) (ev4 : xv4 = zi v4) (iv4 : ir v4) (ev5 : xv5 = zi v5) (iv5 : ir v5) (ev6 : xv6 = zi v6) (iv6 : ir v6) (hv : v_X12_worth_60 o a1 a2 a3 post' J v4 v5 v6) : w_X12_worth_60 o (zi a1) (zi a2) (zi a3) post (zz J) xv4 xv5 xv6 := by
  subst ev4
  subst ev5
  subst ev6
  unfold v_X12_worth_60 at hv
  unfold w_X12_worth_60
  intro ZZ hZ
  refine hv (fun J v4 v5 v6 => ∀ (xv4 : Int32) (xv5 : Int32) (xv6 : Int32), irm J → xv4 = zi v4 → ir v4 → xv5 = zi v5 → ir v5 → xv6 = zi v6 → ir v6 → ZZ (zz J) xv4 xv5 xv6) ?_ _ _ _ hJ rfl iv4 rfl iv5 rfl iv6
  clear hv hJ iv4 iv5 iv6
  intro J v4 v5 v6 hv xv4 xv5 xv6 hJ ev4 iv4 ev5 iv5 ev6 iv6
  subst ev4
  subst ev5
  subst ev6
  refine hZ _ _ _ _ ?_
  refine vw_X12_of hJ (by decide : (0 : Int32) = zi 0) (by decide : ir 0) (fun xr9 r9 Er9 Ir9 hv => ?_) hv
  refine ⟨fun cq => ?_, fun cq => ?_⟩
  · have hv := hv.1 ((zle Er9 (rfl : zi v6 = zi v6) Ir9 iv6).mp cq)
    exact hp _ _ _ (rfl : zi v4 = zi v4) iv4 hJ hv
  · have hv := hv.2 (fun q => cq ((zle Er9 (rfl : zi v6 = zi v6) Ir9 iv6).mpr q))
    refine vw_X12_worthOf hJ (rfl : zi v6 = zi v6) iv6 (rfl : zi a3 = zi a3) ia3 (fun xr10 r10 J11 Er10 Ir10 hJ hv => ?_) hv
    refine ⟨fun cq => ?_, fun cq => ?_⟩
    · have hv := hv.1 ((zle Er10 (rfl : zi v5 = zi v5) Ir10 iv5).mp cq)
      refine vw_X12_worth_93 ia1 ia2 ia3 hp ?_ hJ (rfl : zi v5 = zi v5) iv5 (rfl : zi v6 = zi v6) iv6 Er10 Ir10 (rfl : zi v4 = zi v4) iv4 hv
      · intro qq xx vv xx vv xx vv hJ ev4 iv4 ev5 iv5 ev6 iv6 hv
        exact hv _ _ _ hJ ev4 iv4 ev5 iv5 ev6 iv6
    · have hv := hv.2 (fun q => cq ((zle Er10 (rfl : zi v5 = zi v5) Ir10 iv5).mpr q))
      refine vw_X12_worth_93 ia1 ia2 ia3 hp ?_ hJ (rfl : zi v5 = zi v5) iv5 (rfl : zi v6 = zi v6) iv6 Er10 Ir10 (rfl : zi v6 = zi v6) iv6 hv
      · intro qq xx vv xx vv xx vv hJ ev4 iv4 ev5 iv5 ev6 iv6 hv
        exact hv _ _ _ hJ ev4 iv4 ev5 iv5 ev6 iv6
def v_X12_worth_21 (o : Nat) (a1 : Int) (a2 : Int) (a3 : Int) (post' : Int → mJ → Prop) (J : mJ) : Prop := v_X12_isIn a3 1 9 (fun b4 => (b4 = true → (a2 = (-1) → v_X12_worthOf J o 0 a3 (fun r5 J6 => (v_X12_worth_60 o a1 a2 a3 post') J6 0 r5 1)) ∧ (¬ a2 = (-1) → v_X12_worthOf J o a2 a3 (fun r7 J8 => post' r7 J8))) ∧ (b4 = false → post' (-2) J))
theorem vw_X12_worth_21 {o : Nat} {a1 : Int} {a2 : Int} {a3 : Int}  (ia1 : ir a1) (ia2 : ir a2) (ia3 : ir a3) {post : Int32 → mI → Prop} {post' : Int → mJ → Prop} (hp : ∀ (x : Int32) (r : Int) (J1 : mJ), x = zi r → ir r → irm J1 → post' r J1 → post x (zz J1)) {J : mJ} (hJ : irm J) (hv : v_X12_worth_21 o a1 a2 a3 post' J) : w_X12_worth_21 o (zi a1) (zi a2) (zi a3) post (zz J) := by
  unfold v_X12_worth_21 at hv
  unfold w_X12_worth_21
  refine vw_X12_isIn (rfl : zi a3 = zi a3) ia3 (by decide : (1 : Int32) = zi 1) (by decide : ir 1) (by decide : (9 : Int32) = zi 9) (by decide : ir 9) (fun b4  hv => ?_) hv
  refine ⟨fun cq => ?_, fun cq => ?_⟩
  · have hv := hv.1 cq
    refine ⟨fun cq => ?_, fun cq => ?_⟩
    · have hv := hv.1 ((zeq (rfl : zi a2 = zi a2) (by decide : ((-1) : Int32) = zi (-1)) ia2 (by decide : ir (-1))).mp cq)
      refine vw_X12_worthOf hJ (by decide : (0 : Int32) = zi 0) (by decide : ir 0) (rfl : zi a3 = zi a3) ia3 (fun xr5 r5 J6 Er5 Ir5 hJ hv => ?_) hv
      exact vw_X12_worth_60 ia1 ia2 ia3 hp hJ (by decide : (0 : Int32) = zi 0) (by decide : ir 0) Er5 Ir5 (by decide : (1 : Int32) = zi 1) (by decide : ir 1) hv
    · have hv := hv.2 (fun q => cq ((zeq (rfl : zi a2 = zi a2) (by decide : ((-1) : Int32) = zi (-1)) ia2 (by decide : ir (-1))).mpr q))
      refine vw_X12_worthOf hJ (rfl : zi a2 = zi a2) ia2 (rfl : zi a3 = zi a3) ia3 (fun xr7 r7 J8 Er7 Ir7 hJ hv => ?_) hv
      exact hp _ _ _ Er7 Ir7 hJ hv
  · have hv := hv.2 cq
    exact hp _ _ _ (by decide : ((-2) : Int32) = zi (-2)) (by decide : ir (-2)) hJ hv
def v_X12_worth (J : mJ) (o : Nat) (a1 : Int) (a2 : Int) (a3 : Int) (post' : Int → mJ → Prop) : Prop := v_X12_isHouse J o a1 (fun b1 J2 => (b1 = false → post' (-2) J2) ∧ (b1 = true → (a2 = (-1) → (v_X12_worth_21 o a1 a2 a3 post') J2) ∧ (¬ a2 = (-1) → v_X12_isStep J2 o a2 (fun b3 => (b3 = false → post' (-2) J2) ∧ (b3 = true → (v_X12_worth_21 o a1 a2 a3 post') J2)))))
theorem vw_X12_worth {J : mJ} {o : Nat} {xa1 : Int32} {a1 : Int} {xa2 : Int32} {a2 : Int} {xa3 : Int32} {a3 : Int} (hJ : irm J)   (ea1 : xa1 = zi a1) (ia1 : ir a1) (ea2 : xa2 = zi a2) (ia2 : ir a2) (ea3 : xa3 = zi a3) (ia3 : ir a3) {post : Int32 → mI → Prop} {post' : Int → mJ → Prop} (hp : ∀ (x : Int32) (r : Int) (J1 : mJ), x = zi r → ir r → irm J1 → post' r J1 → post x (zz J1)) (hv : v_X12_worth J o a1 a2 a3 post') : w_X12_worth (zz J) o xa1 xa2 xa3 post := by
  subst ea1
  subst ea2
  subst ea3
  unfold v_X12_worth at hv
  unfold w_X12_worth
  refine vw_X12_isHouse hJ (rfl : zi a1 = zi a1) ia1 (fun b1 J2 hJ hv => ?_) hv
  refine ⟨fun cq => ?_, fun cq => ?_⟩
  · have hv := hv.1 cq
    exact hp _ _ _ (by decide : ((-2) : Int32) = zi (-2)) (by decide : ir (-2)) hJ hv
  · have hv := hv.2 cq
    refine ⟨fun cq => ?_, fun cq => ?_⟩
    · have hv := hv.1 ((zeq (rfl : zi a2 = zi a2) (by decide : ((-1) : Int32) = zi (-1)) ia2 (by decide : ir (-1))).mp cq)
      exact vw_X12_worth_21 ia1 ia2 ia3 hp hJ hv
    · have hv := hv.2 (fun q => cq ((zeq (rfl : zi a2 = zi a2) (by decide : ((-1) : Int32) = zi (-1)) ia2 (by decide : ir (-1))).mpr q))
      refine vw_X12_isStep hJ (rfl : zi a2 = zi a2) ia2 (fun b3  hv => ?_) hv
      refine ⟨fun cq => ?_, fun cq => ?_⟩
      · have hv := hv.1 cq
        exact hp _ _ _ (by decide : ((-2) : Int32) = zi (-2)) (by decide : ir (-2)) hJ hv
      · have hv := hv.2 cq
        exact vw_X12_worth_21 ia1 ia2 ia3 hp hJ hv
def v_X12_sounds (J : mJ) (o : Nat) (post' : Int → Prop) : Prop := (0 ≤ (J o 44) ∧ (J o 44) < 3960) ∧ post' (J (o + 1) (J o 44).toNat)
theorem vw_X12_sounds {J : mJ} {o : Nat} (hJ : irm J)   {post : Int32 → Prop} {post' : Int → Prop} (hp : ∀ (x : Int32) (r : Int), x = zi r → ir r → post' r → post x) (hv : v_X12_sounds J o post') : w_X12_sounds (zz J) o post := by
  unfold v_X12_sounds at hv
  unfold w_X12_sounds
  obtain ⟨g1, hv⟩ := hv
  refine ⟨zvp zrf (hJ _ _) g1.1 g1.2, ?_⟩
  exact hp _ _ (zrd zrf (hJ _ _) g1.1) (hJ _ _) hv
def v_X12_soundOf (J : mJ) (o : Nat) (a1 : Int) (a2 : Int) (post' : Int → Prop) : Prop := ir ((J o 44) + 1) ∧ ir (4 * a1) ∧ ir (((J o 44) + 1) + (4 * a1)) ∧ ir ((((J o 44) + 1) + (4 * a1)) + a2) ∧ (0 ≤ ((((J o 44) + 1) + (4 * a1)) + a2) ∧ ((((J o 44) + 1) + (4 * a1)) + a2) < 3960) ∧ post' (J (o + 1) ((((J o 44) + 1) + (4 * a1)) + a2).toNat)
theorem vw_X12_soundOf {J : mJ} {o : Nat} {xa1 : Int32} {a1 : Int} {xa2 : Int32} {a2 : Int} (hJ : irm J)   (ea1 : xa1 = zi a1) (ia1 : ir a1) (ea2 : xa2 = zi a2) (ia2 : ir a2) {post : Int32 → Prop} {post' : Int → Prop} (hp : ∀ (x : Int32) (r : Int), x = zi r → ir r → post' r → post x) (hv : v_X12_soundOf J o a1 a2 post') : w_X12_soundOf (zz J) o xa1 xa2 post := by
  subst ea1
  subst ea2
  unfold v_X12_soundOf at hv
  unfold w_X12_soundOf
  obtain ⟨g1, hv⟩ := hv
  obtain ⟨g2, hv⟩ := hv
  obtain ⟨g3, hv⟩ := hv
  obtain ⟨g4, hv⟩ := hv
  obtain ⟨g5, hv⟩ := hv
  refine ⟨zvp (za (za (za zrf (by decide : (1 : Int32) = zi 1)) (zm (by decide : (4 : Int32) = zi 4) (rfl : zi a1 = zi a1))) (rfl : zi a2 = zi a2)) g4 g5.1 g5.2, ?_⟩
  exact hp _ _ (zrd (za (za (za zrf (by decide : (1 : Int32) = zi 1)) (zm (by decide : (4 : Int32) = zi 4) (rfl : zi a1 = zi a1))) (rfl : zi a2 = zi a2)) g4 g5.1) (hJ _ _) hv
def v_X12_sound (J : mJ) (o : Nat) (a1 : Int) (a2 : Int) (a3 : Int) (post' : Int → mJ → Prop) : Prop := v_X12_isOf J o 1 a1 (fun b1 => (b1 = true → v_X12_placeOf 1 a1 (fun r2 => ∀ J3, J3 = up2 J o 44 r2 → (¬ a2 = (-1) → v_X12_sounds J3 o (fun r4 => ir (r4 - 1) ∧ v_X12_isIn a2 0 (r4 - 1) (fun b6 => (b6 = false → post' (-2) J3) ∧ (b6 = true → v_X12_isIn a3 0 3 (fun b7 => (b7 = false → post' (-2) J3) ∧ (b7 = true → v_X12_soundOf J3 o a2 a3 (fun r8 => post' r8 J3))))))) ∧ (a2 = (-1) → (¬ a3 = 0 → post' (-2) J3) ∧ (a3 = 0 → v_X12_sounds J3 o (fun r9 => post' r9 J3))))) ∧ (b1 = false → post' (-2) J))
theorem vw_X12_sound {J : mJ} {o : Nat} {xa1 : Int32} {a1 : Int} {xa2 : Int32} {a2 : Int} {xa3 : Int32} {a3 : Int} (hJ : irm J)   (ea1 : xa1 = zi a1) (ia1 : ir a1) (ea2 : xa2 = zi a2) (ia2 : ir a2) (ea3 : xa3 = zi a3) (ia3 : ir a3) {post : Int32 → mI → Prop} {post' : Int → mJ → Prop} (hp : ∀ (x : Int32) (r : Int) (J1 : mJ), x = zi r → ir r → irm J1 → post' r J1 → post x (zz J1)) (hv : v_X12_sound J o a1 a2 a3 post') : w_X12_sound (zz J) o xa1 xa2 xa3 post := by
  subst ea1
  subst ea2
  subst ea3
  unfold v_X12_sound at hv
  unfold w_X12_sound
  refine vw_X12_isOf hJ (by decide : (1 : Int32) = zi 1) (by decide : ir 1) (rfl : zi a1 = zi a1) ia1 (fun b1  hv => ?_) hv
  refine ⟨fun cq => ?_, fun cq => ?_⟩
  · have hv := hv.1 cq
    refine vw_X12_placeOf (by decide : (1 : Int32) = zi 1) (by decide : ir 1) (rfl : zi a1 = zi a1) ia1 (fun xr2 r2 Er2 Ir2 hv => ?_) hv
    intro I1 eI1
    obtain ⟨J3, eJ3⟩ : ∃ q9 : mJ, q9 = up2 J o 44 r2 := ⟨_, rfl⟩
    have eI1 : I1 = zz J3 := by rw [eI1, eJ3]; exact zup Er2
    subst eI1
    have hv := hv J3 eJ3
    have hJ : irm J3 := by rw [eJ3]; exact irm_up hJ Ir2
    refine ⟨fun cq => ?_, fun cq => ?_⟩
    · have hv := hv.1 (fun q => cq ((zeq (rfl : zi a2 = zi a2) (by decide : ((-1) : Int32) = zi (-1)) ia2 (by decide : ir (-1))).mpr q))
      refine vw_X12_sounds hJ  (fun xr4 r4 Er4 Ir4 hv => ?_) hv
      obtain ⟨g5, hv⟩ := hv
      refine vw_X12_isIn (rfl : zi a2 = zi a2) ia2 (by decide : (0 : Int32) = zi 0) (by decide : ir 0) (zs Er4 (by decide : (1 : Int32) = zi 1)) g5 (fun b6  hv => ?_) hv
      refine ⟨fun cq => ?_, fun cq => ?_⟩
      · have hv := hv.1 cq
        exact hp _ _ _ (by decide : ((-2) : Int32) = zi (-2)) (by decide : ir (-2)) hJ hv
      · have hv := hv.2 cq
        refine vw_X12_isIn (rfl : zi a3 = zi a3) ia3 (by decide : (0 : Int32) = zi 0) (by decide : ir 0) (by decide : (3 : Int32) = zi 3) (by decide : ir 3) (fun b7  hv => ?_) hv
        refine ⟨fun cq => ?_, fun cq => ?_⟩
        · have hv := hv.1 cq
          exact hp _ _ _ (by decide : ((-2) : Int32) = zi (-2)) (by decide : ir (-2)) hJ hv
        · have hv := hv.2 cq
          refine vw_X12_soundOf hJ (rfl : zi a2 = zi a2) ia2 (rfl : zi a3 = zi a3) ia3 (fun xr8 r8 Er8 Ir8 hv => ?_) hv
          exact hp _ _ _ Er8 Ir8 hJ hv
    · have hv := hv.2 ((zeq (rfl : zi a2 = zi a2) (by decide : ((-1) : Int32) = zi (-1)) ia2 (by decide : ir (-1))).mp cq)
      refine ⟨fun cq => ?_, fun cq => ?_⟩
      · have hv := hv.1 (fun q => cq ((zeq (rfl : zi a3 = zi a3) (by decide : (0 : Int32) = zi 0) ia3 (by decide : ir 0)).mpr q))
        exact hp _ _ _ (by decide : ((-2) : Int32) = zi (-2)) (by decide : ir (-2)) hJ hv
      · have hv := hv.2 ((zeq (rfl : zi a3 = zi a3) (by decide : (0 : Int32) = zi 0) ia3 (by decide : ir 0)).mp cq)
        refine vw_X12_sounds hJ  (fun xr9 r9 Er9 Ir9 hv => ?_) hv
        exact hp _ _ _ Er9 Ir9 hJ hv
  · have hv := hv.2 cq
    exact hp _ _ _ (by decide : ((-2) : Int32) = zi (-2)) (by decide : ir (-2)) hJ hv
def v_X12_areRead (J : mJ) (o : Nat) (a1 : Int) (a2 : Int) (post' : Bool → mJ → Prop) : Prop := v_X12_isHouse J o a1 (fun b1 J2 => (b1 = false → post' false J2) ∧ (b1 = true → v_X12_isOf J2 o 1 a2 (fun b3 => (b3 = true → v_X12_placeOf 1 a2 (fun r4 => ∀ J5, J5 = up2 J2 o 44 r4 → post' true J5)) ∧ (b3 = false → post' false J2))))
theorem vw_X12_areRead {J : mJ} {o : Nat} {xa1 : Int32} {a1 : Int} {xa2 : Int32} {a2 : Int} (hJ : irm J)   (ea1 : xa1 = zi a1) (ia1 : ir a1) (ea2 : xa2 = zi a2) (ia2 : ir a2) {post : Bool → mI → Prop} {post' : Bool → mJ → Prop} (hp : ∀ (r : Bool) (J1 : mJ), irm J1 → post' r J1 → post r (zz J1)) (hv : v_X12_areRead J o a1 a2 post') : w_X12_areRead (zz J) o xa1 xa2 post := by
  subst ea1
  subst ea2
  unfold v_X12_areRead at hv
  unfold w_X12_areRead
  refine vw_X12_isHouse hJ (rfl : zi a1 = zi a1) ia1 (fun b1 J2 hJ hv => ?_) hv
  refine ⟨fun cq => ?_, fun cq => ?_⟩
  · have hv := hv.1 cq
    exact hp _ _ hJ hv
  · have hv := hv.2 cq
    refine vw_X12_isOf hJ (by decide : (1 : Int32) = zi 1) (by decide : ir 1) (rfl : zi a2 = zi a2) ia2 (fun b3  hv => ?_) hv
    refine ⟨fun cq => ?_, fun cq => ?_⟩
    · have hv := hv.1 cq
      refine vw_X12_placeOf (by decide : (1 : Int32) = zi 1) (by decide : ir 1) (rfl : zi a2 = zi a2) ia2 (fun xr4 r4 Er4 Ir4 hv => ?_) hv
      intro I1 eI1
      obtain ⟨J5, eJ5⟩ : ∃ q9 : mJ, q9 = up2 J2 o 44 r4 := ⟨_, rfl⟩
      have eI1 : I1 = zz J5 := by rw [eI1, eJ5]; exact zup Er4
      subst eI1
      have hv := hv J5 eJ5
      have hJ : irm J5 := by rw [eJ5]; exact irm_up hJ Ir4
      exact hp _ _ hJ hv
    · have hv := hv.2 cq
      exact hp _ _ hJ hv
def v_X12_isEcho_15 (J : mJ) (o : Nat) (a1 : Int) (a2 : Int) (a3 : Int) (post' : Bool → Prop) (v4 : Int) (v5 : Int) : Prop := ∀ ZZ : (Int → Int → Prop), (∀ (v4 : Int) (v5 : Int), (v_X12_people J o (fun r1 => (r1 ≤ v5 → ∃ b2, v4 = bZ b2 ∧ post' b2) ∧ (¬ r1 ≤ v5 → (¬ v4 = 0 → ir (v5 + 1) ∧ ∀ y4, y4 = v5 + 1 → ZZ 1 y4) ∧ (v4 = 0 → v_X12_told J o v5 0 (fun r5 => (¬ r5 = a2 → ir (v5 + 1) ∧ ∀ y7, y7 = v5 + 1 → ZZ 0 y7) ∧ (r5 = a2 → v_X12_loudBy J o v5 a2 a3 (fun r8 => v_X12_isHeard J o a1 (divZ r8 2) a3 (fun b9 => (b9 = false → ir (v5 + 1) ∧ ∀ y11, y11 = v5 + 1 → ZZ 0 y11) ∧ (b9 = true → ir (v5 + 1) ∧ ∀ y13, y13 = v5 + 1 → ZZ 1 y13))))))))) → ZZ v4 v5) → ZZ v4 v5
theorem vw_X12_isEcho_15 {J : mJ} {o : Nat} {a1 : Int} {a2 : Int} {a3 : Int} (hJ : irm J) (ia1 : ir a1) (ia2 : ir a2) (ia3 : ir a3) {post : Bool → Prop} {post' : Bool → Prop} (hp : ∀ (r : Bool), post' r → post r) {xv4 : Int32} {v4 : Int} {xv5 : Int32} {v5 : Int} (ev4 : xv4 = zi v4) (iv4 : ir v4) (ev5 : xv5 = zi v5) (iv5 : ir v5) (hv : v_X12_isEcho_15 J o a1 a2 a3 post' v4 v5) : w_X12_isEcho_15 (zz J) o (zi a1) (zi a2) (zi a3) post xv4 xv5 := by
  subst ev4
  subst ev5
  unfold v_X12_isEcho_15 at hv
  unfold w_X12_isEcho_15
  intro ZZ hZ
  refine hv (fun v4 v5 => ∀ (xv4 : Int32) (xv5 : Int32), xv4 = zi v4 → ir v4 → xv5 = zi v5 → ir v5 → ZZ xv4 xv5) ?_ _ _ rfl iv4 rfl iv5
  clear hv iv4 iv5
  intro v4 v5 hv xv4 xv5 ev4 iv4 ev5 iv5
  subst ev4
  subst ev5
  refine hZ _ _ ?_
  refine vw_X12_people hJ  (fun xr1 r1 Er1 Ir1 hv => ?_) hv
  refine ⟨fun cq => ?_, fun cq => ?_⟩
  · have hv := hv.1 ((zle Er1 (rfl : zi v5 = zi v5) Ir1 iv5).mp cq)
    obtain ⟨b2, eb2, hv⟩ := hv
    refine ⟨b2, ((rfl : zi v4 = zi v4)).trans (by rw [eb2]; exact (z_b b2).symm), ?_⟩
    exact hp _ hv
  · have hv := hv.2 (fun q => cq ((zle Er1 (rfl : zi v5 = zi v5) Ir1 iv5).mpr q))
    refine ⟨fun cq => ?_, fun cq => ?_⟩
    · have hv := hv.1 (fun q => cq ((zeq (rfl : zi v4 = zi v4) (by decide : (0 : Int32) = zi 0) iv4 (by decide : ir 0)).mpr q))
      obtain ⟨g3, hv⟩ := hv
      intro xy4 exy4
      obtain ⟨y4, eyy4⟩ : ∃ q9 : Int, q9 = v5 + 1 := ⟨_, rfl⟩
      have hv := hv y4 eyy4
      have Ey4 : xy4 = zi y4 := exy4.trans (((za (rfl : zi v5 = zi v5) (by decide : (1 : Int32) = zi 1))).trans (congrArg zi eyy4.symm))
      have Iy4 : ir y4 := by rw [eyy4]; exact g3
      clear exy4
      exact hv _ _ (by decide : (1 : Int32) = zi 1) (by decide : ir 1) Ey4 Iy4
    · have hv := hv.2 ((zeq (rfl : zi v4 = zi v4) (by decide : (0 : Int32) = zi 0) iv4 (by decide : ir 0)).mp cq)
      refine vw_X12_told hJ (rfl : zi v5 = zi v5) iv5 (by decide : (0 : Int32) = zi 0) (by decide : ir 0) (fun xr5 r5 Er5 Ir5 hv => ?_) hv
      refine ⟨fun cq => ?_, fun cq => ?_⟩
      · have hv := hv.1 (fun q => cq ((zeq Er5 (rfl : zi a2 = zi a2) Ir5 ia2).mpr q))
        obtain ⟨g6, hv⟩ := hv
        intro xy7 exy7
        obtain ⟨y7, eyy7⟩ : ∃ q9 : Int, q9 = v5 + 1 := ⟨_, rfl⟩
        have hv := hv y7 eyy7
        have Ey7 : xy7 = zi y7 := exy7.trans (((za (rfl : zi v5 = zi v5) (by decide : (1 : Int32) = zi 1))).trans (congrArg zi eyy7.symm))
        have Iy7 : ir y7 := by rw [eyy7]; exact g6
        clear exy7
        exact hv _ _ (by decide : (0 : Int32) = zi 0) (by decide : ir 0) Ey7 Iy7
      · have hv := hv.2 ((zeq Er5 (rfl : zi a2 = zi a2) Ir5 ia2).mp cq)
        refine vw_X12_loudBy hJ (rfl : zi v5 = zi v5) iv5 (rfl : zi a2 = zi a2) ia2 (rfl : zi a3 = zi a3) ia3 (fun xr8 r8 Er8 Ir8 hv => ?_) hv
        refine vw_X12_isHeard hJ (rfl : zi a1 = zi a1) ia1 (z_div Er8 (by decide : (2 : Int32) = zi 2)) (ir_toInt _) (rfl : zi a3 = zi a3) ia3 (fun b9  hv => ?_) hv
        refine ⟨fun cq => ?_, fun cq => ?_⟩
        · have hv := hv.1 cq
          obtain ⟨g10, hv⟩ := hv
          intro xy11 exy11
          obtain ⟨y11, eyy11⟩ : ∃ q9 : Int, q9 = v5 + 1 := ⟨_, rfl⟩
          have hv := hv y11 eyy11
          have Ey11 : xy11 = zi y11 := exy11.trans (((za (rfl : zi v5 = zi v5) (by decide : (1 : Int32) = zi 1))).trans (congrArg zi eyy11.symm))
          have Iy11 : ir y11 := by rw [eyy11]; exact g10
          clear exy11
          exact hv _ _ (by decide : (0 : Int32) = zi 0) (by decide : ir 0) Ey11 Iy11
        · have hv := hv.2 cq
          obtain ⟨g12, hv⟩ := hv
          intro xy13 exy13
          obtain ⟨y13, eyy13⟩ : ∃ q9 : Int, q9 = v5 + 1 := ⟨_, rfl⟩
          have hv := hv y13 eyy13
          have Ey13 : xy13 = zi y13 := exy13.trans (((za (rfl : zi v5 = zi v5) (by decide : (1 : Int32) = zi 1))).trans (congrArg zi eyy13.symm))
          have Iy13 : ir y13 := by rw [eyy13]; exact g12
          clear exy13
          exact hv _ _ (by decide : (1 : Int32) = zi 1) (by decide : ir 1) Ey13 Iy13
def v_X12_isEcho (J : mJ) (o : Nat) (a1 : Int) (a2 : Int) (a3 : Int) (post' : Bool → Prop) : Prop := (¬ a2 = (-1) → (v_X12_isEcho_15 J o a1 a2 a3 post') 0 0) ∧ (a2 = (-1) → (v_X12_isEcho_15 J o a1 a2 a3 post') 1 0)
theorem vw_X12_isEcho {J : mJ} {o : Nat} {xa1 : Int32} {a1 : Int} {xa2 : Int32} {a2 : Int} {xa3 : Int32} {a3 : Int} (hJ : irm J)   (ea1 : xa1 = zi a1) (ia1 : ir a1) (ea2 : xa2 = zi a2) (ia2 : ir a2) (ea3 : xa3 = zi a3) (ia3 : ir a3) {post : Bool → Prop} {post' : Bool → Prop} (hp : ∀ (r : Bool), post' r → post r) (hv : v_X12_isEcho J o a1 a2 a3 post') : w_X12_isEcho (zz J) o xa1 xa2 xa3 post := by
  subst ea1
  subst ea2
  subst ea3
  unfold v_X12_isEcho at hv
  unfold w_X12_isEcho
  refine ⟨fun cq => ?_, fun cq => ?_⟩
  · have hv := hv.1 (fun q => cq ((zeq (rfl : zi a2 = zi a2) (by decide : ((-1) : Int32) = zi (-1)) ia2 (by decide : ir (-1))).mpr q))
    exact vw_X12_isEcho_15 hJ ia1 ia2 ia3 hp (by decide : (0 : Int32) = zi 0) (by decide : ir 0) (by decide : (0 : Int32) = zi 0) (by decide : ir 0) hv
  · have hv := hv.2 ((zeq (rfl : zi a2 = zi a2) (by decide : ((-1) : Int32) = zi (-1)) ia2 (by decide : ir (-1))).mp cq)
    exact vw_X12_isEcho_15 hJ ia1 ia2 ia3 hp (by decide : (1 : Int32) = zi 1) (by decide : ir 1) (by decide : (0 : Int32) = zi 0) (by decide : ir 0) hv
def v_X12_isHis (J : mJ) (o : Nat) (a1 : Int) (a2 : Int) (post' : Bool → Prop) : Prop := v_X12_soundOf J o a2 1 (fun r1 => v_X12_shoeOf J o a1 r1 (fun r2 => v_X12_soundOf J o a2 2 (fun r3 => (¬ r2 = r3 → post' false) ∧ (r2 = r3 → post' true))))
theorem vw_X12_isHis {J : mJ} {o : Nat} {xa1 : Int32} {a1 : Int} {xa2 : Int32} {a2 : Int} (hJ : irm J)   (ea1 : xa1 = zi a1) (ia1 : ir a1) (ea2 : xa2 = zi a2) (ia2 : ir a2) {post : Bool → Prop} {post' : Bool → Prop} (hp : ∀ (r : Bool), post' r → post r) (hv : v_X12_isHis J o a1 a2 post') : w_X12_isHis (zz J) o xa1 xa2 post := by
  subst ea1
  subst ea2
  unfold v_X12_isHis at hv
  unfold w_X12_isHis
  refine vw_X12_soundOf hJ (rfl : zi a2 = zi a2) ia2 (by decide : (1 : Int32) = zi 1) (by decide : ir 1) (fun xr1 r1 Er1 Ir1 hv => ?_) hv
  refine vw_X12_shoeOf hJ (rfl : zi a1 = zi a1) ia1 Er1 Ir1 (fun xr2 r2 Er2 Ir2 hv => ?_) hv
  refine vw_X12_soundOf hJ (rfl : zi a2 = zi a2) ia2 (by decide : (2 : Int32) = zi 2) (by decide : ir 2) (fun xr3 r3 Er3 Ir3 hv => ?_) hv
  refine ⟨fun cq => ?_, fun cq => ?_⟩
  · have hv := hv.1 (fun q => cq ((zeq Er2 Er3 Ir2 Ir3).mpr q))
    exact hp _ hv
  · have hv := hv.2 ((zeq Er2 Er3 Ir2 Ir3).mp cq)
    exact hp _ hv
def v_X12_madeOn_32 (J : mJ) (o : Nat) (a1 : Int) (a2 : Int) (post' : Int → Prop) (v3 : Int) (v4 : Int) (v5 : Int) : Prop := ∀ ZZ : (Int → Int → Int → Prop), (∀ (v3 : Int) (v4 : Int) (v5 : Int), (v_X12_of J o 0 (fun r4 => (r4 ≤ v5 → post' v4) ∧ (¬ r4 ≤ v5 → v_X12_soundOf J o a2 2 (fun r5 => v_X12_loudBy J o a1 r5 v5 (fun r6 => v_X12_isHeard J o v3 r6 v5 (fun b7 => (b7 = false → ∀ y8, y8 = (orZ v4 0) → ir (v5 + 1) ∧ ∀ y10, y10 = v5 + 1 → ZZ v3 y8 y10) ∧ (b7 = true → v_X12_soundOf J o a2 3 (fun r11 => v_X12_isEcho J o v3 r11 v5 (fun b12 => (b12 = false → ∀ y13, y13 = (orZ v4 0) → ir (v5 + 1) ∧ ∀ y15, y15 = v5 + 1 → ZZ v3 y13 y15) ∧ (b12 = true → ∀ y16, y16 = (orZ v4 (shlZ 1 v5)) → ir (v5 + 1) ∧ ∀ y18, y18 = v5 + 1 → ZZ v3 y16 y18)))))))))) → ZZ v3 v4 v5) → ZZ v3 v4 v5
theorem vw_X12_madeOn_32 {J : mJ} {o : Nat} {a1 : Int} {a2 : Int} (hJ : irm J) (ia1 : ir a1) (ia2 : ir a2) {post : Int32 → Prop} {post' : Int → Prop} (hp : ∀ (x : Int32) (r : Int), x = zi r → ir r → post' r → post x) {xv3 : Int32} {v3 : Int} {xv4 : Int32} {v4 : Int} {xv5 : Int32} {v5 : Int} (ev3 : xv3 = zi v3) (iv3 : ir v3) (ev4 : xv4 = zi v4) (iv4 : ir v4) (ev5 : xv5 = zi v5) (iv5 : ir v5) (hv : v_X12_madeOn_32 J o a1 a2 post' v3 v4 v5) : w_X12_madeOn_32 (zz J) o (zi a1) (zi a2) post xv3 xv4 xv5 := by
  subst ev3
  subst ev4
  subst ev5
  unfold v_X12_madeOn_32 at hv
  unfold w_X12_madeOn_32
  intro ZZ hZ
  refine hv (fun v3 v4 v5 => ∀ (xv3 : Int32) (xv4 : Int32) (xv5 : Int32), xv3 = zi v3 → ir v3 → xv4 = zi v4 → ir v4 → xv5 = zi v5 → ir v5 → ZZ xv3 xv4 xv5) ?_ _ _ _ rfl iv3 rfl iv4 rfl iv5
  clear hv iv3 iv4 iv5
  intro v3 v4 v5 hv xv3 xv4 xv5 ev3 iv3 ev4 iv4 ev5 iv5
  subst ev3
  subst ev4
  subst ev5
  refine hZ _ _ _ ?_
  refine vw_X12_of hJ (by decide : (0 : Int32) = zi 0) (by decide : ir 0) (fun xr4 r4 Er4 Ir4 hv => ?_) hv
  refine ⟨fun cq => ?_, fun cq => ?_⟩
  · have hv := hv.1 ((zle Er4 (rfl : zi v5 = zi v5) Ir4 iv5).mp cq)
    exact hp _ _ (rfl : zi v4 = zi v4) iv4 hv
  · have hv := hv.2 (fun q => cq ((zle Er4 (rfl : zi v5 = zi v5) Ir4 iv5).mpr q))
    refine vw_X12_soundOf hJ (rfl : zi a2 = zi a2) ia2 (by decide : (2 : Int32) = zi 2) (by decide : ir 2) (fun xr5 r5 Er5 Ir5 hv => ?_) hv
    refine vw_X12_loudBy hJ (rfl : zi a1 = zi a1) ia1 Er5 Ir5 (rfl : zi v5 = zi v5) iv5 (fun xr6 r6 Er6 Ir6 hv => ?_) hv
    refine vw_X12_isHeard hJ (rfl : zi v3 = zi v3) iv3 Er6 Ir6 (rfl : zi v5 = zi v5) iv5 (fun b7  hv => ?_) hv
    refine ⟨fun cq => ?_, fun cq => ?_⟩
    · have hv := hv.1 cq
      intro xy8 exy8
      obtain ⟨y8, eyy8⟩ : ∃ q9 : Int, q9 = (orZ v4 0) := ⟨_, rfl⟩
      have hv := hv y8 eyy8
      have Ey8 : xy8 = zi y8 := exy8.trans (((z_or (rfl : zi v4 = zi v4) (by decide : (0 : Int32) = zi 0))).trans (congrArg zi eyy8.symm))
      have Iy8 : ir y8 := by rw [eyy8]; exact (ir_toInt _)
      clear exy8
      obtain ⟨g9, hv⟩ := hv
      intro xy10 exy10
      obtain ⟨y10, eyy10⟩ : ∃ q9 : Int, q9 = v5 + 1 := ⟨_, rfl⟩
      have hv := hv y10 eyy10
      have Ey10 : xy10 = zi y10 := exy10.trans (((za (rfl : zi v5 = zi v5) (by decide : (1 : Int32) = zi 1))).trans (congrArg zi eyy10.symm))
      have Iy10 : ir y10 := by rw [eyy10]; exact g9
      clear exy10
      exact hv _ _ _ (rfl : zi v3 = zi v3) iv3 Ey8 Iy8 Ey10 Iy10
    · have hv := hv.2 cq
      refine vw_X12_soundOf hJ (rfl : zi a2 = zi a2) ia2 (by decide : (3 : Int32) = zi 3) (by decide : ir 3) (fun xr11 r11 Er11 Ir11 hv => ?_) hv
      refine vw_X12_isEcho hJ (rfl : zi v3 = zi v3) iv3 Er11 Ir11 (rfl : zi v5 = zi v5) iv5 (fun b12  hv => ?_) hv
      refine ⟨fun cq => ?_, fun cq => ?_⟩
      · have hv := hv.1 cq
        intro xy13 exy13
        obtain ⟨y13, eyy13⟩ : ∃ q9 : Int, q9 = (orZ v4 0) := ⟨_, rfl⟩
        have hv := hv y13 eyy13
        have Ey13 : xy13 = zi y13 := exy13.trans (((z_or (rfl : zi v4 = zi v4) (by decide : (0 : Int32) = zi 0))).trans (congrArg zi eyy13.symm))
        have Iy13 : ir y13 := by rw [eyy13]; exact (ir_toInt _)
        clear exy13
        obtain ⟨g14, hv⟩ := hv
        intro xy15 exy15
        obtain ⟨y15, eyy15⟩ : ∃ q9 : Int, q9 = v5 + 1 := ⟨_, rfl⟩
        have hv := hv y15 eyy15
        have Ey15 : xy15 = zi y15 := exy15.trans (((za (rfl : zi v5 = zi v5) (by decide : (1 : Int32) = zi 1))).trans (congrArg zi eyy15.symm))
        have Iy15 : ir y15 := by rw [eyy15]; exact g14
        clear exy15
        exact hv _ _ _ (rfl : zi v3 = zi v3) iv3 Ey13 Iy13 Ey15 Iy15
      · have hv := hv.2 cq
        intro xy16 exy16
        obtain ⟨y16, eyy16⟩ : ∃ q9 : Int, q9 = (orZ v4 (shlZ 1 v5)) := ⟨_, rfl⟩
        have hv := hv y16 eyy16
        have Ey16 : xy16 = zi y16 := exy16.trans (((z_or (rfl : zi v4 = zi v4) (z_shl (by decide : (1 : Int32) = zi 1) (rfl : zi v5 = zi v5)))).trans (congrArg zi eyy16.symm))
        have Iy16 : ir y16 := by rw [eyy16]; exact (ir_toInt _)
        clear exy16
        obtain ⟨g17, hv⟩ := hv
        intro xy18 exy18
        obtain ⟨y18, eyy18⟩ : ∃ q9 : Int, q9 = v5 + 1 := ⟨_, rfl⟩
        have hv := hv y18 eyy18
        have Ey18 : xy18 = zi y18 := exy18.trans (((za (rfl : zi v5 = zi v5) (by decide : (1 : Int32) = zi 1))).trans (congrArg zi eyy18.symm))
        have Iy18 : ir y18 := by rw [eyy18]; exact g17
        clear exy18
        exact hv _ _ _ (rfl : zi v3 = zi v3) iv3 Ey16 Iy16 Ey18 Iy18
def v_X12_madeOn (J : mJ) (o : Nat) (a1 : Int) (a2 : Int) (post' : Int → Prop) : Prop := v_X12_soundOf J o a2 0 (fun r1 => v_X12_isFlat J o r1 (fun b2 => (b2 = false → post' 0) ∧ (b2 = true → v_X12_isHis J o a1 a2 (fun b3 => (b3 = true → (v_X12_madeOn_32 J o a1 a2 post') r1 0 0) ∧ (b3 = false → post' 0)))))
theorem vw_X12_madeOn {J : mJ} {o : Nat} {xa1 : Int32} {a1 : Int} {xa2 : Int32} {a2 : Int} (hJ : irm J)   (ea1 : xa1 = zi a1) (ia1 : ir a1) (ea2 : xa2 = zi a2) (ia2 : ir a2) {post : Int32 → Prop} {post' : Int → Prop} (hp : ∀ (x : Int32) (r : Int), x = zi r → ir r → post' r → post x) (hv : v_X12_madeOn J o a1 a2 post') : w_X12_madeOn (zz J) o xa1 xa2 post := by
  subst ea1
  subst ea2
  unfold v_X12_madeOn at hv
  unfold w_X12_madeOn
  refine vw_X12_soundOf hJ (rfl : zi a2 = zi a2) ia2 (by decide : (0 : Int32) = zi 0) (by decide : ir 0) (fun xr1 r1 Er1 Ir1 hv => ?_) hv
  refine vw_X12_isFlat hJ Er1 Ir1 (fun b2  hv => ?_) hv
  refine ⟨fun cq => ?_, fun cq => ?_⟩
  · have hv := hv.1 cq
    exact hp _ _ (by decide : (0 : Int32) = zi 0) (by decide : ir 0) hv
  · have hv := hv.2 cq
    refine vw_X12_isHis hJ (rfl : zi a1 = zi a1) ia1 (rfl : zi a2 = zi a2) ia2 (fun b3  hv => ?_) hv
    refine ⟨fun cq => ?_, fun cq => ?_⟩
    · have hv := hv.1 cq
      exact vw_X12_madeOn_32 hJ ia1 ia2 hp Er1 Ir1 (by decide : (0 : Int32) = zi 0) (by decide : ir 0) (by decide : (0 : Int32) = zi 0) (by decide : ir 0) hv
    · have hv := hv.2 cq
      exact hp _ _ (by decide : (0 : Int32) = zi 0) (by decide : ir 0) hv
def v_X12_makersOf_4 (J : mJ) (o : Nat) (a1 : Int) (post' : Int → Prop) (v2 : Int) (v3 : Int) : Prop := ∀ ZZ : (Int → Int → Prop), (∀ (v2 : Int) (v3 : Int), (v_X12_people J o (fun r1 => (r1 ≤ v3 → post' v2) ∧ (¬ r1 ≤ v3 → v_X12_madeOn J o v3 a1 (fun r2 => (r2 = 0 → ∀ y3, y3 = (orZ v2 0) → ir (v3 + 1) ∧ ∀ y5, y5 = v3 + 1 → ZZ y3 y5) ∧ (¬ r2 = 0 → ∀ y6, y6 = (orZ v2 (shlZ 1 v3)) → ir (v3 + 1) ∧ ∀ y8, y8 = v3 + 1 → ZZ y6 y8))))) → ZZ v2 v3) → ZZ v2 v3
theorem vw_X12_makersOf_4 {J : mJ} {o : Nat} {a1 : Int} (hJ : irm J) (ia1 : ir a1) {post : Int32 → Prop} {post' : Int → Prop} (hp : ∀ (x : Int32) (r : Int), x = zi r → ir r → post' r → post x) {xv2 : Int32} {v2 : Int} {xv3 : Int32} {v3 : Int} (ev2 : xv2 = zi v2) (iv2 : ir v2) (ev3 : xv3 = zi v3) (iv3 : ir v3) (hv : v_X12_makersOf_4 J o a1 post' v2 v3) : w_X12_makersOf_4 (zz J) o (zi a1) post xv2 xv3 := by
  subst ev2
  subst ev3
  unfold v_X12_makersOf_4 at hv
  unfold w_X12_makersOf_4
  intro ZZ hZ
  refine hv (fun v2 v3 => ∀ (xv2 : Int32) (xv3 : Int32), xv2 = zi v2 → ir v2 → xv3 = zi v3 → ir v3 → ZZ xv2 xv3) ?_ _ _ rfl iv2 rfl iv3
  clear hv iv2 iv3
  intro v2 v3 hv xv2 xv3 ev2 iv2 ev3 iv3
  subst ev2
  subst ev3
  refine hZ _ _ ?_
  refine vw_X12_people hJ  (fun xr1 r1 Er1 Ir1 hv => ?_) hv
  refine ⟨fun cq => ?_, fun cq => ?_⟩
  · have hv := hv.1 ((zle Er1 (rfl : zi v3 = zi v3) Ir1 iv3).mp cq)
    exact hp _ _ (rfl : zi v2 = zi v2) iv2 hv
  · have hv := hv.2 (fun q => cq ((zle Er1 (rfl : zi v3 = zi v3) Ir1 iv3).mpr q))
    refine vw_X12_madeOn hJ (rfl : zi v3 = zi v3) iv3 (rfl : zi a1 = zi a1) ia1 (fun xr2 r2 Er2 Ir2 hv => ?_) hv
    refine ⟨fun cq => ?_, fun cq => ?_⟩
    · have hv := hv.1 ((zeq Er2 (by decide : (0 : Int32) = zi 0) Ir2 (by decide : ir 0)).mp cq)
      intro xy3 exy3
      obtain ⟨y3, eyy3⟩ : ∃ q9 : Int, q9 = (orZ v2 0) := ⟨_, rfl⟩
      have hv := hv y3 eyy3
      have Ey3 : xy3 = zi y3 := exy3.trans (((z_or (rfl : zi v2 = zi v2) (by decide : (0 : Int32) = zi 0))).trans (congrArg zi eyy3.symm))
      have Iy3 : ir y3 := by rw [eyy3]; exact (ir_toInt _)
      clear exy3
      obtain ⟨g4, hv⟩ := hv
      intro xy5 exy5
      obtain ⟨y5, eyy5⟩ : ∃ q9 : Int, q9 = v3 + 1 := ⟨_, rfl⟩
      have hv := hv y5 eyy5
      have Ey5 : xy5 = zi y5 := exy5.trans (((za (rfl : zi v3 = zi v3) (by decide : (1 : Int32) = zi 1))).trans (congrArg zi eyy5.symm))
      have Iy5 : ir y5 := by rw [eyy5]; exact g4
      clear exy5
      exact hv _ _ Ey3 Iy3 Ey5 Iy5
    · have hv := hv.2 (fun q => cq ((zeq Er2 (by decide : (0 : Int32) = zi 0) Ir2 (by decide : ir 0)).mpr q))
      intro xy6 exy6
      obtain ⟨y6, eyy6⟩ : ∃ q9 : Int, q9 = (orZ v2 (shlZ 1 v3)) := ⟨_, rfl⟩
      have hv := hv y6 eyy6
      have Ey6 : xy6 = zi y6 := exy6.trans (((z_or (rfl : zi v2 = zi v2) (z_shl (by decide : (1 : Int32) = zi 1) (rfl : zi v3 = zi v3)))).trans (congrArg zi eyy6.symm))
      have Iy6 : ir y6 := by rw [eyy6]; exact (ir_toInt _)
      clear exy6
      obtain ⟨g7, hv⟩ := hv
      intro xy8 exy8
      obtain ⟨y8, eyy8⟩ : ∃ q9 : Int, q9 = v3 + 1 := ⟨_, rfl⟩
      have hv := hv y8 eyy8
      have Ey8 : xy8 = zi y8 := exy8.trans (((za (rfl : zi v3 = zi v3) (by decide : (1 : Int32) = zi 1))).trans (congrArg zi eyy8.symm))
      have Iy8 : ir y8 := by rw [eyy8]; exact g7
      clear exy8
      exact hv _ _ Ey6 Iy6 Ey8 Iy8
def v_X12_makersOf (J : mJ) (o : Nat) (a1 : Int) (post' : Int → Prop) : Prop := (v_X12_makersOf_4 J o a1 post') 0 0
theorem vw_X12_makersOf {J : mJ} {o : Nat} {xa1 : Int32} {a1 : Int} (hJ : irm J)   (ea1 : xa1 = zi a1) (ia1 : ir a1) {post : Int32 → Prop} {post' : Int → Prop} (hp : ∀ (x : Int32) (r : Int), x = zi r → ir r → post' r → post x) (hv : v_X12_makersOf J o a1 post') : w_X12_makersOf (zz J) o xa1 post := by
  subst ea1
  unfold v_X12_makersOf at hv
  unfold w_X12_makersOf
  exact vw_X12_makersOf_4 hJ ia1 hp (by decide : (0 : Int32) = zi 0) (by decide : ir 0) (by decide : (0 : Int32) = zi 0) (by decide : ir 0) hv
def v_X12_makers_43 (o : Nat) (a1 : Int) (a2 : Int) (a3 : Int) (post' : Int → mJ → Prop) (J : mJ) (v4 : Int) (v5 : Int) : Prop := ∀ ZZ : (mJ → Int → Int → Prop), (∀ (J : mJ) (v4 : Int) (v5 : Int), (v_X12_sounds J o (fun r7 => (r7 ≤ v5 → post' v4 J) ∧ (¬ r7 ≤ v5 → v_X12_makersOf J o v5 (fun r8 => (¬ r8 = 0 → ∀ y9, y9 = (orZ v4 0) → ir (v5 + 1) ∧ ∀ y11, y11 = v5 + 1 → ZZ J y9 y11) ∧ (r8 = 0 → ∀ y12, y12 = (orZ v4 (shlZ 1 v5)) → ir (v5 + 1) ∧ ∀ y14, y14 = v5 + 1 → ZZ J y12 y14))))) → ZZ J v4 v5) → ZZ J v4 v5
theorem vw_X12_makers_43 {o : Nat} {a1 : Int} {a2 : Int} {a3 : Int}  (ia1 : ir a1) (ia2 : ir a2) (ia3 : ir a3) {post : Int32 → mI → Prop} {post' : Int → mJ → Prop} (hp : ∀ (x : Int32) (r : Int) (J1 : mJ), x = zi r → ir r → irm J1 → post' r J1 → post x (zz J1)) {J : mJ} {xv4 : Int32} {v4 : Int} {xv5 : Int32} {v5 : Int} (hJ : irm J) (ev4 : xv4 = zi v4) (iv4 : ir v4) (ev5 : xv5 = zi v5) (iv5 : ir v5) (hv : v_X12_makers_43 o a1 a2 a3 post' J v4 v5) : w_X12_makers_43 o (zi a1) (zi a2) (zi a3) post (zz J) xv4 xv5 := by
  subst ev4
  subst ev5
  unfold v_X12_makers_43 at hv
  unfold w_X12_makers_43
  intro ZZ hZ
  refine hv (fun J v4 v5 => ∀ (xv4 : Int32) (xv5 : Int32), irm J → xv4 = zi v4 → ir v4 → xv5 = zi v5 → ir v5 → ZZ (zz J) xv4 xv5) ?_ _ _ hJ rfl iv4 rfl iv5
  clear hv hJ iv4 iv5
  intro J v4 v5 hv xv4 xv5 hJ ev4 iv4 ev5 iv5
  subst ev4
  subst ev5
  refine hZ _ _ _ ?_
  refine vw_X12_sounds hJ  (fun xr7 r7 Er7 Ir7 hv => ?_) hv
  refine ⟨fun cq => ?_, fun cq => ?_⟩
  · have hv := hv.1 ((zle Er7 (rfl : zi v5 = zi v5) Ir7 iv5).mp cq)
    exact hp _ _ _ (rfl : zi v4 = zi v4) iv4 hJ hv
  · have hv := hv.2 (fun q => cq ((zle Er7 (rfl : zi v5 = zi v5) Ir7 iv5).mpr q))
    refine vw_X12_makersOf hJ (rfl : zi v5 = zi v5) iv5 (fun xr8 r8 Er8 Ir8 hv => ?_) hv
    refine ⟨fun cq => ?_, fun cq => ?_⟩
    · have hv := hv.1 (fun q => cq ((zeq Er8 (by decide : (0 : Int32) = zi 0) Ir8 (by decide : ir 0)).mpr q))
      intro xy9 exy9
      obtain ⟨y9, eyy9⟩ : ∃ q9 : Int, q9 = (orZ v4 0) := ⟨_, rfl⟩
      have hv := hv y9 eyy9
      have Ey9 : xy9 = zi y9 := exy9.trans (((z_or (rfl : zi v4 = zi v4) (by decide : (0 : Int32) = zi 0))).trans (congrArg zi eyy9.symm))
      have Iy9 : ir y9 := by rw [eyy9]; exact (ir_toInt _)
      clear exy9
      obtain ⟨g10, hv⟩ := hv
      intro xy11 exy11
      obtain ⟨y11, eyy11⟩ : ∃ q9 : Int, q9 = v5 + 1 := ⟨_, rfl⟩
      have hv := hv y11 eyy11
      have Ey11 : xy11 = zi y11 := exy11.trans (((za (rfl : zi v5 = zi v5) (by decide : (1 : Int32) = zi 1))).trans (congrArg zi eyy11.symm))
      have Iy11 : ir y11 := by rw [eyy11]; exact g10
      clear exy11
      exact hv _ _ hJ Ey9 Iy9 Ey11 Iy11
    · have hv := hv.2 ((zeq Er8 (by decide : (0 : Int32) = zi 0) Ir8 (by decide : ir 0)).mp cq)
      intro xy12 exy12
      obtain ⟨y12, eyy12⟩ : ∃ q9 : Int, q9 = (orZ v4 (shlZ 1 v5)) := ⟨_, rfl⟩
      have hv := hv y12 eyy12
      have Ey12 : xy12 = zi y12 := exy12.trans (((z_or (rfl : zi v4 = zi v4) (z_shl (by decide : (1 : Int32) = zi 1) (rfl : zi v5 = zi v5)))).trans (congrArg zi eyy12.symm))
      have Iy12 : ir y12 := by rw [eyy12]; exact (ir_toInt _)
      clear exy12
      obtain ⟨g13, hv⟩ := hv
      intro xy14 exy14
      obtain ⟨y14, eyy14⟩ : ∃ q9 : Int, q9 = v5 + 1 := ⟨_, rfl⟩
      have hv := hv y14 eyy14
      have Ey14 : xy14 = zi y14 := exy14.trans (((za (rfl : zi v5 = zi v5) (by decide : (1 : Int32) = zi 1))).trans (congrArg zi eyy14.symm))
      have Iy14 : ir y14 := by rw [eyy14]; exact g13
      clear exy14
      exact hv _ _ hJ Ey12 Iy12 Ey14 Iy14
def v_X12_makers (J : mJ) (o : Nat) (a1 : Int) (a2 : Int) (a3 : Int) (post' : Int → mJ → Prop) : Prop := v_X12_areRead J o a1 a2 (fun b1 J2 => (b1 = false → post' (-2) J2) ∧ (b1 = true → v_X12_sounds J2 o (fun r3 => ir (r3 - 1) ∧ v_X12_isIn a3 (-1) (r3 - 1) (fun b5 => (b5 = true → (a3 = (-1) → (v_X12_makers_43 o a1 a2 a3 post') J2 0 0) ∧ (¬ a3 = (-1) → v_X12_makersOf J2 o a3 (fun r6 => post' r6 J2))) ∧ (b5 = false → post' (-2) J2)))))
theorem vw_X12_makers {J : mJ} {o : Nat} {xa1 : Int32} {a1 : Int} {xa2 : Int32} {a2 : Int} {xa3 : Int32} {a3 : Int} (hJ : irm J)   (ea1 : xa1 = zi a1) (ia1 : ir a1) (ea2 : xa2 = zi a2) (ia2 : ir a2) (ea3 : xa3 = zi a3) (ia3 : ir a3) {post : Int32 → mI → Prop} {post' : Int → mJ → Prop} (hp : ∀ (x : Int32) (r : Int) (J1 : mJ), x = zi r → ir r → irm J1 → post' r J1 → post x (zz J1)) (hv : v_X12_makers J o a1 a2 a3 post') : w_X12_makers (zz J) o xa1 xa2 xa3 post := by
  subst ea1
  subst ea2
  subst ea3
  unfold v_X12_makers at hv
  unfold w_X12_makers
  refine vw_X12_areRead hJ (rfl : zi a1 = zi a1) ia1 (rfl : zi a2 = zi a2) ia2 (fun b1 J2 hJ hv => ?_) hv
  refine ⟨fun cq => ?_, fun cq => ?_⟩
  · have hv := hv.1 cq
    exact hp _ _ _ (by decide : ((-2) : Int32) = zi (-2)) (by decide : ir (-2)) hJ hv
  · have hv := hv.2 cq
    refine vw_X12_sounds hJ  (fun xr3 r3 Er3 Ir3 hv => ?_) hv
    obtain ⟨g4, hv⟩ := hv
    refine vw_X12_isIn (rfl : zi a3 = zi a3) ia3 (by decide : ((-1) : Int32) = zi (-1)) (by decide : ir (-1)) (zs Er3 (by decide : (1 : Int32) = zi 1)) g4 (fun b5  hv => ?_) hv
    refine ⟨fun cq => ?_, fun cq => ?_⟩
    · have hv := hv.1 cq
      refine ⟨fun cq => ?_, fun cq => ?_⟩
      · have hv := hv.1 ((zeq (rfl : zi a3 = zi a3) (by decide : ((-1) : Int32) = zi (-1)) ia3 (by decide : ir (-1))).mp cq)
        exact vw_X12_makers_43 ia1 ia2 ia3 hp hJ (by decide : (0 : Int32) = zi 0) (by decide : ir 0) (by decide : (0 : Int32) = zi 0) (by decide : ir 0) hv
      · have hv := hv.2 (fun q => cq ((zeq (rfl : zi a3 = zi a3) (by decide : ((-1) : Int32) = zi (-1)) ia3 (by decide : ir (-1))).mpr q))
        refine vw_X12_makersOf hJ (rfl : zi a3 = zi a3) ia3 (fun xr6 r6 Er6 Ir6 hv => ?_) hv
        exact hp _ _ _ Er6 Ir6 hJ hv
    · have hv := hv.2 cq
      exact hp _ _ _ (by decide : ((-2) : Int32) = zi (-2)) (by decide : ir (-2)) hJ hv
def v_X12_sorts_15 (o : Nat) (a1 : Int) (post' : mJ → Prop) (k7' : mJ → Int → Prop) (J : mJ) (v2 : Int) (v3 : Int) : Prop := ∀ ZZ : (mJ → Int → Int → Prop), (∀ (J : mJ) (v2 : Int) (v3 : Int), (v_X12_sounds J o (fun r2 => (r2 ≤ v3 → ir (v2 + 1) ∧ ∀ y4, y4 = v2 + 1 → k7' J y4) ∧ (¬ r2 ≤ v3 → v_X12_soundOf J o v3 1 (fun r5 => (¬ r5 = v2 → ir (v3 + 1) ∧ ∀ y7, y7 = v3 + 1 → ZZ J v2 y7) ∧ (r5 = v2 → v_X12_isHis J o a1 v3 (fun b8 => (b8 = true → (0 ≤ (J o 45) ∧ (J o 45) < 10) ∧ ∀ J10, J10 = up2 J (o + 20) ((J o 45).toNat) v3 → ir ((J10 o 45) + 1) ∧ ∀ J12, J12 = up2 J10 o 45 ((J10 o 45) + 1) → ir (v3 + 1) ∧ ∀ y14, y14 = v3 + 1 → ZZ J12 v2 y14) ∧ (b8 = false → ir (v3 + 1) ∧ ∀ y16, y16 = v3 + 1 → ZZ J v2 y16))))))) → ZZ J v2 v3) → ZZ J v2 v3
theorem vw_X12_sorts_15 {o : Nat} {a1 : Int}  (ia1 : ir a1) {post : mI → Prop} {post' : mJ → Prop} {k7' : mJ → Int → Prop} {k7 : mI → Int32 → Prop} (hp : ∀ (J1 : mJ), irm J1 → post' J1 → post (zz J1)) (hk7 : ∀ (J : mJ) (xv2 : Int32) (v2 : Int), irm J → xv2 = zi v2 → ir v2 → k7' J v2 → k7 (zz J) xv2) {J : mJ} {xv2 : Int32} {v2 : Int} {xv3 : Int32} {v3 : Int} (hJ : irm J) (ev2 : xv2 = zi v2) (iv2 : ir v2) (ev3 : xv3 = zi v3) (iv3 : ir v3) (hv : v_X12_sorts_15 o a1 post' k7' J v2 v3) : w_X12_sorts_15 o (zi a1) post k7 (zz J) xv2 xv3 := by
  subst ev2
  subst ev3
  unfold v_X12_sorts_15 at hv
  unfold w_X12_sorts_15
  intro ZZ hZ
  refine hv (fun J v2 v3 => ∀ (xv2 : Int32) (xv3 : Int32), irm J → xv2 = zi v2 → ir v2 → xv3 = zi v3 → ir v3 → ZZ (zz J) xv2 xv3) ?_ _ _ hJ rfl iv2 rfl iv3
  clear hv hJ iv2 iv3
  intro J v2 v3 hv xv2 xv3 hJ ev2 iv2 ev3 iv3
  subst ev2
  subst ev3
  refine hZ _ _ _ ?_
  refine vw_X12_sounds hJ  (fun xr2 r2 Er2 Ir2 hv => ?_) hv
  refine ⟨fun cq => ?_, fun cq => ?_⟩
  · have hv := hv.1 ((zle Er2 (rfl : zi v3 = zi v3) Ir2 iv3).mp cq)
    obtain ⟨g3, hv⟩ := hv
    intro xy4 exy4
    obtain ⟨y4, eyy4⟩ : ∃ q9 : Int, q9 = v2 + 1 := ⟨_, rfl⟩
    have hv := hv y4 eyy4
    have Ey4 : xy4 = zi y4 := exy4.trans (((za (rfl : zi v2 = zi v2) (by decide : (1 : Int32) = zi 1))).trans (congrArg zi eyy4.symm))
    have Iy4 : ir y4 := by rw [eyy4]; exact g3
    clear exy4
    exact hk7 _ _ _ hJ Ey4 Iy4 hv
  · have hv := hv.2 (fun q => cq ((zle Er2 (rfl : zi v3 = zi v3) Ir2 iv3).mpr q))
    refine vw_X12_soundOf hJ (rfl : zi v3 = zi v3) iv3 (by decide : (1 : Int32) = zi 1) (by decide : ir 1) (fun xr5 r5 Er5 Ir5 hv => ?_) hv
    refine ⟨fun cq => ?_, fun cq => ?_⟩
    · have hv := hv.1 (fun q => cq ((zeq Er5 (rfl : zi v2 = zi v2) Ir5 iv2).mpr q))
      obtain ⟨g6, hv⟩ := hv
      intro xy7 exy7
      obtain ⟨y7, eyy7⟩ : ∃ q9 : Int, q9 = v3 + 1 := ⟨_, rfl⟩
      have hv := hv y7 eyy7
      have Ey7 : xy7 = zi y7 := exy7.trans (((za (rfl : zi v3 = zi v3) (by decide : (1 : Int32) = zi 1))).trans (congrArg zi eyy7.symm))
      have Iy7 : ir y7 := by rw [eyy7]; exact g6
      clear exy7
      exact hv _ _ hJ (rfl : zi v2 = zi v2) iv2 Ey7 Iy7
    · have hv := hv.2 ((zeq Er5 (rfl : zi v2 = zi v2) Ir5 iv2).mp cq)
      refine vw_X12_isHis hJ (rfl : zi a1 = zi a1) ia1 (rfl : zi v3 = zi v3) iv3 (fun b8  hv => ?_) hv
      refine ⟨fun cq => ?_, fun cq => ?_⟩
      · have hv := hv.1 cq
        obtain ⟨g9, hv⟩ := hv
        refine ⟨zvp zrf (hJ _ _) g9.1 g9.2, ?_⟩
        intro I1 eI1
        obtain ⟨J10, eJ10⟩ : ∃ q9 : mJ, q9 = up2 J (o + 20) ((J o 45).toNat) v3 := ⟨_, rfl⟩
        have eI1 : I1 = zz J10 := by rw [eI1, eJ10]; exact zupa zrf (hJ _ _) g9.1 (rfl : zi v3 = zi v3)
        subst eI1
        have hv := hv J10 eJ10
        have hJ : irm J10 := by rw [eJ10]; exact irm_up hJ iv3
        obtain ⟨g11, hv⟩ := hv
        intro I1 eI1
        obtain ⟨J12, eJ12⟩ : ∃ q9 : mJ, q9 = up2 J10 o 45 ((J10 o 45) + 1) := ⟨_, rfl⟩
        have eI1 : I1 = zz J12 := by rw [eI1, eJ12]; exact zup (za zrf (by decide : (1 : Int32) = zi 1))
        subst eI1
        have hv := hv J12 eJ12
        have hJ : irm J12 := by rw [eJ12]; exact irm_up hJ g11
        obtain ⟨g13, hv⟩ := hv
        intro xy14 exy14
        obtain ⟨y14, eyy14⟩ : ∃ q9 : Int, q9 = v3 + 1 := ⟨_, rfl⟩
        have hv := hv y14 eyy14
        have Ey14 : xy14 = zi y14 := exy14.trans (((za (rfl : zi v3 = zi v3) (by decide : (1 : Int32) = zi 1))).trans (congrArg zi eyy14.symm))
        have Iy14 : ir y14 := by rw [eyy14]; exact g13
        clear exy14
        exact hv _ _ hJ (rfl : zi v2 = zi v2) iv2 Ey14 Iy14
      · have hv := hv.2 cq
        obtain ⟨g15, hv⟩ := hv
        intro xy16 exy16
        obtain ⟨y16, eyy16⟩ : ∃ q9 : Int, q9 = v3 + 1 := ⟨_, rfl⟩
        have hv := hv y16 eyy16
        have Ey16 : xy16 = zi y16 := exy16.trans (((za (rfl : zi v3 = zi v3) (by decide : (1 : Int32) = zi 1))).trans (congrArg zi eyy16.symm))
        have Iy16 : ir y16 := by rw [eyy16]; exact g15
        clear exy16
        exact hv _ _ hJ (rfl : zi v2 = zi v2) iv2 Ey16 Iy16
def v_X12_sorts_7 (o : Nat) (a1 : Int) (post' : mJ → Prop) (J : mJ) (v2 : Int) : Prop := ∀ ZZ : (mJ → Int → Prop), (∀ (J : mJ) (v2 : Int), ((100 ≤ v2 → post' J) ∧ (¬ 100 ≤ v2 → (v_X12_sorts_15 o a1 post' ZZ) J v2 0)) → ZZ J v2) → ZZ J v2
theorem vw_X12_sorts_7 {o : Nat} {a1 : Int}  (ia1 : ir a1) {post : mI → Prop} {post' : mJ → Prop} (hp : ∀ (J1 : mJ), irm J1 → post' J1 → post (zz J1)) {J : mJ} {xv2 : Int32} {v2 : Int} (hJ : irm J) (ev2 : xv2 = zi v2) (iv2 : ir v2) (hv : v_X12_sorts_7 o a1 post' J v2) : w_X12_sorts_7 o (zi a1) post (zz J) xv2 := by
  subst ev2
  unfold v_X12_sorts_7 at hv
  unfold w_X12_sorts_7
  intro ZZ hZ
  refine hv (fun J v2 => ∀ (xv2 : Int32), irm J → xv2 = zi v2 → ir v2 → ZZ (zz J) xv2) ?_ _ hJ rfl iv2
  clear hv hJ iv2
  intro J v2 hv xv2 hJ ev2 iv2
  subst ev2
  refine hZ _ _ ?_
  refine ⟨fun cq => ?_, fun cq => ?_⟩
  · have hv := hv.1 ((zle (by decide : (100 : Int32) = zi 100) (rfl : zi v2 = zi v2) (by decide : ir 100) iv2).mp cq)
    exact hp _ hJ hv
  · have hv := hv.2 (fun q => cq ((zle (by decide : (100 : Int32) = zi 100) (rfl : zi v2 = zi v2) (by decide : ir 100) iv2).mpr q))
    refine vw_X12_sorts_15 ia1 hp ?_ hJ (rfl : zi v2 = zi v2) iv2 (by decide : (0 : Int32) = zi 0) (by decide : ir 0) hv
    · intro qq xx vv hJ ev2 iv2 hv
      exact hv _ hJ ev2 iv2
def v_X12_sorts (J : mJ) (o : Nat) (a1 : Int) (post' : mJ → Prop) : Prop := ∀ J1, J1 = up2 J o 45 0 → (v_X12_sorts_7 o a1 post') J1 0
theorem vw_X12_sorts {J : mJ} {o : Nat} {xa1 : Int32} {a1 : Int} (hJ : irm J)   (ea1 : xa1 = zi a1) (ia1 : ir a1) {post : mI → Prop} {post' : mJ → Prop} (hp : ∀ (J1 : mJ), irm J1 → post' J1 → post (zz J1)) (hv : v_X12_sorts J o a1 post') : w_X12_sorts (zz J) o xa1 post := by
  subst ea1
  unfold v_X12_sorts at hv
  unfold w_X12_sorts
  intro I1 eI1
  obtain ⟨J1, eJ1⟩ : ∃ q9 : mJ, q9 = up2 J o 45 0 := ⟨_, rfl⟩
  have eI1 : I1 = zz J1 := by rw [eI1, eJ1]; exact zup (by decide : (0 : Int32) = zi 0)
  subst eI1
  have hv := hv J1 eJ1
  have hJ : irm J1 := by rw [eJ1]; exact irm_up hJ (by decide : ir 0)
  exact vw_X12_sorts_7 ia1 hp hJ (by decide : (0 : Int32) = zi 0) (by decide : ir 0) hv
