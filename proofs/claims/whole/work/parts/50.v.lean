def v_X12_isGone_17 (J : mJ) (o : Nat) (a1 : Int) (a2 : Int) (a3 : Int) (a4 : Int) (post' : Bool → Prop) (s0 : Int) : Prop := v_X12_told J o a1 2 (fun r3 => ir (a2 + 1) ∧ (0 ≤ (a2 + 1) ∧ (a2 + 1) < 10) ∧ v_X12_soundOf J o (J (o + 20) (a2 + 1).toNat) 1 (fun r6 => (0 ≤ a2 ∧ a2 < 10) ∧ v_X12_soundOf J o (J (o + 20) a2.toNat) 1 (fun r8 => ir (r6 - r8) ∧ ir (r3 * (r6 - r8)) ∧ ((r3 * (r6 - r8)) < s0 → post' false) ∧ (¬ (r3 * (r6 - r8)) < s0 → post' true))))
theorem vw_X12_isGone_17 {J : mJ} {o : Nat} {a1 : Int} {a2 : Int} {a3 : Int} {a4 : Int} (hJ : irm J) (ia1 : ir a1) (ia2 : ir a2) (ia3 : ir a3) (ia4 : ir a4) {post : Bool → Prop} {post' : Bool → Prop} (hp : ∀ (r : Bool), post' r → post r) {xs0 : Int32} {s0 : Int} (es0 : xs0 = zi s0) (is0 : ir s0) (hv : v_X12_isGone_17 J o a1 a2 a3 a4 post' s0) : w_X12_isGone_17 (zz J) o (zi a1) (zi a2) (zi a3) (zi a4) post xs0 := by
  subst es0
  unfold v_X12_isGone_17 at hv
  unfold w_X12_isGone_17
  refine vw_X12_told hJ (rfl : zi a1 = zi a1) ia1 (by decide : (2 : Int32) = zi 2) (by decide : ir 2) (fun xr3 r3 Er3 Ir3 hv => ?_) hv
  obtain ⟨g4, hv⟩ := hv
  obtain ⟨g5, hv⟩ := hv
  refine ⟨zvp (za (rfl : zi a2 = zi a2) (by decide : (1 : Int32) = zi 1)) g4 g5.1 g5.2, ?_⟩
  refine vw_X12_soundOf hJ (zrd (za (rfl : zi a2 = zi a2) (by decide : (1 : Int32) = zi 1)) g4 g5.1) (hJ _ _) (by decide : (1 : Int32) = zi 1) (by decide : ir 1) (fun xr6 r6 Er6 Ir6 hv => ?_) hv
  obtain ⟨g7, hv⟩ := hv
  refine ⟨zvp (rfl : zi a2 = zi a2) ia2 g7.1 g7.2, ?_⟩
  refine vw_X12_soundOf hJ (zrd (rfl : zi a2 = zi a2) ia2 g7.1) (hJ _ _) (by decide : (1 : Int32) = zi 1) (by decide : ir 1) (fun xr8 r8 Er8 Ir8 hv => ?_) hv
  obtain ⟨g9, hv⟩ := hv
  obtain ⟨g10, hv⟩ := hv
  refine ⟨fun cq => ?_, fun cq => ?_⟩
  · have hv := hv.1 ((zlt (zm Er3 (zs Er6 Er8)) (rfl : zi s0 = zi s0) g10 is0).mp cq)
    exact hp _ hv
  · have hv := hv.2 (fun q => cq ((zlt (zm Er3 (zs Er6 Er8)) (rfl : zi s0 = zi s0) g10 is0).mpr q))
    exact hp _ hv
def v_X12_isGone (J : mJ) (o : Nat) (a1 : Int) (a2 : Int) (a3 : Int) (a4 : Int) (post' : Bool → Prop) : Prop := (a3 ≤ a4 → ir (a4 - a3) ∧ (v_X12_isGone_17 J o a1 a2 a3 a4 post') (a4 - a3)) ∧ (¬ a3 ≤ a4 → ir (a3 - a4) ∧ (v_X12_isGone_17 J o a1 a2 a3 a4 post') (a3 - a4))
theorem vw_X12_isGone {J : mJ} {o : Nat} {xa1 : Int32} {a1 : Int} {xa2 : Int32} {a2 : Int} {xa3 : Int32} {a3 : Int} {xa4 : Int32} {a4 : Int} (hJ : irm J)   (ea1 : xa1 = zi a1) (ia1 : ir a1) (ea2 : xa2 = zi a2) (ia2 : ir a2) (ea3 : xa3 = zi a3) (ia3 : ir a3) (ea4 : xa4 = zi a4) (ia4 : ir a4) {post : Bool → Prop} {post' : Bool → Prop} (hp : ∀ (r : Bool), post' r → post r) (hv : v_X12_isGone J o a1 a2 a3 a4 post') : w_X12_isGone (zz J) o xa1 xa2 xa3 xa4 post := by
  subst ea1
  subst ea2
  subst ea3
  subst ea4
  unfold v_X12_isGone at hv
  unfold w_X12_isGone
  refine ⟨fun cq => ?_, fun cq => ?_⟩
  · have hv := hv.1 ((zle (rfl : zi a3 = zi a3) (rfl : zi a4 = zi a4) ia3 ia4).mp cq)
    obtain ⟨g1, hv⟩ := hv
    exact vw_X12_isGone_17 hJ ia1 ia2 ia3 ia4 hp (zs (rfl : zi a4 = zi a4) (rfl : zi a3 = zi a3)) g1 hv
  · have hv := hv.2 (fun q => cq ((zle (rfl : zi a3 = zi a3) (rfl : zi a4 = zi a4) ia3 ia4).mpr q))
    obtain ⟨g2, hv⟩ := hv
    exact vw_X12_isGone_17 hJ ia1 ia2 ia3 ia4 hp (zs (rfl : zi a3 = zi a3) (rfl : zi a4 = zi a4)) g2 hv
def v_X12_tracks_89 (o : Nat) (a1 : Int) (post' : mJ → mL → Prop) (k30' : mJ → mL → Int → Int → Int → Prop) (J : mJ) (L : mL) (v2 : Int) (v3 : Int) (v4 : Int) (v5 : Int) : Prop := ∀ ZZ : (mJ → mL → Int → Int → Int → Int → Prop), (∀ (J : mJ) (L : mL) (v2 : Int) (v3 : Int) (v4 : Int) (v5 : Int), (v_X12_of J o 0 (fun r19 => (r19 ≤ v5 → ir (v4 + 1) ∧ ∀ y21, y21 = v4 + 1 → k30' J L v2 v3 y21) ∧ (¬ r19 ≤ v5 → (v2 ≤ 0 → ir (v4 + 1) ∧ ∀ y23, y23 = v4 + 1 → k30' J L v2 v3 y23) ∧ (¬ v2 ≤ 0 → ir (v2 - 1) ∧ v_X12_isGone J o a1 (v2 - 1) v5 v4 (fun b25 => (b25 = false → ir (v5 + 1) ∧ ∀ y27, y27 = v5 + 1 → ZZ J L v2 v3 v4 y27) ∧ (b25 = true → ir (24 * v2) ∧ ir ((24 * v2) + v4) ∧ (0 ≤ ((24 * v2) + v4) ∧ ((24 * v2) + v4) < 240) ∧ ir (v2 - 1) ∧ ir (24 * (v2 - 1)) ∧ ir ((24 * (v2 - 1)) + v5) ∧ (0 ≤ ((24 * (v2 - 1)) + v5) ∧ ((24 * (v2 - 1)) + v5) < 240) ∧ (0 ≤ ((24 * v2) + v4) ∧ ((24 * v2) + v4) < 240) ∧ ∀ L36, L36 = up2 L (o + 21) (((24 * v2) + v4).toNat) ((L (o + 21) ((24 * v2) + v4).toNat) + (L (o + 21) ((24 * (v2 - 1)) + v5).toNat)) → ir (v5 + 1) ∧ ∀ y38, y38 = v5 + 1 → ZZ J L36 v2 v3 v4 y38)))))) → ZZ J L v2 v3 v4 v5) → ZZ J L v2 v3 v4 v5
theorem vw_X12_tracks_89 {o : Nat} {a1 : Int}  (ia1 : ir a1) {post : mI → mL → Prop} {post' : mJ → mL → Prop} {k30' : mJ → mL → Int → Int → Int → Prop} {k30 : mI → mL → Int32 → Int32 → Int32 → Prop} (hp : ∀ (J1 : mJ) (L1 : mL), irm J1 → post' J1 L1 → post (zz J1) L1) (hk30 : ∀ (J : mJ) (L : mL) (xv2 : Int32) (v2 : Int) (xv3 : Int32) (v3 : Int) (xv4 : Int32) (v4 : Int), irm J → xv2 = zi v2 → ir v2 → xv3 = zi v3 → ir v3 → xv4 = zi v4 → ir v4 → k30' J L v2 v3 v4 → k30 (zz J) L xv2 xv3 xv4) {J : mJ} {L : mL} {xv2 : Int32} {v2 : Int} {xv3 : Int32} {v3 : Int} {xv4 : Int32} {v4 : Int} {xv5 : Int32} {v5 : Int} (hJ : irm J) (ev2 : xv2 = zi v2) (iv2 : ir v2) (ev3 : xv3 = zi v3) (iv3 : ir v3) (ev4 : xv4 = zi v4) (iv4 : ir v4) (ev5 : xv5 = zi v5) (iv5 : ir v5) (hv : v_X12_tracks_89 o a1 post' k30' J L v2 v3 v4 v5) : w_X12_tracks_89 o (zi a1) post k30 (zz J) L xv2 xv3 xv4 xv5 := by
  subst ev2
  subst ev3
  subst ev4
  subst ev5
  unfold v_X12_tracks_89 at hv
  unfold w_X12_tracks_89
  intro ZZ hZ
  refine hv (fun J L v2 v3 v4 v5 => ∀ (xv2 : Int32) (xv3 : Int32) (xv4 : Int32) (xv5 : Int32), irm J → xv2 = zi v2 → ir v2 → xv3 = zi v3 → ir v3 → xv4 = zi v4 → ir v4 → xv5 = zi v5 → ir v5 → ZZ (zz J) L xv2 xv3 xv4 xv5) ?_ _ _ _ _ hJ rfl iv2 rfl iv3 rfl iv4 rfl iv5
  clear hv hJ iv2 iv3 iv4 iv5
  intro J L v2 v3 v4 v5 hv xv2 xv3 xv4 xv5 hJ ev2 iv2 ev3 iv3 ev4 iv4 ev5 iv5
  subst ev2
  subst ev3
  subst ev4
  subst ev5
  refine hZ _ _ _ _ _ _ ?_
  refine vw_X12_of hJ (by decide : (0 : Int32) = zi 0) (by decide : ir 0) (fun xr19 r19 Er19 Ir19 hv => ?_) hv
  refine ⟨fun cq => ?_, fun cq => ?_⟩
  · have hv := hv.1 ((zle Er19 (rfl : zi v5 = zi v5) Ir19 iv5).mp cq)
    obtain ⟨g20, hv⟩ := hv
    intro xy21 exy21
    obtain ⟨y21, eyy21⟩ : ∃ q9 : Int, q9 = v4 + 1 := ⟨_, rfl⟩
    have hv := hv y21 eyy21
    have Ey21 : xy21 = zi y21 := exy21.trans (((za (rfl : zi v4 = zi v4) (by decide : (1 : Int32) = zi 1))).trans (congrArg zi eyy21.symm))
    have Iy21 : ir y21 := by rw [eyy21]; exact g20
    clear exy21
    exact hk30 _ _ _ _ _ _ _ _ hJ (rfl : zi v2 = zi v2) iv2 (rfl : zi v3 = zi v3) iv3 Ey21 Iy21 hv
  · have hv := hv.2 (fun q => cq ((zle Er19 (rfl : zi v5 = zi v5) Ir19 iv5).mpr q))
    refine ⟨fun cq => ?_, fun cq => ?_⟩
    · have hv := hv.1 ((zle (rfl : zi v2 = zi v2) (by decide : (0 : Int32) = zi 0) iv2 (by decide : ir 0)).mp cq)
      obtain ⟨g22, hv⟩ := hv
      intro xy23 exy23
      obtain ⟨y23, eyy23⟩ : ∃ q9 : Int, q9 = v4 + 1 := ⟨_, rfl⟩
      have hv := hv y23 eyy23
      have Ey23 : xy23 = zi y23 := exy23.trans (((za (rfl : zi v4 = zi v4) (by decide : (1 : Int32) = zi 1))).trans (congrArg zi eyy23.symm))
      have Iy23 : ir y23 := by rw [eyy23]; exact g22
      clear exy23
      exact hk30 _ _ _ _ _ _ _ _ hJ (rfl : zi v2 = zi v2) iv2 (rfl : zi v3 = zi v3) iv3 Ey23 Iy23 hv
    · have hv := hv.2 (fun q => cq ((zle (rfl : zi v2 = zi v2) (by decide : (0 : Int32) = zi 0) iv2 (by decide : ir 0)).mpr q))
      obtain ⟨g24, hv⟩ := hv
      refine vw_X12_isGone hJ (rfl : zi a1 = zi a1) ia1 (zs (rfl : zi v2 = zi v2) (by decide : (1 : Int32) = zi 1)) g24 (rfl : zi v5 = zi v5) iv5 (rfl : zi v4 = zi v4) iv4 (fun b25  hv => ?_) hv
      refine ⟨fun cq => ?_, fun cq => ?_⟩
      · have hv := hv.1 cq
        obtain ⟨g26, hv⟩ := hv
        intro xy27 exy27
        obtain ⟨y27, eyy27⟩ : ∃ q9 : Int, q9 = v5 + 1 := ⟨_, rfl⟩
        have hv := hv y27 eyy27
        have Ey27 : xy27 = zi y27 := exy27.trans (((za (rfl : zi v5 = zi v5) (by decide : (1 : Int32) = zi 1))).trans (congrArg zi eyy27.symm))
        have Iy27 : ir y27 := by rw [eyy27]; exact g26
        clear exy27
        exact hv _ _ _ _ hJ (rfl : zi v2 = zi v2) iv2 (rfl : zi v3 = zi v3) iv3 (rfl : zi v4 = zi v4) iv4 Ey27 Iy27
      · have hv := hv.2 cq
        obtain ⟨g28, hv⟩ := hv
        obtain ⟨g29, hv⟩ := hv
        obtain ⟨g30, hv⟩ := hv
        refine ⟨zvp (za (zm (by decide : (24 : Int32) = zi 24) (rfl : zi v2 = zi v2)) (rfl : zi v4 = zi v4)) g29 g30.1 g30.2, ?_⟩
        obtain ⟨g31, hv⟩ := hv
        obtain ⟨g32, hv⟩ := hv
        obtain ⟨g33, hv⟩ := hv
        obtain ⟨g34, hv⟩ := hv
        refine ⟨zvp (za (zm (by decide : (24 : Int32) = zi 24) (zs (rfl : zi v2 = zi v2) (by decide : (1 : Int32) = zi 1))) (rfl : zi v5 = zi v5)) g33 g34.1 g34.2, ?_⟩
        obtain ⟨g35, hv⟩ := hv
        refine ⟨zvp (za (zm (by decide : (24 : Int32) = zi 24) (rfl : zi v2 = zi v2)) (rfl : zi v4 = zi v4)) g29 g35.1 g35.2, ?_⟩
        intro L36 eL36
        have hv := hv L36 (eL36.trans (lup (za (zm (by decide : (24 : Int32) = zi 24) (rfl : zi v2 = zi v2)) (rfl : zi v4 = zi v4)) g29 g35.1 (congr (congrArg (fun p q : Int64 => p + q) (lrd (za (zm (by decide : (24 : Int32) = zi 24) (rfl : zi v2 = zi v2)) (rfl : zi v4 = zi v4)) g29 g30.1)) (lrd (za (zm (by decide : (24 : Int32) = zi 24) (zs (rfl : zi v2 = zi v2) (by decide : (1 : Int32) = zi 1))) (rfl : zi v5 = zi v5)) g33 g34.1))))
        obtain ⟨g37, hv⟩ := hv
        intro xy38 exy38
        obtain ⟨y38, eyy38⟩ : ∃ q9 : Int, q9 = v5 + 1 := ⟨_, rfl⟩
        have hv := hv y38 eyy38
        have Ey38 : xy38 = zi y38 := exy38.trans (((za (rfl : zi v5 = zi v5) (by decide : (1 : Int32) = zi 1))).trans (congrArg zi eyy38.symm))
        have Iy38 : ir y38 := by rw [eyy38]; exact g37
        clear exy38
        exact hv _ _ _ _ hJ (rfl : zi v2 = zi v2) iv2 (rfl : zi v3 = zi v3) iv3 (rfl : zi v4 = zi v4) iv4 Ey38 Iy38
def v_X12_tracks_85 (o : Nat) (a1 : Int) (post' : mJ → mL → Prop) (k30' : mJ → mL → Int → Int → Int → Prop) (J : mJ) (L : mL) (v2 : Int) (v3 : Int) (v4 : Int) (s1 : Int) (s2 : Int64) : Prop := (0 ≤ s1 ∧ s1 < 240) ∧ ∀ L18, L18 = up2 L (o + 21) s1.toNat s2 → (v_X12_tracks_89 o a1 post' k30') J L18 v2 v3 v4 0
theorem vw_X12_tracks_85 {o : Nat} {a1 : Int}  (ia1 : ir a1) {post : mI → mL → Prop} {post' : mJ → mL → Prop} {k30' : mJ → mL → Int → Int → Int → Prop} {k30 : mI → mL → Int32 → Int32 → Int32 → Prop} (hp : ∀ (J1 : mJ) (L1 : mL), irm J1 → post' J1 L1 → post (zz J1) L1) (hk30 : ∀ (J : mJ) (L : mL) (xv2 : Int32) (v2 : Int) (xv3 : Int32) (v3 : Int) (xv4 : Int32) (v4 : Int), irm J → xv2 = zi v2 → ir v2 → xv3 = zi v3 → ir v3 → xv4 = zi v4 → ir v4 → k30' J L v2 v3 v4 → k30 (zz J) L xv2 xv3 xv4) {J : mJ} {L : mL} {xv2 : Int32} {v2 : Int} {xv3 : Int32} {v3 : Int} {xv4 : Int32} {v4 : Int} {xs1 : Int32} {s1 : Int} {xs2 s2 : Int64} (hJ : irm J) (ev2 : xv2 = zi v2) (iv2 : ir v2) (ev3 : xv3 = zi v3) (iv3 : ir v3) (ev4 : xv4 = zi v4) (iv4 : ir v4) (es1 : xs1 = zi s1) (is1 : ir s1) (es2 : xs2 = s2) (hv : v_X12_tracks_85 o a1 post' k30' J L v2 v3 v4 s1 s2) : w_X12_tracks_85 o (zi a1) post k30 (zz J) L xv2 xv3 xv4 xs1 xs2 := by
  subst ev2
  subst ev3
  subst ev4
  subst es1
  have es2 := es2.symm; subst es2
  unfold v_X12_tracks_85 at hv
  unfold w_X12_tracks_85
  obtain ⟨g17, hv⟩ := hv
  refine ⟨zvp (rfl : zi s1 = zi s1) is1 g17.1 g17.2, ?_⟩
  intro L18 eL18
  have hv := hv L18 (eL18.trans (lup (rfl : zi s1 = zi s1) is1 g17.1 rfl))
  refine vw_X12_tracks_89 ia1 hp hk30 hJ (rfl : zi v2 = zi v2) iv2 (rfl : zi v3 = zi v3) iv3 (rfl : zi v4 = zi v4) iv4 (by decide : (0 : Int32) = zi 0) (by decide : ir 0) hv
def v_X12_tracks_30 (o : Nat) (a1 : Int) (post' : mJ → mL → Prop) (k7' : mJ → mL → Int → Prop) (J : mJ) (L : mL) (v2 : Int) (v3 : Int) (v4 : Int) : Prop := ∀ ZZ : (mJ → mL → Int → Int → Int → Prop), (∀ (J : mJ) (L : mL) (v2 : Int) (v3 : Int) (v4 : Int), (v_X12_of J o 0 (fun r6 => (r6 ≤ v4 → ir (v2 + 1) ∧ ∀ y8, y8 = v2 + 1 → k7' J L y8) ∧ (¬ r6 ≤ v4 → ir (24 * v2) ∧ ir ((24 * v2) + v4) ∧ (0 ≤ ((24 * v2) + v4) ∧ ((24 * v2) + v4) < 240) ∧ ∀ L12, L12 = up2 L (o + 21) (((24 * v2) + v4).toNat) (0 : Int64) → (¬ (andZ (shrZ v3 v4) 1) = 0 → ir (24 * v2) ∧ ir ((24 * v2) + v4) ∧ (¬ v2 = 0 → (v_X12_tracks_85 o a1 post' ZZ) J L12 v2 v3 v4 ((24 * v2) + v4) (0 : Int64)) ∧ (v2 = 0 → (v_X12_tracks_85 o a1 post' ZZ) J L12 v2 v3 v4 ((24 * v2) + v4) (1 : Int64))) ∧ ((andZ (shrZ v3 v4) 1) = 0 → ir (v4 + 1) ∧ ∀ y16, y16 = v4 + 1 → ZZ J L12 v2 v3 y16)))) → ZZ J L v2 v3 v4) → ZZ J L v2 v3 v4
theorem vw_X12_tracks_30 {o : Nat} {a1 : Int}  (ia1 : ir a1) {post : mI → mL → Prop} {post' : mJ → mL → Prop} {k7' : mJ → mL → Int → Prop} {k7 : mI → mL → Int32 → Prop} (hp : ∀ (J1 : mJ) (L1 : mL), irm J1 → post' J1 L1 → post (zz J1) L1) (hk7 : ∀ (J : mJ) (L : mL) (xv2 : Int32) (v2 : Int), irm J → xv2 = zi v2 → ir v2 → k7' J L v2 → k7 (zz J) L xv2) {J : mJ} {L : mL} {xv2 : Int32} {v2 : Int} {xv3 : Int32} {v3 : Int} {xv4 : Int32} {v4 : Int} (hJ : irm J) (ev2 : xv2 = zi v2) (iv2 : ir v2) (ev3 : xv3 = zi v3) (iv3 : ir v3) (ev4 : xv4 = zi v4) (iv4 : ir v4) (hv : v_X12_tracks_30 o a1 post' k7' J L v2 v3 v4) : w_X12_tracks_30 o (zi a1) post k7 (zz J) L xv2 xv3 xv4 := by
  subst ev2
  subst ev3
  subst ev4
  unfold v_X12_tracks_30 at hv
  unfold w_X12_tracks_30
  intro ZZ hZ
  refine hv (fun J L v2 v3 v4 => ∀ (xv2 : Int32) (xv3 : Int32) (xv4 : Int32), irm J → xv2 = zi v2 → ir v2 → xv3 = zi v3 → ir v3 → xv4 = zi v4 → ir v4 → ZZ (zz J) L xv2 xv3 xv4) ?_ _ _ _ hJ rfl iv2 rfl iv3 rfl iv4
  clear hv hJ iv2 iv3 iv4
  intro J L v2 v3 v4 hv xv2 xv3 xv4 hJ ev2 iv2 ev3 iv3 ev4 iv4
  subst ev2
  subst ev3
  subst ev4
  refine hZ _ _ _ _ _ ?_
  refine vw_X12_of hJ (by decide : (0 : Int32) = zi 0) (by decide : ir 0) (fun xr6 r6 Er6 Ir6 hv => ?_) hv
  refine ⟨fun cq => ?_, fun cq => ?_⟩
  · have hv := hv.1 ((zle Er6 (rfl : zi v4 = zi v4) Ir6 iv4).mp cq)
    obtain ⟨g7, hv⟩ := hv
    intro xy8 exy8
    obtain ⟨y8, eyy8⟩ : ∃ q9 : Int, q9 = v2 + 1 := ⟨_, rfl⟩
    have hv := hv y8 eyy8
    have Ey8 : xy8 = zi y8 := exy8.trans (((za (rfl : zi v2 = zi v2) (by decide : (1 : Int32) = zi 1))).trans (congrArg zi eyy8.symm))
    have Iy8 : ir y8 := by rw [eyy8]; exact g7
    clear exy8
    exact hk7 _ _ _ _ hJ Ey8 Iy8 hv
  · have hv := hv.2 (fun q => cq ((zle Er6 (rfl : zi v4 = zi v4) Ir6 iv4).mpr q))
    obtain ⟨g9, hv⟩ := hv
    obtain ⟨g10, hv⟩ := hv
    obtain ⟨g11, hv⟩ := hv
    refine ⟨zvp (za (zm (by decide : (24 : Int32) = zi 24) (rfl : zi v2 = zi v2)) (rfl : zi v4 = zi v4)) g10 g11.1 g11.2, ?_⟩
    intro L12 eL12
    have hv := hv L12 (eL12.trans (lup (za (zm (by decide : (24 : Int32) = zi 24) (rfl : zi v2 = zi v2)) (rfl : zi v4 = zi v4)) g10 g11.1 rfl))
    refine ⟨fun cq => ?_, fun cq => ?_⟩
    · have hv := hv.1 (fun q => cq ((zeq (z_and (z_shr (rfl : zi v3 = zi v3) (rfl : zi v4 = zi v4)) (by decide : (1 : Int32) = zi 1)) (by decide : (0 : Int32) = zi 0) (ir_toInt _) (by decide : ir 0)).mpr q))
      obtain ⟨g13, hv⟩ := hv
      obtain ⟨g14, hv⟩ := hv
      refine ⟨fun cq => ?_, fun cq => ?_⟩
      · have hv := hv.1 (fun q => cq ((zeq (rfl : zi v2 = zi v2) (by decide : (0 : Int32) = zi 0) iv2 (by decide : ir 0)).mpr q))
        refine vw_X12_tracks_85 ia1 hp ?_ hJ (rfl : zi v2 = zi v2) iv2 (rfl : zi v3 = zi v3) iv3 (rfl : zi v4 = zi v4) iv4 (za (zm (by decide : (24 : Int32) = zi 24) (rfl : zi v2 = zi v2)) (rfl : zi v4 = zi v4)) g14 rfl hv
        · intro qq qq xx vv xx vv xx vv hJ ev2 iv2 ev3 iv3 ev4 iv4 hv
          exact hv _ _ _ hJ ev2 iv2 ev3 iv3 ev4 iv4
      · have hv := hv.2 ((zeq (rfl : zi v2 = zi v2) (by decide : (0 : Int32) = zi 0) iv2 (by decide : ir 0)).mp cq)
        refine vw_X12_tracks_85 ia1 hp ?_ hJ (rfl : zi v2 = zi v2) iv2 (rfl : zi v3 = zi v3) iv3 (rfl : zi v4 = zi v4) iv4 (za (zm (by decide : (24 : Int32) = zi 24) (rfl : zi v2 = zi v2)) (rfl : zi v4 = zi v4)) g14 rfl hv
        · intro qq qq xx vv xx vv xx vv hJ ev2 iv2 ev3 iv3 ev4 iv4 hv
          exact hv _ _ _ hJ ev2 iv2 ev3 iv3 ev4 iv4
    · have hv := hv.2 ((zeq (z_and (z_shr (rfl : zi v3 = zi v3) (rfl : zi v4 = zi v4)) (by decide : (1 : Int32) = zi 1)) (by decide : (0 : Int32) = zi 0) (ir_toInt _) (by decide : ir 0)).mp cq)
      obtain ⟨g15, hv⟩ := hv
      intro xy16 exy16
      obtain ⟨y16, eyy16⟩ : ∃ q9 : Int, q9 = v4 + 1 := ⟨_, rfl⟩
      have hv := hv y16 eyy16
      have Ey16 : xy16 = zi y16 := exy16.trans (((za (rfl : zi v4 = zi v4) (by decide : (1 : Int32) = zi 1))).trans (congrArg zi eyy16.symm))
      have Iy16 : ir y16 := by rw [eyy16]; exact g15
      clear exy16
      exact hv _ _ _ hJ (rfl : zi v2 = zi v2) iv2 (rfl : zi v3 = zi v3) iv3 Ey16 Iy16
def v_X12_tracks_7 (o : Nat) (a1 : Int) (post' : mJ → mL → Prop) (k172' : mJ → mL → Int → Prop) (J : mJ) (L : mL) (v2 : Int) : Prop := ∀ ZZ : (mJ → mL → Int → Prop), (∀ (J : mJ) (L : mL) (v2 : Int), (((J o 45) ≤ v2 → ir ((J o 45) - 1) ∧ ∀ y3, y3 = ((J o 45) - 1) → k172' J L y3) ∧ (¬ (J o 45) ≤ v2 → (0 ≤ v2 ∧ v2 < 10) ∧ v_X12_madeOn J o a1 (J (o + 20) v2.toNat) (fun r5 => (v_X12_tracks_30 o a1 post' ZZ) J L v2 r5 0))) → ZZ J L v2) → ZZ J L v2
theorem vw_X12_tracks_7 {o : Nat} {a1 : Int}  (ia1 : ir a1) {post : mI → mL → Prop} {post' : mJ → mL → Prop} {k172' : mJ → mL → Int → Prop} {k172 : mI → mL → Int32 → Prop} (hp : ∀ (J1 : mJ) (L1 : mL), irm J1 → post' J1 L1 → post (zz J1) L1) (hk172 : ∀ (J : mJ) (L : mL) (xv2 : Int32) (v2 : Int), irm J → xv2 = zi v2 → ir v2 → k172' J L v2 → k172 (zz J) L xv2) {J : mJ} {L : mL} {xv2 : Int32} {v2 : Int} (hJ : irm J) (ev2 : xv2 = zi v2) (iv2 : ir v2) (hv : v_X12_tracks_7 o a1 post' k172' J L v2) : w_X12_tracks_7 o (zi a1) post k172 (zz J) L xv2 := by
  subst ev2
  unfold v_X12_tracks_7 at hv
  unfold w_X12_tracks_7
  intro ZZ hZ
  refine hv (fun J L v2 => ∀ (xv2 : Int32), irm J → xv2 = zi v2 → ir v2 → ZZ (zz J) L xv2) ?_ _ hJ rfl iv2
  clear hv hJ iv2
  intro J L v2 hv xv2 hJ ev2 iv2
  subst ev2
  refine hZ _ _ _ ?_
  refine ⟨fun cq => ?_, fun cq => ?_⟩
  · have hv := hv.1 ((zle zrf (rfl : zi v2 = zi v2) (hJ _ _) iv2).mp cq)
    obtain ⟨g2, hv⟩ := hv
    intro xy3 exy3
    obtain ⟨y3, eyy3⟩ : ∃ q9 : Int, q9 = ((J o 45) - 1) := ⟨_, rfl⟩
    have hv := hv y3 eyy3
    have Ey3 : xy3 = zi y3 := exy3.trans (((zs zrf (by decide : (1 : Int32) = zi 1))).trans (congrArg zi eyy3.symm))
    have Iy3 : ir y3 := by rw [eyy3]; exact g2
    clear exy3
    exact hk172 _ _ _ _ hJ Ey3 Iy3 hv
  · have hv := hv.2 (fun q => cq ((zle zrf (rfl : zi v2 = zi v2) (hJ _ _) iv2).mpr q))
    obtain ⟨g4, hv⟩ := hv
    refine ⟨zvp (rfl : zi v2 = zi v2) iv2 g4.1 g4.2, ?_⟩
    refine vw_X12_madeOn hJ (rfl : zi a1 = zi a1) ia1 (zrd (rfl : zi v2 = zi v2) iv2 g4.1) (hJ _ _) (fun xr5 r5 Er5 Ir5 hv => ?_) hv
    refine vw_X12_tracks_30 ia1 hp ?_ hJ (rfl : zi v2 = zi v2) iv2 Er5 Ir5 (by decide : (0 : Int32) = zi 0) (by decide : ir 0) hv
    · intro qq qq xx vv hJ ev2 iv2 hv
      exact hv _ hJ ev2 iv2
def v_X12_tracks_256 (o : Nat) (a1 : Int) (post' : mJ → mL → Prop) (k191' : mJ → mL → Int → Int → Int → Prop) (J : mJ) (L : mL) (v2 : Int) (v3 : Int) (v4 : Int) (v5 : Int) : Prop := ∀ ZZ : (mJ → mL → Int → Int → Int → Int → Prop), (∀ (J : mJ) (L : mL) (v2 : Int) (v3 : Int) (v4 : Int) (v5 : Int), (v_X12_of J o 0 (fun r55 => (r55 ≤ v5 → ir (v4 + 1) ∧ ∀ y57, y57 = v4 + 1 → k191' J L v2 v3 y57) ∧ (¬ r55 ≤ v5 → ir ((J o 45) - 1) ∧ (((J o 45) - 1) ≤ v2 → ir (v4 + 1) ∧ ∀ y60, y60 = v4 + 1 → k191' J L v2 v3 y60) ∧ (¬ ((J o 45) - 1) ≤ v2 → v_X12_isGone J o a1 v2 v4 v5 (fun b61 => (b61 = false → ir (v5 + 1) ∧ ∀ y63, y63 = v5 + 1 → ZZ J L v2 v3 v4 y63) ∧ (b61 = true → ir (24 * v2) ∧ ir ((24 * v2) + v4) ∧ (0 ≤ ((24 * v2) + v4) ∧ ((24 * v2) + v4) < 240) ∧ ir (v2 + 1) ∧ ir (24 * (v2 + 1)) ∧ ir ((24 * (v2 + 1)) + v5) ∧ (0 ≤ ((24 * (v2 + 1)) + v5) ∧ ((24 * (v2 + 1)) + v5) < 240) ∧ (0 ≤ ((24 * v2) + v4) ∧ ((24 * v2) + v4) < 240) ∧ ∀ L72, L72 = up2 L (o + 22) (((24 * v2) + v4).toNat) ((L (o + 22) ((24 * v2) + v4).toNat) + (L (o + 22) ((24 * (v2 + 1)) + v5).toNat)) → ir (v5 + 1) ∧ ∀ y74, y74 = v5 + 1 → ZZ J L72 v2 v3 v4 y74)))))) → ZZ J L v2 v3 v4 v5) → ZZ J L v2 v3 v4 v5
theorem vw_X12_tracks_256 {o : Nat} {a1 : Int}  (ia1 : ir a1) {post : mI → mL → Prop} {post' : mJ → mL → Prop} {k191' : mJ → mL → Int → Int → Int → Prop} {k191 : mI → mL → Int32 → Int32 → Int32 → Prop} (hp : ∀ (J1 : mJ) (L1 : mL), irm J1 → post' J1 L1 → post (zz J1) L1) (hk191 : ∀ (J : mJ) (L : mL) (xv2 : Int32) (v2 : Int) (xv3 : Int32) (v3 : Int) (xv4 : Int32) (v4 : Int), irm J → xv2 = zi v2 → ir v2 → xv3 = zi v3 → ir v3 → xv4 = zi v4 → ir v4 → k191' J L v2 v3 v4 → k191 (zz J) L xv2 xv3 xv4) {J : mJ} {L : mL} {xv2 : Int32} {v2 : Int} {xv3 : Int32} {v3 : Int} {xv4 : Int32} {v4 : Int} {xv5 : Int32} {v5 : Int} (hJ : irm J) (ev2 : xv2 = zi v2) (iv2 : ir v2) (ev3 : xv3 = zi v3) (iv3 : ir v3) (ev4 : xv4 = zi v4) (iv4 : ir v4) (ev5 : xv5 = zi v5) (iv5 : ir v5) (hv : v_X12_tracks_256 o a1 post' k191' J L v2 v3 v4 v5) : w_X12_tracks_256 o (zi a1) post k191 (zz J) L xv2 xv3 xv4 xv5 := by
  subst ev2
  subst ev3
  subst ev4
  subst ev5
  unfold v_X12_tracks_256 at hv
  unfold w_X12_tracks_256
  intro ZZ hZ
  refine hv (fun J L v2 v3 v4 v5 => ∀ (xv2 : Int32) (xv3 : Int32) (xv4 : Int32) (xv5 : Int32), irm J → xv2 = zi v2 → ir v2 → xv3 = zi v3 → ir v3 → xv4 = zi v4 → ir v4 → xv5 = zi v5 → ir v5 → ZZ (zz J) L xv2 xv3 xv4 xv5) ?_ _ _ _ _ hJ rfl iv2 rfl iv3 rfl iv4 rfl iv5
  clear hv hJ iv2 iv3 iv4 iv5
  intro J L v2 v3 v4 v5 hv xv2 xv3 xv4 xv5 hJ ev2 iv2 ev3 iv3 ev4 iv4 ev5 iv5
  subst ev2
  subst ev3
  subst ev4
  subst ev5
  refine hZ _ _ _ _ _ _ ?_
  refine vw_X12_of hJ (by decide : (0 : Int32) = zi 0) (by decide : ir 0) (fun xr55 r55 Er55 Ir55 hv => ?_) hv
  refine ⟨fun cq => ?_, fun cq => ?_⟩
  · have hv := hv.1 ((zle Er55 (rfl : zi v5 = zi v5) Ir55 iv5).mp cq)
    obtain ⟨g56, hv⟩ := hv
    intro xy57 exy57
    obtain ⟨y57, eyy57⟩ : ∃ q9 : Int, q9 = v4 + 1 := ⟨_, rfl⟩
    have hv := hv y57 eyy57
    have Ey57 : xy57 = zi y57 := exy57.trans (((za (rfl : zi v4 = zi v4) (by decide : (1 : Int32) = zi 1))).trans (congrArg zi eyy57.symm))
    have Iy57 : ir y57 := by rw [eyy57]; exact g56
    clear exy57
    exact hk191 _ _ _ _ _ _ _ _ hJ (rfl : zi v2 = zi v2) iv2 (rfl : zi v3 = zi v3) iv3 Ey57 Iy57 hv
  · have hv := hv.2 (fun q => cq ((zle Er55 (rfl : zi v5 = zi v5) Ir55 iv5).mpr q))
    obtain ⟨g58, hv⟩ := hv
    refine ⟨fun cq => ?_, fun cq => ?_⟩
    · have hv := hv.1 ((zle (zs zrf (by decide : (1 : Int32) = zi 1)) (rfl : zi v2 = zi v2) g58 iv2).mp cq)
      obtain ⟨g59, hv⟩ := hv
      intro xy60 exy60
      obtain ⟨y60, eyy60⟩ : ∃ q9 : Int, q9 = v4 + 1 := ⟨_, rfl⟩
      have hv := hv y60 eyy60
      have Ey60 : xy60 = zi y60 := exy60.trans (((za (rfl : zi v4 = zi v4) (by decide : (1 : Int32) = zi 1))).trans (congrArg zi eyy60.symm))
      have Iy60 : ir y60 := by rw [eyy60]; exact g59
      clear exy60
      exact hk191 _ _ _ _ _ _ _ _ hJ (rfl : zi v2 = zi v2) iv2 (rfl : zi v3 = zi v3) iv3 Ey60 Iy60 hv
    · have hv := hv.2 (fun q => cq ((zle (zs zrf (by decide : (1 : Int32) = zi 1)) (rfl : zi v2 = zi v2) g58 iv2).mpr q))
      refine vw_X12_isGone hJ (rfl : zi a1 = zi a1) ia1 (rfl : zi v2 = zi v2) iv2 (rfl : zi v4 = zi v4) iv4 (rfl : zi v5 = zi v5) iv5 (fun b61  hv => ?_) hv
      refine ⟨fun cq => ?_, fun cq => ?_⟩
      · have hv := hv.1 cq
        obtain ⟨g62, hv⟩ := hv
        intro xy63 exy63
        obtain ⟨y63, eyy63⟩ : ∃ q9 : Int, q9 = v5 + 1 := ⟨_, rfl⟩
        have hv := hv y63 eyy63
        have Ey63 : xy63 = zi y63 := exy63.trans (((za (rfl : zi v5 = zi v5) (by decide : (1 : Int32) = zi 1))).trans (congrArg zi eyy63.symm))
        have Iy63 : ir y63 := by rw [eyy63]; exact g62
        clear exy63
        exact hv _ _ _ _ hJ (rfl : zi v2 = zi v2) iv2 (rfl : zi v3 = zi v3) iv3 (rfl : zi v4 = zi v4) iv4 Ey63 Iy63
      · have hv := hv.2 cq
        obtain ⟨g64, hv⟩ := hv
        obtain ⟨g65, hv⟩ := hv
        obtain ⟨g66, hv⟩ := hv
        refine ⟨zvp (za (zm (by decide : (24 : Int32) = zi 24) (rfl : zi v2 = zi v2)) (rfl : zi v4 = zi v4)) g65 g66.1 g66.2, ?_⟩
        obtain ⟨g67, hv⟩ := hv
        obtain ⟨g68, hv⟩ := hv
        obtain ⟨g69, hv⟩ := hv
        obtain ⟨g70, hv⟩ := hv
        refine ⟨zvp (za (zm (by decide : (24 : Int32) = zi 24) (za (rfl : zi v2 = zi v2) (by decide : (1 : Int32) = zi 1))) (rfl : zi v5 = zi v5)) g69 g70.1 g70.2, ?_⟩
        obtain ⟨g71, hv⟩ := hv
        refine ⟨zvp (za (zm (by decide : (24 : Int32) = zi 24) (rfl : zi v2 = zi v2)) (rfl : zi v4 = zi v4)) g65 g71.1 g71.2, ?_⟩
        intro L72 eL72
        have hv := hv L72 (eL72.trans (lup (za (zm (by decide : (24 : Int32) = zi 24) (rfl : zi v2 = zi v2)) (rfl : zi v4 = zi v4)) g65 g71.1 (congr (congrArg (fun p q : Int64 => p + q) (lrd (za (zm (by decide : (24 : Int32) = zi 24) (rfl : zi v2 = zi v2)) (rfl : zi v4 = zi v4)) g65 g66.1)) (lrd (za (zm (by decide : (24 : Int32) = zi 24) (za (rfl : zi v2 = zi v2) (by decide : (1 : Int32) = zi 1))) (rfl : zi v5 = zi v5)) g69 g70.1))))
        obtain ⟨g73, hv⟩ := hv
        intro xy74 exy74
        obtain ⟨y74, eyy74⟩ : ∃ q9 : Int, q9 = v5 + 1 := ⟨_, rfl⟩
        have hv := hv y74 eyy74
        have Ey74 : xy74 = zi y74 := exy74.trans (((za (rfl : zi v5 = zi v5) (by decide : (1 : Int32) = zi 1))).trans (congrArg zi eyy74.symm))
        have Iy74 : ir y74 := by rw [eyy74]; exact g73
        clear exy74
        exact hv _ _ _ _ hJ (rfl : zi v2 = zi v2) iv2 (rfl : zi v3 = zi v3) iv3 (rfl : zi v4 = zi v4) iv4 Ey74 Iy74
def v_X12_tracks_252 (o : Nat) (a1 : Int) (post' : mJ → mL → Prop) (k191' : mJ → mL → Int → Int → Int → Prop) (J : mJ) (L : mL) (v2 : Int) (v3 : Int) (v4 : Int) (s1 : Int) (s2 : Int64) : Prop := (0 ≤ s1 ∧ s1 < 240) ∧ ∀ L54, L54 = up2 L (o + 22) s1.toNat s2 → (v_X12_tracks_256 o a1 post' k191') J L54 v2 v3 v4 0
theorem vw_X12_tracks_252 {o : Nat} {a1 : Int}  (ia1 : ir a1) {post : mI → mL → Prop} {post' : mJ → mL → Prop} {k191' : mJ → mL → Int → Int → Int → Prop} {k191 : mI → mL → Int32 → Int32 → Int32 → Prop} (hp : ∀ (J1 : mJ) (L1 : mL), irm J1 → post' J1 L1 → post (zz J1) L1) (hk191 : ∀ (J : mJ) (L : mL) (xv2 : Int32) (v2 : Int) (xv3 : Int32) (v3 : Int) (xv4 : Int32) (v4 : Int), irm J → xv2 = zi v2 → ir v2 → xv3 = zi v3 → ir v3 → xv4 = zi v4 → ir v4 → k191' J L v2 v3 v4 → k191 (zz J) L xv2 xv3 xv4) {J : mJ} {L : mL} {xv2 : Int32} {v2 : Int} {xv3 : Int32} {v3 : Int} {xv4 : Int32} {v4 : Int} {xs1 : Int32} {s1 : Int} {xs2 s2 : Int64} (hJ : irm J) (ev2 : xv2 = zi v2) (iv2 : ir v2) (ev3 : xv3 = zi v3) (iv3 : ir v3) (ev4 : xv4 = zi v4) (iv4 : ir v4) (es1 : xs1 = zi s1) (is1 : ir s1) (es2 : xs2 = s2) (hv : v_X12_tracks_252 o a1 post' k191' J L v2 v3 v4 s1 s2) : w_X12_tracks_252 o (zi a1) post k191 (zz J) L xv2 xv3 xv4 xs1 xs2 := by
  subst ev2
  subst ev3
  subst ev4
  subst es1
  have es2 := es2.symm; subst es2
  unfold v_X12_tracks_252 at hv
  unfold w_X12_tracks_252
  obtain ⟨g53, hv⟩ := hv
  refine ⟨zvp (rfl : zi s1 = zi s1) is1 g53.1 g53.2, ?_⟩
  intro L54 eL54
  have hv := hv L54 (eL54.trans (lup (rfl : zi s1 = zi s1) is1 g53.1 rfl))
  refine vw_X12_tracks_256 ia1 hp hk191 hJ (rfl : zi v2 = zi v2) iv2 (rfl : zi v3 = zi v3) iv3 (rfl : zi v4 = zi v4) iv4 (by decide : (0 : Int32) = zi 0) (by decide : ir 0) hv
def v_X12_tracks_191 (o : Nat) (a1 : Int) (post' : mJ → mL → Prop) (k172' : mJ → mL → Int → Prop) (J : mJ) (L : mL) (v2 : Int) (v3 : Int) (v4 : Int) : Prop := ∀ ZZ : (mJ → mL → Int → Int → Int → Prop), (∀ (J : mJ) (L : mL) (v2 : Int) (v3 : Int) (v4 : Int), (v_X12_of J o 0 (fun r41 => (r41 ≤ v4 → ir (v2 + (-1)) ∧ ∀ y43, y43 = v2 + (-1) → k172' J L y43) ∧ (¬ r41 ≤ v4 → ir (24 * v2) ∧ ir ((24 * v2) + v4) ∧ (0 ≤ ((24 * v2) + v4) ∧ ((24 * v2) + v4) < 240) ∧ ∀ L47, L47 = up2 L (o + 22) (((24 * v2) + v4).toNat) (0 : Int64) → (¬ (andZ (shrZ v3 v4) 1) = 0 → ir (24 * v2) ∧ ir ((24 * v2) + v4) ∧ ir ((J o 45) - 1) ∧ (¬ v2 = ((J o 45) - 1) → (v_X12_tracks_252 o a1 post' ZZ) J L47 v2 v3 v4 ((24 * v2) + v4) (0 : Int64)) ∧ (v2 = ((J o 45) - 1) → (v_X12_tracks_252 o a1 post' ZZ) J L47 v2 v3 v4 ((24 * v2) + v4) (1 : Int64))) ∧ ((andZ (shrZ v3 v4) 1) = 0 → ir (v4 + 1) ∧ ∀ y52, y52 = v4 + 1 → ZZ J L47 v2 v3 y52)))) → ZZ J L v2 v3 v4) → ZZ J L v2 v3 v4
theorem vw_X12_tracks_191 {o : Nat} {a1 : Int}  (ia1 : ir a1) {post : mI → mL → Prop} {post' : mJ → mL → Prop} {k172' : mJ → mL → Int → Prop} {k172 : mI → mL → Int32 → Prop} (hp : ∀ (J1 : mJ) (L1 : mL), irm J1 → post' J1 L1 → post (zz J1) L1) (hk172 : ∀ (J : mJ) (L : mL) (xv2 : Int32) (v2 : Int), irm J → xv2 = zi v2 → ir v2 → k172' J L v2 → k172 (zz J) L xv2) {J : mJ} {L : mL} {xv2 : Int32} {v2 : Int} {xv3 : Int32} {v3 : Int} {xv4 : Int32} {v4 : Int} (hJ : irm J) (ev2 : xv2 = zi v2) (iv2 : ir v2) (ev3 : xv3 = zi v3) (iv3 : ir v3) (ev4 : xv4 = zi v4) (iv4 : ir v4) (hv : v_X12_tracks_191 o a1 post' k172' J L v2 v3 v4) : w_X12_tracks_191 o (zi a1) post k172 (zz J) L xv2 xv3 xv4 := by
  subst ev2
  subst ev3
  subst ev4
  unfold v_X12_tracks_191 at hv
  unfold w_X12_tracks_191
  intro ZZ hZ
  refine hv (fun J L v2 v3 v4 => ∀ (xv2 : Int32) (xv3 : Int32) (xv4 : Int32), irm J → xv2 = zi v2 → ir v2 → xv3 = zi v3 → ir v3 → xv4 = zi v4 → ir v4 → ZZ (zz J) L xv2 xv3 xv4) ?_ _ _ _ hJ rfl iv2 rfl iv3 rfl iv4
  clear hv hJ iv2 iv3 iv4
  intro J L v2 v3 v4 hv xv2 xv3 xv4 hJ ev2 iv2 ev3 iv3 ev4 iv4
  subst ev2
  subst ev3
  subst ev4
  refine hZ _ _ _ _ _ ?_
  refine vw_X12_of hJ (by decide : (0 : Int32) = zi 0) (by decide : ir 0) (fun xr41 r41 Er41 Ir41 hv => ?_) hv
  refine ⟨fun cq => ?_, fun cq => ?_⟩
  · have hv := hv.1 ((zle Er41 (rfl : zi v4 = zi v4) Ir41 iv4).mp cq)
    obtain ⟨g42, hv⟩ := hv
    intro xy43 exy43
    obtain ⟨y43, eyy43⟩ : ∃ q9 : Int, q9 = v2 + (-1) := ⟨_, rfl⟩
    have hv := hv y43 eyy43
    have Ey43 : xy43 = zi y43 := exy43.trans (((za (rfl : zi v2 = zi v2) (by decide : ((-1) : Int32) = zi (-1)))).trans (congrArg zi eyy43.symm))
    have Iy43 : ir y43 := by rw [eyy43]; exact g42
    clear exy43
    exact hk172 _ _ _ _ hJ Ey43 Iy43 hv
  · have hv := hv.2 (fun q => cq ((zle Er41 (rfl : zi v4 = zi v4) Ir41 iv4).mpr q))
    obtain ⟨g44, hv⟩ := hv
    obtain ⟨g45, hv⟩ := hv
    obtain ⟨g46, hv⟩ := hv
    refine ⟨zvp (za (zm (by decide : (24 : Int32) = zi 24) (rfl : zi v2 = zi v2)) (rfl : zi v4 = zi v4)) g45 g46.1 g46.2, ?_⟩
    intro L47 eL47
    have hv := hv L47 (eL47.trans (lup (za (zm (by decide : (24 : Int32) = zi 24) (rfl : zi v2 = zi v2)) (rfl : zi v4 = zi v4)) g45 g46.1 rfl))
    refine ⟨fun cq => ?_, fun cq => ?_⟩
    · have hv := hv.1 (fun q => cq ((zeq (z_and (z_shr (rfl : zi v3 = zi v3) (rfl : zi v4 = zi v4)) (by decide : (1 : Int32) = zi 1)) (by decide : (0 : Int32) = zi 0) (ir_toInt _) (by decide : ir 0)).mpr q))
      obtain ⟨g48, hv⟩ := hv
      obtain ⟨g49, hv⟩ := hv
      obtain ⟨g50, hv⟩ := hv
      refine ⟨fun cq => ?_, fun cq => ?_⟩
      · have hv := hv.1 (fun q => cq ((zeq (rfl : zi v2 = zi v2) (zs zrf (by decide : (1 : Int32) = zi 1)) iv2 g50).mpr q))
        refine vw_X12_tracks_252 ia1 hp ?_ hJ (rfl : zi v2 = zi v2) iv2 (rfl : zi v3 = zi v3) iv3 (rfl : zi v4 = zi v4) iv4 (za (zm (by decide : (24 : Int32) = zi 24) (rfl : zi v2 = zi v2)) (rfl : zi v4 = zi v4)) g49 rfl hv
        · intro qq qq xx vv xx vv xx vv hJ ev2 iv2 ev3 iv3 ev4 iv4 hv
          exact hv _ _ _ hJ ev2 iv2 ev3 iv3 ev4 iv4
      · have hv := hv.2 ((zeq (rfl : zi v2 = zi v2) (zs zrf (by decide : (1 : Int32) = zi 1)) iv2 g50).mp cq)
        refine vw_X12_tracks_252 ia1 hp ?_ hJ (rfl : zi v2 = zi v2) iv2 (rfl : zi v3 = zi v3) iv3 (rfl : zi v4 = zi v4) iv4 (za (zm (by decide : (24 : Int32) = zi 24) (rfl : zi v2 = zi v2)) (rfl : zi v4 = zi v4)) g49 rfl hv
        · intro qq qq xx vv xx vv xx vv hJ ev2 iv2 ev3 iv3 ev4 iv4 hv
          exact hv _ _ _ hJ ev2 iv2 ev3 iv3 ev4 iv4
    · have hv := hv.2 ((zeq (z_and (z_shr (rfl : zi v3 = zi v3) (rfl : zi v4 = zi v4)) (by decide : (1 : Int32) = zi 1)) (by decide : (0 : Int32) = zi 0) (ir_toInt _) (by decide : ir 0)).mp cq)
      obtain ⟨g51, hv⟩ := hv
      intro xy52 exy52
      obtain ⟨y52, eyy52⟩ : ∃ q9 : Int, q9 = v4 + 1 := ⟨_, rfl⟩
      have hv := hv y52 eyy52
      have Ey52 : xy52 = zi y52 := exy52.trans (((za (rfl : zi v4 = zi v4) (by decide : (1 : Int32) = zi 1))).trans (congrArg zi eyy52.symm))
      have Iy52 : ir y52 := by rw [eyy52]; exact g51
      clear exy52
      exact hv _ _ _ hJ (rfl : zi v2 = zi v2) iv2 (rfl : zi v3 = zi v3) iv3 Ey52 Iy52
def v_X12_tracks_172 (o : Nat) (a1 : Int) (post' : mJ → mL → Prop) (J : mJ) (L : mL) (v2 : Int) : Prop := ∀ ZZ : (mJ → mL → Int → Prop), (∀ (J : mJ) (L : mL) (v2 : Int), ((v2 < 0 → post' J L) ∧ (¬ v2 < 0 → (0 ≤ v2 ∧ v2 < 10) ∧ v_X12_madeOn J o a1 (J (o + 20) v2.toNat) (fun r40 => (v_X12_tracks_191 o a1 post' ZZ) J L v2 r40 0))) → ZZ J L v2) → ZZ J L v2
theorem vw_X12_tracks_172 {o : Nat} {a1 : Int}  (ia1 : ir a1) {post : mI → mL → Prop} {post' : mJ → mL → Prop} (hp : ∀ (J1 : mJ) (L1 : mL), irm J1 → post' J1 L1 → post (zz J1) L1) {J : mJ} {L : mL} {xv2 : Int32} {v2 : Int} (hJ : irm J) (ev2 : xv2 = zi v2) (iv2 : ir v2) (hv : v_X12_tracks_172 o a1 post' J L v2) : w_X12_tracks_172 o (zi a1) post (zz J) L xv2 := by
  subst ev2
  unfold v_X12_tracks_172 at hv
  unfold w_X12_tracks_172
  intro ZZ hZ
  refine hv (fun J L v2 => ∀ (xv2 : Int32), irm J → xv2 = zi v2 → ir v2 → ZZ (zz J) L xv2) ?_ _ hJ rfl iv2
  clear hv hJ iv2
  intro J L v2 hv xv2 hJ ev2 iv2
  subst ev2
  refine hZ _ _ _ ?_
  refine ⟨fun cq => ?_, fun cq => ?_⟩
  · have hv := hv.1 ((zlt (rfl : zi v2 = zi v2) (by decide : (0 : Int32) = zi 0) iv2 (by decide : ir 0)).mp cq)
    exact hp _ _ hJ hv
  · have hv := hv.2 (fun q => cq ((zlt (rfl : zi v2 = zi v2) (by decide : (0 : Int32) = zi 0) iv2 (by decide : ir 0)).mpr q))
    obtain ⟨g39, hv⟩ := hv
    refine ⟨zvp (rfl : zi v2 = zi v2) iv2 g39.1 g39.2, ?_⟩
    refine vw_X12_madeOn hJ (rfl : zi a1 = zi a1) ia1 (zrd (rfl : zi v2 = zi v2) iv2 g39.1) (hJ _ _) (fun xr40 r40 Er40 Ir40 hv => ?_) hv
    refine vw_X12_tracks_191 ia1 hp ?_ hJ (rfl : zi v2 = zi v2) iv2 Er40 Ir40 (by decide : (0 : Int32) = zi 0) (by decide : ir 0) hv
    · intro qq qq xx vv hJ ev2 iv2 hv
      exact hv _ hJ ev2 iv2
def v_X12_tracks (J : mJ) (L : mL) (o : Nat) (a1 : Int) (post' : mJ → mL → Prop) : Prop := v_X12_sorts J o a1 (fun J1 => (v_X12_tracks_7 o a1 post' (v_X12_tracks_172 o a1 post')) J1 L 0)
theorem vw_X12_tracks {J : mJ} {L : mL} {o : Nat} {xa1 : Int32} {a1 : Int} (hJ : irm J)    (ea1 : xa1 = zi a1) (ia1 : ir a1) {post : mI → mL → Prop} {post' : mJ → mL → Prop} (hp : ∀ (J1 : mJ) (L1 : mL), irm J1 → post' J1 L1 → post (zz J1) L1) (hv : v_X12_tracks J L o a1 post') : w_X12_tracks (zz J) L o xa1 post := by
  subst ea1
  unfold v_X12_tracks at hv
  unfold w_X12_tracks
  refine vw_X12_sorts hJ (rfl : zi a1 = zi a1) ia1 (fun J1 hJ hv => ?_) hv
  refine vw_X12_tracks_7 ia1 hp ?_ hJ (by decide : (0 : Int32) = zi 0) (by decide : ir 0) hv
  · intro qq qq xx vv hJ ev2 iv2 hv
    exact vw_X12_tracks_172 ia1 hp hJ ev2 iv2 hv
def v_X12_track_41 (o : Nat) (a1 : Int) (a2 : Int) (a3 : Int) (post' : Int64 → mJ → mL → Prop) (J : mJ) (L : mL) (v4 : Int64) (v6 : Int) : Prop := ∀ ZZ : (mJ → mL → Int64 → Int → Prop), (∀ (J : mJ) (L : mL) (v4 : Int64) (v6 : Int), (v_X12_of J o 0 (fun r7 => (r7 ≤ v6 → post' v4 J L) ∧ (¬ r7 ≤ v6 → (0 ≤ v6 ∧ v6 < 240) ∧ ∀ y9, y9 = (v4 + (L (o + 22) v6.toNat)) → ir (v6 + 1) ∧ ∀ y11, y11 = v6 + 1 → ZZ J L y9 y11))) → ZZ J L v4 v6) → ZZ J L v4 v6
theorem vw_X12_track_41 {o : Nat} {a1 : Int} {a2 : Int} {a3 : Int}  (ia1 : ir a1) (ia2 : ir a2) (ia3 : ir a3) {post : Int64 → mI → mL → Prop} {post' : Int64 → mJ → mL → Prop} (hp : ∀ (x r : Int64) (J1 : mJ) (L1 : mL), x = r → irm J1 → post' r J1 L1 → post x (zz J1) L1) {J : mJ} {L : mL} {xv4 v4 : Int64} {xv6 : Int32} {v6 : Int} (hJ : irm J) (ev4 : xv4 = v4) (ev6 : xv6 = zi v6) (iv6 : ir v6) (hv : v_X12_track_41 o a1 a2 a3 post' J L v4 v6) : w_X12_track_41 o (zi a1) (zi a2) (zi a3) post (zz J) L xv4 xv6 := by
  have ev4 := ev4.symm; subst ev4
  subst ev6
  unfold v_X12_track_41 at hv
  unfold w_X12_track_41
  intro ZZ hZ
  refine hv (fun J L v4 v6 => ∀ (xv4 : Int64) (xv6 : Int32), irm J → xv4 = v4 → xv6 = zi v6 → ir v6 → ZZ (zz J) L xv4 xv6) ?_ _ _ hJ rfl rfl iv6
  clear hv hJ iv6
  intro J L v4 v6 hv xv4 xv6 hJ ev4 ev6 iv6
  have ev4 := ev4.symm; subst ev4
  subst ev6
  refine hZ _ _ _ _ ?_
  refine vw_X12_of hJ (by decide : (0 : Int32) = zi 0) (by decide : ir 0) (fun xr7 r7 Er7 Ir7 hv => ?_) hv
  refine ⟨fun cq => ?_, fun cq => ?_⟩
  · have hv := hv.1 ((zle Er7 (rfl : zi v6 = zi v6) Ir7 iv6).mp cq)
    exact hp _ _ _ _ rfl hJ hv
  · have hv := hv.2 (fun q => cq ((zle Er7 (rfl : zi v6 = zi v6) Ir7 iv6).mpr q))
    obtain ⟨g8, hv⟩ := hv
    refine ⟨zvp (rfl : zi v6 = zi v6) iv6 g8.1 g8.2, ?_⟩
    intro xy9 exy9
    obtain ⟨y9, eyy9⟩ : ∃ q9 : Int64, q9 = (v4 + (L (o + 22) v6.toNat)) := ⟨_, rfl⟩
    have hv := hv y9 eyy9
    have Ey9 : xy9 = y9 := exy9.trans (((congr (congrArg (fun p q : Int64 => p + q) rfl) (lrd (rfl : zi v6 = zi v6) iv6 g8.1))).trans eyy9.symm)
    obtain ⟨g10, hv⟩ := hv
    intro xy11 exy11
    obtain ⟨y11, eyy11⟩ : ∃ q9 : Int, q9 = v6 + 1 := ⟨_, rfl⟩
    have hv := hv y11 eyy11
    have Ey11 : xy11 = zi y11 := exy11.trans (((za (rfl : zi v6 = zi v6) (by decide : (1 : Int32) = zi 1))).trans (congrArg zi eyy11.symm))
    have Iy11 : ir y11 := by rw [eyy11]; exact g10
    clear exy11
    exact hv _ _ hJ Ey9 Ey11 Iy11
def v_X12_track (J : mJ) (L : mL) (o : Nat) (a1 : Int) (a2 : Int) (a3 : Int) (post' : Int64 → mJ → mL → Prop) : Prop := v_X12_areRead J o a1 a2 (fun b1 J2 => (b1 = false → post' (-1 : Int64) J2 L) ∧ (b1 = true → v_X12_isPerson J2 o a3 (fun b3 => (b3 = true → v_X12_tracks J2 L o a3 (fun J4 L5 => (¬ (J4 o 45) = 0 → ∀ y6, y6 = (0 : Int64) → (v_X12_track_41 o a1 a2 a3 post') J4 L5 y6 0) ∧ ((J4 o 45) = 0 → post' (1 : Int64) J4 L5))) ∧ (b3 = false → post' (-1 : Int64) J2 L))))
theorem vw_X12_track {J : mJ} {L : mL} {o : Nat} {xa1 : Int32} {a1 : Int} {xa2 : Int32} {a2 : Int} {xa3 : Int32} {a3 : Int} (hJ : irm J)    (ea1 : xa1 = zi a1) (ia1 : ir a1) (ea2 : xa2 = zi a2) (ia2 : ir a2) (ea3 : xa3 = zi a3) (ia3 : ir a3) {post : Int64 → mI → mL → Prop} {post' : Int64 → mJ → mL → Prop} (hp : ∀ (x r : Int64) (J1 : mJ) (L1 : mL), x = r → irm J1 → post' r J1 L1 → post x (zz J1) L1) (hv : v_X12_track J L o a1 a2 a3 post') : w_X12_track (zz J) L o xa1 xa2 xa3 post := by
  subst ea1
  subst ea2
  subst ea3
  unfold v_X12_track at hv
  unfold w_X12_track
  refine vw_X12_areRead hJ (rfl : zi a1 = zi a1) ia1 (rfl : zi a2 = zi a2) ia2 (fun b1 J2 hJ hv => ?_) hv
  refine ⟨fun cq => ?_, fun cq => ?_⟩
  · have hv := hv.1 cq
    exact hp _ _ _ _ rfl hJ hv
  · have hv := hv.2 cq
    refine vw_X12_isPerson hJ (rfl : zi a3 = zi a3) ia3 (fun b3  hv => ?_) hv
    refine ⟨fun cq => ?_, fun cq => ?_⟩
    · have hv := hv.1 cq
      refine vw_X12_tracks hJ (rfl : zi a3 = zi a3) ia3 (fun J4 L5 hJ hv => ?_) hv
      refine ⟨fun cq => ?_, fun cq => ?_⟩
      · have hv := hv.1 (fun q => cq ((zeq zrf (by decide : (0 : Int32) = zi 0) (hJ _ _) (by decide : ir 0)).mpr q))
        intro xy6 exy6
        obtain ⟨y6, eyy6⟩ : ∃ q9 : Int64, q9 = (0 : Int64) := ⟨_, rfl⟩
        have hv := hv y6 eyy6
        have Ey6 : xy6 = y6 := exy6.trans ((rfl).trans eyy6.symm)
        exact vw_X12_track_41 ia1 ia2 ia3 hp hJ Ey6 (by decide : (0 : Int32) = zi 0) (by decide : ir 0) hv
      · have hv := hv.2 ((zeq zrf (by decide : (0 : Int32) = zi 0) (hJ _ _) (by decide : ir 0)).mp cq)
        exact hp _ _ _ _ rfl hJ hv
    · have hv := hv.2 cq
      exact hp _ _ _ _ rfl hJ hv
def v_X12_spotsOf_4 (J : mJ) (L : mL) (o : Nat) (a1 : Int) (post' : Int → Prop) (v2 : Int) (v3 : Int) : Prop := ∀ ZZ : (Int → Int → Prop), (∀ (v2 : Int) (v3 : Int), (v_X12_of J o 0 (fun r1 => (r1 ≤ v3 → post' v2) ∧ (¬ r1 ≤ v3 → ir (24 * a1) ∧ ir ((24 * a1) + v3) ∧ (0 ≤ ((24 * a1) + v3) ∧ ((24 * a1) + v3) < 240) ∧ (((lg_cmp (L (o + 21) ((24 * a1) + v3).toNat) (0 : Int64)).toInt) ≤ 0 → ∀ y5, y5 = (orZ v2 0) → ir (v3 + 1) ∧ ∀ y7, y7 = v3 + 1 → ZZ y5 y7) ∧ (¬ ((lg_cmp (L (o + 21) ((24 * a1) + v3).toNat) (0 : Int64)).toInt) ≤ 0 → ir (24 * a1) ∧ ir ((24 * a1) + v3) ∧ (0 ≤ ((24 * a1) + v3) ∧ ((24 * a1) + v3) < 240) ∧ (((lg_cmp (L (o + 22) ((24 * a1) + v3).toNat) (0 : Int64)).toInt) ≤ 0 → ∀ y11, y11 = (orZ v2 0) → ir (v3 + 1) ∧ ∀ y13, y13 = v3 + 1 → ZZ y11 y13) ∧ (¬ ((lg_cmp (L (o + 22) ((24 * a1) + v3).toNat) (0 : Int64)).toInt) ≤ 0 → ∀ y14, y14 = (orZ v2 (shlZ 1 v3)) → ir (v3 + 1) ∧ ∀ y16, y16 = v3 + 1 → ZZ y14 y16))))) → ZZ v2 v3) → ZZ v2 v3
theorem vw_X12_spotsOf_4 {J : mJ} {L : mL} {o : Nat} {a1 : Int} (hJ : irm J) (ia1 : ir a1) {post : Int32 → Prop} {post' : Int → Prop} (hp : ∀ (x : Int32) (r : Int), x = zi r → ir r → post' r → post x) {xv2 : Int32} {v2 : Int} {xv3 : Int32} {v3 : Int} (ev2 : xv2 = zi v2) (iv2 : ir v2) (ev3 : xv3 = zi v3) (iv3 : ir v3) (hv : v_X12_spotsOf_4 J L o a1 post' v2 v3) : w_X12_spotsOf_4 (zz J) L o (zi a1) post xv2 xv3 := by
  subst ev2
  subst ev3
  unfold v_X12_spotsOf_4 at hv
  unfold w_X12_spotsOf_4
  intro ZZ hZ
  refine hv (fun v2 v3 => ∀ (xv2 : Int32) (xv3 : Int32), xv2 = zi v2 → ir v2 → xv3 = zi v3 → ir v3 → ZZ xv2 xv3) ?_ _ _ rfl iv2 rfl iv3
  clear hv iv2 iv3
  intro v2 v3 hv xv2 xv3 ev2 iv2 ev3 iv3
  subst ev2
  subst ev3
  refine hZ _ _ ?_
  refine vw_X12_of hJ (by decide : (0 : Int32) = zi 0) (by decide : ir 0) (fun xr1 r1 Er1 Ir1 hv => ?_) hv
  refine ⟨fun cq => ?_, fun cq => ?_⟩
  · have hv := hv.1 ((zle Er1 (rfl : zi v3 = zi v3) Ir1 iv3).mp cq)
    exact hp _ _ (rfl : zi v2 = zi v2) iv2 hv
  · have hv := hv.2 (fun q => cq ((zle Er1 (rfl : zi v3 = zi v3) Ir1 iv3).mpr q))
    obtain ⟨g2, hv⟩ := hv
    obtain ⟨g3, hv⟩ := hv
    obtain ⟨g4, hv⟩ := hv
    refine ⟨zvp (za (zm (by decide : (24 : Int32) = zi 24) (rfl : zi a1 = zi a1)) (rfl : zi v3 = zi v3)) g3 g4.1 g4.2, ?_⟩
    refine ⟨fun cq => ?_, fun cq => ?_⟩
    · have hv := hv.1 ((zle ((congr (congrArg lg_cmp (lrd (za (zm (by decide : (24 : Int32) = zi 24) (rfl : zi a1 = zi a1)) (rfl : zi v3 = zi v3)) g3 g4.1)) rfl).trans (z_num _)) (by decide : (0 : Int32) = zi 0) (ir_toInt _) (by decide : ir 0)).mp cq)
      intro xy5 exy5
      obtain ⟨y5, eyy5⟩ : ∃ q9 : Int, q9 = (orZ v2 0) := ⟨_, rfl⟩
      have hv := hv y5 eyy5
      have Ey5 : xy5 = zi y5 := exy5.trans (((z_or (rfl : zi v2 = zi v2) (by decide : (0 : Int32) = zi 0))).trans (congrArg zi eyy5.symm))
      have Iy5 : ir y5 := by rw [eyy5]; exact (ir_toInt _)
      clear exy5
      obtain ⟨g6, hv⟩ := hv
      intro xy7 exy7
      obtain ⟨y7, eyy7⟩ : ∃ q9 : Int, q9 = v3 + 1 := ⟨_, rfl⟩
      have hv := hv y7 eyy7
      have Ey7 : xy7 = zi y7 := exy7.trans (((za (rfl : zi v3 = zi v3) (by decide : (1 : Int32) = zi 1))).trans (congrArg zi eyy7.symm))
      have Iy7 : ir y7 := by rw [eyy7]; exact g6
      clear exy7
      exact hv _ _ Ey5 Iy5 Ey7 Iy7
    · have hv := hv.2 (fun q => cq ((zle ((congr (congrArg lg_cmp (lrd (za (zm (by decide : (24 : Int32) = zi 24) (rfl : zi a1 = zi a1)) (rfl : zi v3 = zi v3)) g3 g4.1)) rfl).trans (z_num _)) (by decide : (0 : Int32) = zi 0) (ir_toInt _) (by decide : ir 0)).mpr q))
      obtain ⟨g8, hv⟩ := hv
      obtain ⟨g9, hv⟩ := hv
      obtain ⟨g10, hv⟩ := hv
      refine ⟨zvp (za (zm (by decide : (24 : Int32) = zi 24) (rfl : zi a1 = zi a1)) (rfl : zi v3 = zi v3)) g9 g10.1 g10.2, ?_⟩
      refine ⟨fun cq => ?_, fun cq => ?_⟩
      · have hv := hv.1 ((zle ((congr (congrArg lg_cmp (lrd (za (zm (by decide : (24 : Int32) = zi 24) (rfl : zi a1 = zi a1)) (rfl : zi v3 = zi v3)) g9 g10.1)) rfl).trans (z_num _)) (by decide : (0 : Int32) = zi 0) (ir_toInt _) (by decide : ir 0)).mp cq)
        intro xy11 exy11
        obtain ⟨y11, eyy11⟩ : ∃ q9 : Int, q9 = (orZ v2 0) := ⟨_, rfl⟩
        have hv := hv y11 eyy11
        have Ey11 : xy11 = zi y11 := exy11.trans (((z_or (rfl : zi v2 = zi v2) (by decide : (0 : Int32) = zi 0))).trans (congrArg zi eyy11.symm))
        have Iy11 : ir y11 := by rw [eyy11]; exact (ir_toInt _)
        clear exy11
        obtain ⟨g12, hv⟩ := hv
        intro xy13 exy13
        obtain ⟨y13, eyy13⟩ : ∃ q9 : Int, q9 = v3 + 1 := ⟨_, rfl⟩
        have hv := hv y13 eyy13
        have Ey13 : xy13 = zi y13 := exy13.trans (((za (rfl : zi v3 = zi v3) (by decide : (1 : Int32) = zi 1))).trans (congrArg zi eyy13.symm))
        have Iy13 : ir y13 := by rw [eyy13]; exact g12
        clear exy13
        exact hv _ _ Ey11 Iy11 Ey13 Iy13
      · have hv := hv.2 (fun q => cq ((zle ((congr (congrArg lg_cmp (lrd (za (zm (by decide : (24 : Int32) = zi 24) (rfl : zi a1 = zi a1)) (rfl : zi v3 = zi v3)) g9 g10.1)) rfl).trans (z_num _)) (by decide : (0 : Int32) = zi 0) (ir_toInt _) (by decide : ir 0)).mpr q))
        intro xy14 exy14
        obtain ⟨y14, eyy14⟩ : ∃ q9 : Int, q9 = (orZ v2 (shlZ 1 v3)) := ⟨_, rfl⟩
        have hv := hv y14 eyy14
        have Ey14 : xy14 = zi y14 := exy14.trans (((z_or (rfl : zi v2 = zi v2) (z_shl (by decide : (1 : Int32) = zi 1) (rfl : zi v3 = zi v3)))).trans (congrArg zi eyy14.symm))
        have Iy14 : ir y14 := by rw [eyy14]; exact (ir_toInt _)
        clear exy14
        obtain ⟨g15, hv⟩ := hv
        intro xy16 exy16
        obtain ⟨y16, eyy16⟩ : ∃ q9 : Int, q9 = v3 + 1 := ⟨_, rfl⟩
        have hv := hv y16 eyy16
        have Ey16 : xy16 = zi y16 := exy16.trans (((za (rfl : zi v3 = zi v3) (by decide : (1 : Int32) = zi 1))).trans (congrArg zi eyy16.symm))
        have Iy16 : ir y16 := by rw [eyy16]; exact g15
        clear exy16
        exact hv _ _ Ey14 Iy14 Ey16 Iy16
def v_X12_spotsOf (J : mJ) (L : mL) (o : Nat) (a1 : Int) (post' : Int → Prop) : Prop := (v_X12_spotsOf_4 J L o a1 post') 0 0
theorem vw_X12_spotsOf {J : mJ} {L : mL} {o : Nat} {xa1 : Int32} {a1 : Int} (hJ : irm J)    (ea1 : xa1 = zi a1) (ia1 : ir a1) {post : Int32 → Prop} {post' : Int → Prop} (hp : ∀ (x : Int32) (r : Int), x = zi r → ir r → post' r → post x) (hv : v_X12_spotsOf J L o a1 post') : w_X12_spotsOf (zz J) L o xa1 post := by
  subst ea1
  unfold v_X12_spotsOf at hv
  unfold w_X12_spotsOf
  exact vw_X12_spotsOf_4 hJ ia1 hp (by decide : (0 : Int32) = zi 0) (by decide : ir 0) (by decide : (0 : Int32) = zi 0) (by decide : ir 0) hv
def v_X12_spots_46 (o : Nat) (a1 : Int) (a2 : Int) (a3 : Int) (a4 : Int) (post' : Int → mJ → mL → Prop) (k67' : mJ → mL → Int → Prop) (k103' : mJ → mL → Int → Prop) (J : mJ) (L : mL) (v5 : Int) (v6 : Int) : Prop := ∀ ZZ : (mJ → mL → Int → Int → Prop), (∀ (J : mJ) (L : mL) (v5 : Int) (v6 : Int), (((J o 45) ≤ v6 → k103' J L v5) ∧ (¬ (J o 45) ≤ v6 → (0 ≤ v6 ∧ v6 < 10) ∧ (¬ (J (o + 20) v6.toNat) = a4 → v_X12_spotsOf J L o v6 (fun r10 => v_X12_bits r10 (fun r11 => (¬ r11 = 1 → ir (v5 + 0) ∧ ∀ y13, y13 = (v5 + 0) → ir (v6 + 1) ∧ ∀ y15, y15 = v6 + 1 → ZZ J L y13 y15) ∧ (r11 = 1 → ir (v5 + 1) ∧ ∀ y17, y17 = (v5 + 1) → ir (v6 + 1) ∧ ∀ y19, y19 = v6 + 1 → ZZ J L y17 y19)))) ∧ ((J (o + 20) v6.toNat) = a4 → k67' J L v6))) → ZZ J L v5 v6) → ZZ J L v5 v6
theorem vw_X12_spots_46 {o : Nat} {a1 : Int} {a2 : Int} {a3 : Int} {a4 : Int}  (ia1 : ir a1) (ia2 : ir a2) (ia3 : ir a3) (ia4 : ir a4) {post : Int32 → mI → mL → Prop} {post' : Int → mJ → mL → Prop} {k67' : mJ → mL → Int → Prop} {k67 : mI → mL → Int32 → Prop} {k103' : mJ → mL → Int → Prop} {k103 : mI → mL → Int32 → Prop} (hp : ∀ (x : Int32) (r : Int) (J1 : mJ) (L1 : mL), x = zi r → ir r → irm J1 → post' r J1 L1 → post x (zz J1) L1) (hk67 : ∀ (J : mJ) (L : mL) (xv6 : Int32) (v6 : Int), irm J → xv6 = zi v6 → ir v6 → k67' J L v6 → k67 (zz J) L xv6) (hk103 : ∀ (J : mJ) (L : mL) (xv5 : Int32) (v5 : Int), irm J → xv5 = zi v5 → ir v5 → k103' J L v5 → k103 (zz J) L xv5) {J : mJ} {L : mL} {xv5 : Int32} {v5 : Int} {xv6 : Int32} {v6 : Int} (hJ : irm J) (ev5 : xv5 = zi v5) (iv5 : ir v5) (ev6 : xv6 = zi v6) (iv6 : ir v6) (hv : v_X12_spots_46 o a1 a2 a3 a4 post' k67' k103' J L v5 v6) : w_X12_spots_46 o (zi a1) (zi a2) (zi a3) (zi a4) post k67 k103 (zz J) L xv5 xv6 := by
  subst ev5
  subst ev6
  unfold v_X12_spots_46 at hv
  unfold w_X12_spots_46
  intro ZZ hZ
  refine hv (fun J L v5 v6 => ∀ (xv5 : Int32) (xv6 : Int32), irm J → xv5 = zi v5 → ir v5 → xv6 = zi v6 → ir v6 → ZZ (zz J) L xv5 xv6) ?_ _ _ hJ rfl iv5 rfl iv6
  clear hv hJ iv5 iv6
  intro J L v5 v6 hv xv5 xv6 hJ ev5 iv5 ev6 iv6
  subst ev5
  subst ev6
  refine hZ _ _ _ _ ?_
  refine ⟨fun cq => ?_, fun cq => ?_⟩
  · have hv := hv.1 ((zle zrf (rfl : zi v6 = zi v6) (hJ _ _) iv6).mp cq)
    exact hk103 _ _ _ _ hJ (rfl : zi v5 = zi v5) iv5 hv
  · have hv := hv.2 (fun q => cq ((zle zrf (rfl : zi v6 = zi v6) (hJ _ _) iv6).mpr q))
    obtain ⟨g9, hv⟩ := hv
    refine ⟨zvp (rfl : zi v6 = zi v6) iv6 g9.1 g9.2, ?_⟩
    refine ⟨fun cq => ?_, fun cq => ?_⟩
    · have hv := hv.1 (fun q => cq ((zeq (zrd (rfl : zi v6 = zi v6) iv6 g9.1) (rfl : zi a4 = zi a4) (hJ _ _) ia4).mpr q))
      refine vw_X12_spotsOf hJ (rfl : zi v6 = zi v6) iv6 (fun xr10 r10 Er10 Ir10 hv => ?_) hv
      refine vw_X12_bits Er10 Ir10 (fun xr11 r11 Er11 Ir11 hv => ?_) hv
      refine ⟨fun cq => ?_, fun cq => ?_⟩
      · have hv := hv.1 (fun q => cq ((zeq Er11 (by decide : (1 : Int32) = zi 1) Ir11 (by decide : ir 1)).mpr q))
        obtain ⟨g12, hv⟩ := hv
        intro xy13 exy13
        obtain ⟨y13, eyy13⟩ : ∃ q9 : Int, q9 = (v5 + 0) := ⟨_, rfl⟩
        have hv := hv y13 eyy13
        have Ey13 : xy13 = zi y13 := exy13.trans (((za (rfl : zi v5 = zi v5) (by decide : (0 : Int32) = zi 0))).trans (congrArg zi eyy13.symm))
        have Iy13 : ir y13 := by rw [eyy13]; exact g12
        clear exy13
        obtain ⟨g14, hv⟩ := hv
        intro xy15 exy15
        obtain ⟨y15, eyy15⟩ : ∃ q9 : Int, q9 = v6 + 1 := ⟨_, rfl⟩
        have hv := hv y15 eyy15
        have Ey15 : xy15 = zi y15 := exy15.trans (((za (rfl : zi v6 = zi v6) (by decide : (1 : Int32) = zi 1))).trans (congrArg zi eyy15.symm))
        have Iy15 : ir y15 := by rw [eyy15]; exact g14
        clear exy15
        exact hv _ _ hJ Ey13 Iy13 Ey15 Iy15
      · have hv := hv.2 ((zeq Er11 (by decide : (1 : Int32) = zi 1) Ir11 (by decide : ir 1)).mp cq)
        obtain ⟨g16, hv⟩ := hv
        intro xy17 exy17
        obtain ⟨y17, eyy17⟩ : ∃ q9 : Int, q9 = (v5 + 1) := ⟨_, rfl⟩
        have hv := hv y17 eyy17
        have Ey17 : xy17 = zi y17 := exy17.trans (((za (rfl : zi v5 = zi v5) (by decide : (1 : Int32) = zi 1))).trans (congrArg zi eyy17.symm))
        have Iy17 : ir y17 := by rw [eyy17]; exact g16
        clear exy17
        obtain ⟨g18, hv⟩ := hv
        intro xy19 exy19
        obtain ⟨y19, eyy19⟩ : ∃ q9 : Int, q9 = v6 + 1 := ⟨_, rfl⟩
        have hv := hv y19 eyy19
        have Ey19 : xy19 = zi y19 := exy19.trans (((za (rfl : zi v6 = zi v6) (by decide : (1 : Int32) = zi 1))).trans (congrArg zi eyy19.symm))
        have Iy19 : ir y19 := by rw [eyy19]; exact g18
        clear exy19
        exact hv _ _ hJ Ey17 Iy17 Ey19 Iy19
    · have hv := hv.2 ((zeq (zrd (rfl : zi v6 = zi v6) iv6 g9.1) (rfl : zi a4 = zi a4) (hJ _ _) ia4).mp cq)
      exact hk67 _ _ _ _ hJ (rfl : zi v6 = zi v6) iv6 hv
def v_X12_spots_67 (o : Nat) (a1 : Int) (a2 : Int) (a3 : Int) (a4 : Int) (post' : Int → mJ → mL → Prop) (J : mJ) (L : mL) (v6 : Int) : Prop := v_X12_spotsOf J L o v6 (fun r20 => post' r20 J L)
theorem vw_X12_spots_67 {o : Nat} {a1 : Int} {a2 : Int} {a3 : Int} {a4 : Int}  (ia1 : ir a1) (ia2 : ir a2) (ia3 : ir a3) (ia4 : ir a4) {post : Int32 → mI → mL → Prop} {post' : Int → mJ → mL → Prop} (hp : ∀ (x : Int32) (r : Int) (J1 : mJ) (L1 : mL), x = zi r → ir r → irm J1 → post' r J1 L1 → post x (zz J1) L1) {J : mJ} {L : mL} {xv6 : Int32} {v6 : Int} (hJ : irm J) (ev6 : xv6 = zi v6) (iv6 : ir v6) (hv : v_X12_spots_67 o a1 a2 a3 a4 post' J L v6) : w_X12_spots_67 o (zi a1) (zi a2) (zi a3) (zi a4) post (zz J) L xv6 := by
  subst ev6
  unfold v_X12_spots_67 at hv
  unfold w_X12_spots_67
  refine vw_X12_spotsOf hJ (rfl : zi v6 = zi v6) iv6 (fun xr20 r20 Er20 Ir20 hv => ?_) hv
  exact hp _ _ _ _ Er20 Ir20 hJ hv
def v_X12_spots_103 (o : Nat) (a1 : Int) (a2 : Int) (a3 : Int) (a4 : Int) (post' : Int → mJ → mL → Prop) (J : mJ) (L : mL) (v5 : Int) : Prop := (¬ a4 = (-1) → post' 0 J L) ∧ (a4 = (-1) → post' v5 J L)
theorem vw_X12_spots_103 {o : Nat} {a1 : Int} {a2 : Int} {a3 : Int} {a4 : Int}  (ia1 : ir a1) (ia2 : ir a2) (ia3 : ir a3) (ia4 : ir a4) {post : Int32 → mI → mL → Prop} {post' : Int → mJ → mL → Prop} (hp : ∀ (x : Int32) (r : Int) (J1 : mJ) (L1 : mL), x = zi r → ir r → irm J1 → post' r J1 L1 → post x (zz J1) L1) {J : mJ} {L : mL} {xv5 : Int32} {v5 : Int} (hJ : irm J) (ev5 : xv5 = zi v5) (iv5 : ir v5) (hv : v_X12_spots_103 o a1 a2 a3 a4 post' J L v5) : w_X12_spots_103 o (zi a1) (zi a2) (zi a3) (zi a4) post (zz J) L xv5 := by
  subst ev5
  unfold v_X12_spots_103 at hv
  unfold w_X12_spots_103
  refine ⟨fun cq => ?_, fun cq => ?_⟩
  · have hv := hv.1 (fun q => cq ((zeq (rfl : zi a4 = zi a4) (by decide : ((-1) : Int32) = zi (-1)) ia4 (by decide : ir (-1))).mpr q))
    exact hp _ _ _ _ (by decide : (0 : Int32) = zi 0) (by decide : ir 0) hJ hv
  · have hv := hv.2 ((zeq (rfl : zi a4 = zi a4) (by decide : ((-1) : Int32) = zi (-1)) ia4 (by decide : ir (-1))).mp cq)
    exact hp _ _ _ _ (rfl : zi v5 = zi v5) iv5 hJ hv
def v_X12_spots (J : mJ) (L : mL) (o : Nat) (a1 : Int) (a2 : Int) (a3 : Int) (a4 : Int) (post' : Int → mJ → mL → Prop) : Prop := v_X12_areRead J o a1 a2 (fun b1 J2 => (b1 = false → post' (-2) J2 L) ∧ (b1 = true → v_X12_isPerson J2 o a3 (fun b3 => (b3 = false → post' (-2) J2 L) ∧ (b3 = true → v_X12_sounds J2 o (fun r4 => ir (r4 - 1) ∧ v_X12_isIn a4 (-1) (r4 - 1) (fun b6 => (b6 = true → v_X12_tracks J2 L o a3 (fun J7 L8 => (v_X12_spots_46 o a1 a2 a3 a4 post' (v_X12_spots_67 o a1 a2 a3 a4 post') (v_X12_spots_103 o a1 a2 a3 a4 post')) J7 L8 0 0)) ∧ (b6 = false → post' (-2) J2 L)))))))
theorem vw_X12_spots {J : mJ} {L : mL} {o : Nat} {xa1 : Int32} {a1 : Int} {xa2 : Int32} {a2 : Int} {xa3 : Int32} {a3 : Int} {xa4 : Int32} {a4 : Int} (hJ : irm J)    (ea1 : xa1 = zi a1) (ia1 : ir a1) (ea2 : xa2 = zi a2) (ia2 : ir a2) (ea3 : xa3 = zi a3) (ia3 : ir a3) (ea4 : xa4 = zi a4) (ia4 : ir a4) {post : Int32 → mI → mL → Prop} {post' : Int → mJ → mL → Prop} (hp : ∀ (x : Int32) (r : Int) (J1 : mJ) (L1 : mL), x = zi r → ir r → irm J1 → post' r J1 L1 → post x (zz J1) L1) (hv : v_X12_spots J L o a1 a2 a3 a4 post') : w_X12_spots (zz J) L o xa1 xa2 xa3 xa4 post := by
  subst ea1
  subst ea2
  subst ea3
  subst ea4
  unfold v_X12_spots at hv
  unfold w_X12_spots
  refine vw_X12_areRead hJ (rfl : zi a1 = zi a1) ia1 (rfl : zi a2 = zi a2) ia2 (fun b1 J2 hJ hv => ?_) hv
  refine ⟨fun cq => ?_, fun cq => ?_⟩
  · have hv := hv.1 cq
    exact hp _ _ _ _ (by decide : ((-2) : Int32) = zi (-2)) (by decide : ir (-2)) hJ hv
  · have hv := hv.2 cq
    refine vw_X12_isPerson hJ (rfl : zi a3 = zi a3) ia3 (fun b3  hv => ?_) hv
    refine ⟨fun cq => ?_, fun cq => ?_⟩
    · have hv := hv.1 cq
      exact hp _ _ _ _ (by decide : ((-2) : Int32) = zi (-2)) (by decide : ir (-2)) hJ hv
    · have hv := hv.2 cq
      refine vw_X12_sounds hJ  (fun xr4 r4 Er4 Ir4 hv => ?_) hv
      obtain ⟨g5, hv⟩ := hv
      refine vw_X12_isIn (rfl : zi a4 = zi a4) ia4 (by decide : ((-1) : Int32) = zi (-1)) (by decide : ir (-1)) (zs Er4 (by decide : (1 : Int32) = zi 1)) g5 (fun b6  hv => ?_) hv
      refine ⟨fun cq => ?_, fun cq => ?_⟩
      · have hv := hv.1 cq
        refine vw_X12_tracks hJ (rfl : zi a3 = zi a3) ia3 (fun J7 L8 hJ hv => ?_) hv
        refine vw_X12_spots_46 ia1 ia2 ia3 ia4 hp ?_ ?_ hJ (by decide : (0 : Int32) = zi 0) (by decide : ir 0) (by decide : (0 : Int32) = zi 0) (by decide : ir 0) hv
        · intro qq qq xx vv hJ ev6 iv6 hv
          exact vw_X12_spots_67 ia1 ia2 ia3 ia4 hp hJ ev6 iv6 hv
        · intro qq qq xx vv hJ ev5 iv5 hv
          exact vw_X12_spots_103 ia1 ia2 ia3 ia4 hp hJ ev5 iv5 hv
      · have hv := hv.2 cq
        exact hp _ _ _ _ (by decide : ((-2) : Int32) = zi (-2)) (by decide : ir (-2)) hJ hv
def v_X12_drawn_54 (o : Nat) (a1 : Int) (a2 : Int) (a3 : Int) (a4 : Int) (post' : Int → mJ → Prop) (J : mJ) : Prop := ∀ J7, J7 = up2 J o 22 1 → ∀ J8, J8 = up2 J7 o 23 a2 → ∀ J9, J9 = up2 J8 o 24 a3 → v_X12_runs J9 o (fun J10 => (2 ≤ a4 → (20 ≤ a4 → v_X12_notesOf J10 o (subW a4 20) (fun r11 => post' r11 J10)) ∧ (¬ 20 ≤ a4 → (0 ≤ (subW a4 10) ∧ (subW a4 10) < 6) ∧ post' (J10 (o + 14) (subW a4 10).toNat) J10)) ∧ (¬ 2 ≤ a4 → (¬ a4 = 0 → v_X12_allNotes J10 o (fun r13 => post' r13 J10)) ∧ (a4 = 0 → post' (J10 o 25) J10)))
theorem vw_X12_drawn_54 {o : Nat} {a1 : Int} {a2 : Int} {a3 : Int} {a4 : Int}  (ia1 : ir a1) (ia2 : ir a2) (ia3 : ir a3) (ia4 : ir a4) {post : Int32 → mI → Prop} {post' : Int → mJ → Prop} (hp : ∀ (x : Int32) (r : Int) (J1 : mJ), x = zi r → ir r → irm J1 → post' r J1 → post x (zz J1)) {J : mJ} (hJ : irm J) (hv : v_X12_drawn_54 o a1 a2 a3 a4 post' J) : w_X12_drawn_54 o (zi a1) (zi a2) (zi a3) (zi a4) post (zz J) := by
  unfold v_X12_drawn_54 at hv
  unfold w_X12_drawn_54
  intro I1 eI1
  obtain ⟨J7, eJ7⟩ : ∃ q9 : mJ, q9 = up2 J o 22 1 := ⟨_, rfl⟩
  have eI1 : I1 = zz J7 := by rw [eI1, eJ7]; exact zup (by decide : (1 : Int32) = zi 1)
  subst eI1
  have hv := hv J7 eJ7
  have hJ : irm J7 := by rw [eJ7]; exact irm_up hJ (by decide : ir 1)
  intro I1 eI1
  obtain ⟨J8, eJ8⟩ : ∃ q9 : mJ, q9 = up2 J7 o 23 a2 := ⟨_, rfl⟩
  have eI1 : I1 = zz J8 := by rw [eI1, eJ8]; exact zup (rfl : zi a2 = zi a2)
  subst eI1
  have hv := hv J8 eJ8
  have hJ : irm J8 := by rw [eJ8]; exact irm_up hJ ia2
  intro I1 eI1
  obtain ⟨J9, eJ9⟩ : ∃ q9 : mJ, q9 = up2 J8 o 24 a3 := ⟨_, rfl⟩
  have eI1 : I1 = zz J9 := by rw [eI1, eJ9]; exact zup (rfl : zi a3 = zi a3)
  subst eI1
  have hv := hv J9 eJ9
  have hJ : irm J9 := by rw [eJ9]; exact irm_up hJ ia3
  refine vw_X12_runs hJ  (fun J10 hJ hv => ?_) hv
  refine ⟨fun cq => ?_, fun cq => ?_⟩
  · have hv := hv.1 ((zle (by decide : (2 : Int32) = zi 2) (rfl : zi a4 = zi a4) (by decide : ir 2) ia4).mp cq)
    refine ⟨fun cq => ?_, fun cq => ?_⟩
    · have hv := hv.1 ((zle (by decide : (20 : Int32) = zi 20) (rfl : zi a4 = zi a4) (by decide : ir 20) ia4).mp cq)
      refine vw_X12_notesOf hJ (z_subW (rfl : zi a4 = zi a4) (by decide : (20 : Int32) = zi 20)) (ir_toInt _) (fun xr11 r11 Er11 Ir11 hv => ?_) hv
      exact hp _ _ _ Er11 Ir11 hJ hv
    · have hv := hv.2 (fun q => cq ((zle (by decide : (20 : Int32) = zi 20) (rfl : zi a4 = zi a4) (by decide : ir 20) ia4).mpr q))
      obtain ⟨g12, hv⟩ := hv
      refine ⟨zvp (z_subW (rfl : zi a4 = zi a4) (by decide : (10 : Int32) = zi 10)) (ir_toInt _) g12.1 g12.2, ?_⟩
      exact hp _ _ _ (zrd (z_subW (rfl : zi a4 = zi a4) (by decide : (10 : Int32) = zi 10)) (ir_toInt _) g12.1) (hJ _ _) hJ hv
  · have hv := hv.2 (fun q => cq ((zle (by decide : (2 : Int32) = zi 2) (rfl : zi a4 = zi a4) (by decide : ir 2) ia4).mpr q))
    refine ⟨fun cq => ?_, fun cq => ?_⟩
    · have hv := hv.1 (fun q => cq ((zeq (rfl : zi a4 = zi a4) (by decide : (0 : Int32) = zi 0) ia4 (by decide : ir 0)).mpr q))
      refine vw_X12_allNotes hJ  (fun xr13 r13 Er13 Ir13 hv => ?_) hv
      exact hp _ _ _ Er13 Ir13 hJ hv
    · have hv := hv.2 ((zeq (rfl : zi a4 = zi a4) (by decide : (0 : Int32) = zi 0) ia4 (by decide : ir 0)).mp cq)
      exact hp _ _ _ zrf (hJ _ _) hJ hv
def v_X12_drawn (J : mJ) (o : Nat) (a1 : Int) (a2 : Int) (a3 : Int) (a4 : Int) (post' : Int → mJ → Prop) : Prop := v_X12_isHouse J o a1 (fun b1 J2 => (b1 = false → post' (-1) J2) ∧ (b1 = true → v_X12_isIn a3 0 100 (fun b3 => (b3 = false → post' (-1) J2) ∧ (b3 = true → v_X12_isIn a4 0 1 (fun b4 => (b4 = true → (v_X12_drawn_54 o a1 a2 a3 a4 post') J2) ∧ (b4 = false → v_X12_isPerson J2 o (subW a4 10) (fun b5 => (b5 = true → (v_X12_drawn_54 o a1 a2 a3 a4 post') J2) ∧ (b5 = false → v_X12_isFlat J2 o (subW a4 20) (fun b6 => (b6 = true → (v_X12_drawn_54 o a1 a2 a3 a4 post') J2) ∧ (b6 = false → post' (-1) J2))))))))))
theorem vw_X12_drawn {J : mJ} {o : Nat} {xa1 : Int32} {a1 : Int} {xa2 : Int32} {a2 : Int} {xa3 : Int32} {a3 : Int} {xa4 : Int32} {a4 : Int} (hJ : irm J)   (ea1 : xa1 = zi a1) (ia1 : ir a1) (ea2 : xa2 = zi a2) (ia2 : ir a2) (ea3 : xa3 = zi a3) (ia3 : ir a3) (ea4 : xa4 = zi a4) (ia4 : ir a4) {post : Int32 → mI → Prop} {post' : Int → mJ → Prop} (hp : ∀ (x : Int32) (r : Int) (J1 : mJ), x = zi r → ir r → irm J1 → post' r J1 → post x (zz J1)) (hv : v_X12_drawn J o a1 a2 a3 a4 post') : w_X12_drawn (zz J) o xa1 xa2 xa3 xa4 post := by
  subst ea1
  subst ea2
  subst ea3
  subst ea4
  unfold v_X12_drawn at hv
  unfold w_X12_drawn
  refine vw_X12_isHouse hJ (rfl : zi a1 = zi a1) ia1 (fun b1 J2 hJ hv => ?_) hv
  refine ⟨fun cq => ?_, fun cq => ?_⟩
  · have hv := hv.1 cq
    exact hp _ _ _ (by decide : ((-1) : Int32) = zi (-1)) (by decide : ir (-1)) hJ hv
  · have hv := hv.2 cq
    refine vw_X12_isIn (rfl : zi a3 = zi a3) ia3 (by decide : (0 : Int32) = zi 0) (by decide : ir 0) (by decide : (100 : Int32) = zi 100) (by decide : ir 100) (fun b3  hv => ?_) hv
    refine ⟨fun cq => ?_, fun cq => ?_⟩
    · have hv := hv.1 cq
      exact hp _ _ _ (by decide : ((-1) : Int32) = zi (-1)) (by decide : ir (-1)) hJ hv
    · have hv := hv.2 cq
      refine vw_X12_isIn (rfl : zi a4 = zi a4) ia4 (by decide : (0 : Int32) = zi 0) (by decide : ir 0) (by decide : (1 : Int32) = zi 1) (by decide : ir 1) (fun b4  hv => ?_) hv
      refine ⟨fun cq => ?_, fun cq => ?_⟩
      · have hv := hv.1 cq
        exact vw_X12_drawn_54 ia1 ia2 ia3 ia4 hp hJ hv
      · have hv := hv.2 cq
        refine vw_X12_isPerson hJ (z_subW (rfl : zi a4 = zi a4) (by decide : (10 : Int32) = zi 10)) (ir_toInt _) (fun b5  hv => ?_) hv
        refine ⟨fun cq => ?_, fun cq => ?_⟩
        · have hv := hv.1 cq
          exact vw_X12_drawn_54 ia1 ia2 ia3 ia4 hp hJ hv
        · have hv := hv.2 cq
          refine vw_X12_isFlat hJ (z_subW (rfl : zi a4 = zi a4) (by decide : (20 : Int32) = zi 20)) (ir_toInt _) (fun b6  hv => ?_) hv
          refine ⟨fun cq => ?_, fun cq => ?_⟩
          · have hv := hv.1 cq
            exact vw_X12_drawn_54 ia1 ia2 ia3 ia4 hp hJ hv
          · have hv := hv.2 cq
            exact hp _ _ _ (by decide : ((-1) : Int32) = zi (-1)) (by decide : ir (-1)) hJ hv
def v_X12_ringOf_4 (J : mJ) (o : Nat) (a1 : Int) (post' : Int → Prop) (v2 : Int) (v3 : Int) : Prop := ∀ ZZ : (Int → Int → Prop), (∀ (v2 : Int) (v3 : Int), ((v3 = (-1) → post' v2) ∧ (¬ v3 = (-1) → ir (v2 + 1) ∧ ∀ y2, y2 = v2 + 1 → (0 ≤ v3 ∧ v3 < 640) ∧ ∀ y4, y4 = (J (o + 9) v3.toNat) → ZZ y2 y4)) → ZZ v2 v3) → ZZ v2 v3
theorem vw_X12_ringOf_4 {J : mJ} {o : Nat} {a1 : Int} (hJ : irm J) (ia1 : ir a1) {post : Int32 → Prop} {post' : Int → Prop} (hp : ∀ (x : Int32) (r : Int), x = zi r → ir r → post' r → post x) {xv2 : Int32} {v2 : Int} {xv3 : Int32} {v3 : Int} (ev2 : xv2 = zi v2) (iv2 : ir v2) (ev3 : xv3 = zi v3) (iv3 : ir v3) (hv : v_X12_ringOf_4 J o a1 post' v2 v3) : w_X12_ringOf_4 (zz J) o (zi a1) post xv2 xv3 := by
  subst ev2
  subst ev3
  unfold v_X12_ringOf_4 at hv
  unfold w_X12_ringOf_4
  intro ZZ hZ
  refine hv (fun v2 v3 => ∀ (xv2 : Int32) (xv3 : Int32), xv2 = zi v2 → ir v2 → xv3 = zi v3 → ir v3 → ZZ xv2 xv3) ?_ _ _ rfl iv2 rfl iv3
  clear hv iv2 iv3
  intro v2 v3 hv xv2 xv3 ev2 iv2 ev3 iv3
  subst ev2
  subst ev3
  refine hZ _ _ ?_
  refine ⟨fun cq => ?_, fun cq => ?_⟩
  · have hv := hv.1 ((zeq (rfl : zi v3 = zi v3) (by decide : ((-1) : Int32) = zi (-1)) iv3 (by decide : ir (-1))).mp cq)
    exact hp _ _ (rfl : zi v2 = zi v2) iv2 hv
  · have hv := hv.2 (fun q => cq ((zeq (rfl : zi v3 = zi v3) (by decide : ((-1) : Int32) = zi (-1)) iv3 (by decide : ir (-1))).mpr q))
    obtain ⟨g1, hv⟩ := hv
    intro xy2 exy2
    obtain ⟨y2, eyy2⟩ : ∃ q9 : Int, q9 = v2 + 1 := ⟨_, rfl⟩
    have hv := hv y2 eyy2
    have Ey2 : xy2 = zi y2 := exy2.trans (((za (rfl : zi v2 = zi v2) (by decide : (1 : Int32) = zi 1))).trans (congrArg zi eyy2.symm))
    have Iy2 : ir y2 := by rw [eyy2]; exact g1
    clear exy2
    obtain ⟨g3, hv⟩ := hv
    refine ⟨zvp (rfl : zi v3 = zi v3) iv3 g3.1 g3.2, ?_⟩
    intro xy4 exy4
    obtain ⟨y4, eyy4⟩ : ∃ q9 : Int, q9 = (J (o + 9) v3.toNat) := ⟨_, rfl⟩
    have hv := hv y4 eyy4
    have Ey4 : xy4 = zi y4 := exy4.trans (((zrd (rfl : zi v3 = zi v3) iv3 g3.1)).trans (congrArg zi eyy4.symm))
    have Iy4 : ir y4 := by rw [eyy4]; exact (hJ _ _)
    clear exy4
    exact hv _ _ Ey2 Iy2 Ey4 Iy4
def v_X12_ringOf (J : mJ) (o : Nat) (a1 : Int) (post' : Int → Prop) : Prop := (v_X12_ringOf_4 J o a1 post') 0 a1
theorem vw_X12_ringOf {J : mJ} {o : Nat} {xa1 : Int32} {a1 : Int} (hJ : irm J)   (ea1 : xa1 = zi a1) (ia1 : ir a1) {post : Int32 → Prop} {post' : Int → Prop} (hp : ∀ (x : Int32) (r : Int), x = zi r → ir r → post' r → post x) (hv : v_X12_ringOf J o a1 post') : w_X12_ringOf (zz J) o xa1 post := by
  subst ea1
  unfold v_X12_ringOf at hv
  unfold w_X12_ringOf
  exact vw_X12_ringOf_4 hJ ia1 hp (by decide : (0 : Int32) = zi 0) (by decide : ir 0) (rfl : zi a1 = zi a1) ia1 hv
def v_X12_ring_53 (o : Nat) (a1 : Int) (a2 : Int) (post' : Int → mJ → Prop) (J : mJ) (v3 : Int) (v4 : Int) : Prop := ∀ ZZ : (mJ → Int → Int → Prop), (∀ (J : mJ) (v3 : Int) (v4 : Int), (((J o 25) ≤ v4 → post' v3 J) ∧ (¬ (J o 25) ≤ v4 → v_X12_ringOf J o v4 (fun r7 => (r7 ≤ v3 → ir (v4 + 1) ∧ ∀ y9, y9 = v4 + 1 → ZZ J v3 y9) ∧ (¬ r7 ≤ v3 → v_X12_ringOf J o v4 (fun r10 => ir (v4 + 1) ∧ ∀ y12, y12 = v4 + 1 → ZZ J r10 y12))))) → ZZ J v3 v4) → ZZ J v3 v4
theorem vw_X12_ring_53 {o : Nat} {a1 : Int} {a2 : Int}  (ia1 : ir a1) (ia2 : ir a2) {post : Int32 → mI → Prop} {post' : Int → mJ → Prop} (hp : ∀ (x : Int32) (r : Int) (J1 : mJ), x = zi r → ir r → irm J1 → post' r J1 → post x (zz J1)) {J : mJ} {xv3 : Int32} {v3 : Int} {xv4 : Int32} {v4 : Int} (hJ : irm J) (ev3 : xv3 = zi v3) (iv3 : ir v3) (ev4 : xv4 = zi v4) (iv4 : ir v4) (hv : v_X12_ring_53 o a1 a2 post' J v3 v4) : w_X12_ring_53 o (zi a1) (zi a2) post (zz J) xv3 xv4 := by
  subst ev3
  subst ev4
  unfold v_X12_ring_53 at hv
  unfold w_X12_ring_53
  intro ZZ hZ
  refine hv (fun J v3 v4 => ∀ (xv3 : Int32) (xv4 : Int32), irm J → xv3 = zi v3 → ir v3 → xv4 = zi v4 → ir v4 → ZZ (zz J) xv3 xv4) ?_ _ _ hJ rfl iv3 rfl iv4
  clear hv hJ iv3 iv4
  intro J v3 v4 hv xv3 xv4 hJ ev3 iv3 ev4 iv4
  subst ev3
  subst ev4
  refine hZ _ _ _ ?_
  refine ⟨fun cq => ?_, fun cq => ?_⟩
  · have hv := hv.1 ((zle zrf (rfl : zi v4 = zi v4) (hJ _ _) iv4).mp cq)
    exact hp _ _ _ (rfl : zi v3 = zi v3) iv3 hJ hv
  · have hv := hv.2 (fun q => cq ((zle zrf (rfl : zi v4 = zi v4) (hJ _ _) iv4).mpr q))
    refine vw_X12_ringOf hJ (rfl : zi v4 = zi v4) iv4 (fun xr7 r7 Er7 Ir7 hv => ?_) hv
    refine ⟨fun cq => ?_, fun cq => ?_⟩
    · have hv := hv.1 ((zle Er7 (rfl : zi v3 = zi v3) Ir7 iv3).mp cq)
      obtain ⟨g8, hv⟩ := hv
      intro xy9 exy9
      obtain ⟨y9, eyy9⟩ : ∃ q9 : Int, q9 = v4 + 1 := ⟨_, rfl⟩
      have hv := hv y9 eyy9
      have Ey9 : xy9 = zi y9 := exy9.trans (((za (rfl : zi v4 = zi v4) (by decide : (1 : Int32) = zi 1))).trans (congrArg zi eyy9.symm))
      have Iy9 : ir y9 := by rw [eyy9]; exact g8
      clear exy9
      exact hv _ _ hJ (rfl : zi v3 = zi v3) iv3 Ey9 Iy9
    · have hv := hv.2 (fun q => cq ((zle Er7 (rfl : zi v3 = zi v3) Ir7 iv3).mpr q))
      refine vw_X12_ringOf hJ (rfl : zi v4 = zi v4) iv4 (fun xr10 r10 Er10 Ir10 hv => ?_) hv
      obtain ⟨g11, hv⟩ := hv
      intro xy12 exy12
      obtain ⟨y12, eyy12⟩ : ∃ q9 : Int, q9 = v4 + 1 := ⟨_, rfl⟩
      have hv := hv y12 eyy12
      have Ey12 : xy12 = zi y12 := exy12.trans (((za (rfl : zi v4 = zi v4) (by decide : (1 : Int32) = zi 1))).trans (congrArg zi eyy12.symm))
      have Iy12 : ir y12 := by rw [eyy12]; exact g11
      clear exy12
      exact hv _ _ hJ Er10 Ir10 Ey12 Iy12
def v_X12_ring (J : mJ) (o : Nat) (a1 : Int) (a2 : Int) (post' : Int → mJ → Prop) : Prop := v_X12_isHouse J o a1 (fun b1 J2 => (b1 = true → v_X12_runs J2 o (fun J3 => ((J3 o 25) = 0 → post' (-1) J3) ∧ (¬ (J3 o 25) = 0 → ir ((J3 o 25) - 1) ∧ v_X12_isIn a2 (-1) ((J3 o 25) - 1) (fun b5 => (b5 = true → (a2 = (-1) → (v_X12_ring_53 o a1 a2 post') J3 0 0) ∧ (¬ a2 = (-1) → v_X12_ringOf J3 o a2 (fun r6 => post' r6 J3))) ∧ (b5 = false → post' (-1) J3))))) ∧ (b1 = false → post' (-1) J2))
theorem vw_X12_ring {J : mJ} {o : Nat} {xa1 : Int32} {a1 : Int} {xa2 : Int32} {a2 : Int} (hJ : irm J)   (ea1 : xa1 = zi a1) (ia1 : ir a1) (ea2 : xa2 = zi a2) (ia2 : ir a2) {post : Int32 → mI → Prop} {post' : Int → mJ → Prop} (hp : ∀ (x : Int32) (r : Int) (J1 : mJ), x = zi r → ir r → irm J1 → post' r J1 → post x (zz J1)) (hv : v_X12_ring J o a1 a2 post') : w_X12_ring (zz J) o xa1 xa2 post := by
  subst ea1
  subst ea2
  unfold v_X12_ring at hv
  unfold w_X12_ring
  refine vw_X12_isHouse hJ (rfl : zi a1 = zi a1) ia1 (fun b1 J2 hJ hv => ?_) hv
  refine ⟨fun cq => ?_, fun cq => ?_⟩
  · have hv := hv.1 cq
    refine vw_X12_runs hJ  (fun J3 hJ hv => ?_) hv
    refine ⟨fun cq => ?_, fun cq => ?_⟩
    · have hv := hv.1 ((zeq zrf (by decide : (0 : Int32) = zi 0) (hJ _ _) (by decide : ir 0)).mp cq)
      exact hp _ _ _ (by decide : ((-1) : Int32) = zi (-1)) (by decide : ir (-1)) hJ hv
    · have hv := hv.2 (fun q => cq ((zeq zrf (by decide : (0 : Int32) = zi 0) (hJ _ _) (by decide : ir 0)).mpr q))
      obtain ⟨g4, hv⟩ := hv
      refine vw_X12_isIn (rfl : zi a2 = zi a2) ia2 (by decide : ((-1) : Int32) = zi (-1)) (by decide : ir (-1)) (zs zrf (by decide : (1 : Int32) = zi 1)) g4 (fun b5  hv => ?_) hv
      refine ⟨fun cq => ?_, fun cq => ?_⟩
      · have hv := hv.1 cq
        refine ⟨fun cq => ?_, fun cq => ?_⟩
        · have hv := hv.1 ((zeq (rfl : zi a2 = zi a2) (by decide : ((-1) : Int32) = zi (-1)) ia2 (by decide : ir (-1))).mp cq)
          exact vw_X12_ring_53 ia1 ia2 hp hJ (by decide : (0 : Int32) = zi 0) (by decide : ir 0) (by decide : (0 : Int32) = zi 0) (by decide : ir 0) hv
        · have hv := hv.2 (fun q => cq ((zeq (rfl : zi a2 = zi a2) (by decide : ((-1) : Int32) = zi (-1)) ia2 (by decide : ir (-1))).mpr q))
          refine vw_X12_ringOf hJ (rfl : zi a2 = zi a2) ia2 (fun xr6 r6 Er6 Ir6 hv => ?_) hv
          exact hp _ _ _ Er6 Ir6 hJ hv
      · have hv := hv.2 cq
        exact hp _ _ _ (by decide : ((-1) : Int32) = zi (-1)) (by decide : ir (-1)) hJ hv
  · have hv := hv.2 cq
    exact hp _ _ _ (by decide : ((-1) : Int32) = zi (-1)) (by decide : ir (-1)) hJ hv
def v_X12_isPass_82 (J : mJ) (o : Nat) (a1 : Int) (a2 : Int) (a3 : Int) (post' : Bool → Prop) (v4 : Int) (v5 : Int) (v6 : Int) (v7 : Int) : Prop := (v4 < v5 → post' false) ∧ (¬ v4 < v5 → (v7 ≤ v6 → post' false) ∧ (¬ v7 ≤ v6 → post' true))
theorem vw_X12_isPass_82 {J : mJ} {o : Nat} {a1 : Int} {a2 : Int} {a3 : Int} (hJ : irm J) (ia1 : ir a1) (ia2 : ir a2) (ia3 : ir a3) {post : Bool → Prop} {post' : Bool → Prop} (hp : ∀ (r : Bool), post' r → post r) {xv4 : Int32} {v4 : Int} {xv5 : Int32} {v5 : Int} {xv6 : Int32} {v6 : Int} {xv7 : Int32} {v7 : Int} (ev4 : xv4 = zi v4) (iv4 : ir v4) (ev5 : xv5 = zi v5) (iv5 : ir v5) (ev6 : xv6 = zi v6) (iv6 : ir v6) (ev7 : xv7 = zi v7) (iv7 : ir v7) (hv : v_X12_isPass_82 J o a1 a2 a3 post' v4 v5 v6 v7) : w_X12_isPass_82 (zz J) o (zi a1) (zi a2) (zi a3) post xv4 xv5 xv6 xv7 := by
  subst ev4
  subst ev5
  subst ev6
  subst ev7
  unfold v_X12_isPass_82 at hv
  unfold w_X12_isPass_82
  refine ⟨fun cq => ?_, fun cq => ?_⟩
  · have hv := hv.1 ((zlt (rfl : zi v4 = zi v4) (rfl : zi v5 = zi v5) iv4 iv5).mp cq)
    exact hp _ hv
  · have hv := hv.2 (fun q => cq ((zlt (rfl : zi v4 = zi v4) (rfl : zi v5 = zi v5) iv4 iv5).mpr q))
    refine ⟨fun cq => ?_, fun cq => ?_⟩
    · have hv := hv.1 ((zle (rfl : zi v7 = zi v7) (rfl : zi v6 = zi v6) iv7 iv6).mp cq)
      exact hp _ hv
    · have hv := hv.2 (fun q => cq ((zle (rfl : zi v7 = zi v7) (rfl : zi v6 = zi v6) iv7 iv6).mpr q))
      exact hp _ hv
def v_X12_isPass (J : mJ) (o : Nat) (a1 : Int) (a2 : Int) (a3 : Int) (post' : Bool → Prop) : Prop := ir (100 * a1) ∧ ir ((100 * a1) + a3) ∧ ir (((100 * a1) + a3) - 1) ∧ (0 ≤ (((100 * a1) + a3) - 1) ∧ (((100 * a1) + a3) - 1) < 600) ∧ ∀ y5, y5 = (J (o + 12) (((100 * a1) + a3) - 1).toNat) → ir (100 * a2) ∧ ir ((100 * a2) + a3) ∧ ir (((100 * a2) + a3) - 1) ∧ (0 ≤ (((100 * a2) + a3) - 1) ∧ (((100 * a2) + a3) - 1) < 600) ∧ ∀ y10, y10 = (J (o + 12) (((100 * a2) + a3) - 1).toNat) → ir (100 * a1) ∧ ir ((100 * a1) + a3) ∧ (0 ≤ ((100 * a1) + a3) ∧ ((100 * a1) + a3) < 600) ∧ ∀ y14, y14 = (J (o + 12) ((100 * a1) + a3).toNat) → ir (100 * a2) ∧ ir ((100 * a2) + a3) ∧ (0 ≤ ((100 * a2) + a3) ∧ ((100 * a2) + a3) < 600) ∧ ∀ y18, y18 = (J (o + 12) ((100 * a2) + a3).toNat) → (y5 = (-1) → post' false) ∧ (¬ y5 = (-1) → (y10 = (-1) → post' false) ∧ (¬ y10 = (-1) → (y10 < y5 → (v_X12_isPass_82 J o a1 a2 a3 post') y5 y10 y14 y18) ∧ (¬ y10 < y5 → (y18 < y14 → post' true) ∧ (¬ y18 < y14 → (v_X12_isPass_82 J o a1 a2 a3 post') y5 y10 y14 y18))))
theorem vw_X12_isPass {J : mJ} {o : Nat} {xa1 : Int32} {a1 : Int} {xa2 : Int32} {a2 : Int} {xa3 : Int32} {a3 : Int} (hJ : irm J)   (ea1 : xa1 = zi a1) (ia1 : ir a1) (ea2 : xa2 = zi a2) (ia2 : ir a2) (ea3 : xa3 = zi a3) (ia3 : ir a3) {post : Bool → Prop} {post' : Bool → Prop} (hp : ∀ (r : Bool), post' r → post r) (hv : v_X12_isPass J o a1 a2 a3 post') : w_X12_isPass (zz J) o xa1 xa2 xa3 post := by
  subst ea1
  subst ea2
  subst ea3
  unfold v_X12_isPass at hv
  unfold w_X12_isPass
  obtain ⟨g1, hv⟩ := hv
  obtain ⟨g2, hv⟩ := hv
  obtain ⟨g3, hv⟩ := hv
  obtain ⟨g4, hv⟩ := hv
  refine ⟨zvp (zs (za (zm (by decide : (100 : Int32) = zi 100) (rfl : zi a1 = zi a1)) (rfl : zi a3 = zi a3)) (by decide : (1 : Int32) = zi 1)) g3 g4.1 g4.2, ?_⟩
  intro xy5 exy5
  obtain ⟨y5, eyy5⟩ : ∃ q9 : Int, q9 = (J (o + 12) (((100 * a1) + a3) - 1).toNat) := ⟨_, rfl⟩
  have hv := hv y5 eyy5
  have Ey5 : xy5 = zi y5 := exy5.trans (((zrd (zs (za (zm (by decide : (100 : Int32) = zi 100) (rfl : zi a1 = zi a1)) (rfl : zi a3 = zi a3)) (by decide : (1 : Int32) = zi 1)) g3 g4.1)).trans (congrArg zi eyy5.symm))
  have Iy5 : ir y5 := by rw [eyy5]; exact (hJ _ _)
  clear exy5
  obtain ⟨g6, hv⟩ := hv
  obtain ⟨g7, hv⟩ := hv
  obtain ⟨g8, hv⟩ := hv
  obtain ⟨g9, hv⟩ := hv
  refine ⟨zvp (zs (za (zm (by decide : (100 : Int32) = zi 100) (rfl : zi a2 = zi a2)) (rfl : zi a3 = zi a3)) (by decide : (1 : Int32) = zi 1)) g8 g9.1 g9.2, ?_⟩
  intro xy10 exy10
  obtain ⟨y10, eyy10⟩ : ∃ q9 : Int, q9 = (J (o + 12) (((100 * a2) + a3) - 1).toNat) := ⟨_, rfl⟩
  have hv := hv y10 eyy10
  have Ey10 : xy10 = zi y10 := exy10.trans (((zrd (zs (za (zm (by decide : (100 : Int32) = zi 100) (rfl : zi a2 = zi a2)) (rfl : zi a3 = zi a3)) (by decide : (1 : Int32) = zi 1)) g8 g9.1)).trans (congrArg zi eyy10.symm))
  have Iy10 : ir y10 := by rw [eyy10]; exact (hJ _ _)
  clear exy10
  obtain ⟨g11, hv⟩ := hv
  obtain ⟨g12, hv⟩ := hv
  obtain ⟨g13, hv⟩ := hv
  refine ⟨zvp (za (zm (by decide : (100 : Int32) = zi 100) (rfl : zi a1 = zi a1)) (rfl : zi a3 = zi a3)) g12 g13.1 g13.2, ?_⟩
  intro xy14 exy14
  obtain ⟨y14, eyy14⟩ : ∃ q9 : Int, q9 = (J (o + 12) ((100 * a1) + a3).toNat) := ⟨_, rfl⟩
  have hv := hv y14 eyy14
  have Ey14 : xy14 = zi y14 := exy14.trans (((zrd (za (zm (by decide : (100 : Int32) = zi 100) (rfl : zi a1 = zi a1)) (rfl : zi a3 = zi a3)) g12 g13.1)).trans (congrArg zi eyy14.symm))
  have Iy14 : ir y14 := by rw [eyy14]; exact (hJ _ _)
  clear exy14
  obtain ⟨g15, hv⟩ := hv
  obtain ⟨g16, hv⟩ := hv
  obtain ⟨g17, hv⟩ := hv
  refine ⟨zvp (za (zm (by decide : (100 : Int32) = zi 100) (rfl : zi a2 = zi a2)) (rfl : zi a3 = zi a3)) g16 g17.1 g17.2, ?_⟩
  intro xy18 exy18
  obtain ⟨y18, eyy18⟩ : ∃ q9 : Int, q9 = (J (o + 12) ((100 * a2) + a3).toNat) := ⟨_, rfl⟩
  have hv := hv y18 eyy18
  have Ey18 : xy18 = zi y18 := exy18.trans (((zrd (za (zm (by decide : (100 : Int32) = zi 100) (rfl : zi a2 = zi a2)) (rfl : zi a3 = zi a3)) g16 g17.1)).trans (congrArg zi eyy18.symm))
  have Iy18 : ir y18 := by rw [eyy18]; exact (hJ _ _)
  clear exy18
  refine ⟨fun cq => ?_, fun cq => ?_⟩
  · have hv := hv.1 ((zeq Ey5 (by decide : ((-1) : Int32) = zi (-1)) Iy5 (by decide : ir (-1))).mp cq)
    exact hp _ hv
  · have hv := hv.2 (fun q => cq ((zeq Ey5 (by decide : ((-1) : Int32) = zi (-1)) Iy5 (by decide : ir (-1))).mpr q))
    refine ⟨fun cq => ?_, fun cq => ?_⟩
    · have hv := hv.1 ((zeq Ey10 (by decide : ((-1) : Int32) = zi (-1)) Iy10 (by decide : ir (-1))).mp cq)
      exact hp _ hv
    · have hv := hv.2 (fun q => cq ((zeq Ey10 (by decide : ((-1) : Int32) = zi (-1)) Iy10 (by decide : ir (-1))).mpr q))
      refine ⟨fun cq => ?_, fun cq => ?_⟩
      · have hv := hv.1 ((zlt Ey10 Ey5 Iy10 Iy5).mp cq)
        exact vw_X12_isPass_82 hJ ia1 ia2 ia3 hp Ey5 Iy5 Ey10 Iy10 Ey14 Iy14 Ey18 Iy18 hv
      · have hv := hv.2 (fun q => cq ((zlt Ey10 Ey5 Iy10 Iy5).mpr q))
        refine ⟨fun cq => ?_, fun cq => ?_⟩
        · have hv := hv.1 ((zlt Ey18 Ey14 Iy18 Iy14).mp cq)
          exact hp _ hv
        · have hv := hv.2 (fun q => cq ((zlt Ey18 Ey14 Iy18 Iy14).mpr q))
          exact vw_X12_isPass_82 hJ ia1 ia2 ia3 hp Ey5 Iy5 Ey10 Iy10 Ey14 Iy14 Ey18 Iy18 hv
def v_X12_meet_99 (o : Nat) (a1 : Int) (a2 : Int) (a3 : Int) (a4 : Int) (post' : Int → mJ → Prop) (k41' : mJ → Int → Int → Prop) (J : mJ) (v5 : Int) (v6 : Int) : Prop := (a4 = 0 → ir (v5 + 0) ∧ ∀ y16, y16 = (v5 + 0) → ir (v6 + 1) ∧ ∀ y18, y18 = v6 + 1 → k41' J y16 y18) ∧ (¬ a4 = 0 → (v6 ≤ 0 → ir (v5 + 0) ∧ ∀ y20, y20 = (v5 + 0) → ir (v6 + 1) ∧ ∀ y22, y22 = v6 + 1 → k41' J y20 y22) ∧ (¬ v6 ≤ 0 → v_X12_isPass J o a2 a3 v6 (fun b23 => (b23 = false → ir (v5 + 0) ∧ ∀ y25, y25 = (v5 + 0) → ir (v6 + 1) ∧ ∀ y27, y27 = v6 + 1 → k41' J y25 y27) ∧ (b23 = true → ir (v5 + 1) ∧ ∀ y29, y29 = (v5 + 1) → ir (v6 + 1) ∧ ∀ y31, y31 = v6 + 1 → k41' J y29 y31))))
theorem vw_X12_meet_99 {o : Nat} {a1 : Int} {a2 : Int} {a3 : Int} {a4 : Int}  (ia1 : ir a1) (ia2 : ir a2) (ia3 : ir a3) (ia4 : ir a4) {post : Int32 → mI → Prop} {post' : Int → mJ → Prop} {k41' : mJ → Int → Int → Prop} {k41 : mI → Int32 → Int32 → Prop} (hp : ∀ (x : Int32) (r : Int) (J1 : mJ), x = zi r → ir r → irm J1 → post' r J1 → post x (zz J1)) (hk41 : ∀ (J : mJ) (xv5 : Int32) (v5 : Int) (xv6 : Int32) (v6 : Int), irm J → xv5 = zi v5 → ir v5 → xv6 = zi v6 → ir v6 → k41' J v5 v6 → k41 (zz J) xv5 xv6) {J : mJ} {xv5 : Int32} {v5 : Int} {xv6 : Int32} {v6 : Int} (hJ : irm J) (ev5 : xv5 = zi v5) (iv5 : ir v5) (ev6 : xv6 = zi v6) (iv6 : ir v6) (hv : v_X12_meet_99 o a1 a2 a3 a4 post' k41' J v5 v6) : w_X12_meet_99 o (zi a1) (zi a2) (zi a3) (zi a4) post k41 (zz J) xv5 xv6 := by
  subst ev5
  subst ev6
  unfold v_X12_meet_99 at hv
  unfold w_X12_meet_99
  refine ⟨fun cq => ?_, fun cq => ?_⟩
  · have hv := hv.1 ((zeq (rfl : zi a4 = zi a4) (by decide : (0 : Int32) = zi 0) ia4 (by decide : ir 0)).mp cq)
    obtain ⟨g15, hv⟩ := hv
    intro xy16 exy16
    obtain ⟨y16, eyy16⟩ : ∃ q9 : Int, q9 = (v5 + 0) := ⟨_, rfl⟩
    have hv := hv y16 eyy16
    have Ey16 : xy16 = zi y16 := exy16.trans (((za (rfl : zi v5 = zi v5) (by decide : (0 : Int32) = zi 0))).trans (congrArg zi eyy16.symm))
    have Iy16 : ir y16 := by rw [eyy16]; exact g15
    clear exy16
    obtain ⟨g17, hv⟩ := hv
    intro xy18 exy18
    obtain ⟨y18, eyy18⟩ : ∃ q9 : Int, q9 = v6 + 1 := ⟨_, rfl⟩
    have hv := hv y18 eyy18
    have Ey18 : xy18 = zi y18 := exy18.trans (((za (rfl : zi v6 = zi v6) (by decide : (1 : Int32) = zi 1))).trans (congrArg zi eyy18.symm))
    have Iy18 : ir y18 := by rw [eyy18]; exact g17
    clear exy18
    exact hk41 _ _ _ _ _ hJ Ey16 Iy16 Ey18 Iy18 hv
  · have hv := hv.2 (fun q => cq ((zeq (rfl : zi a4 = zi a4) (by decide : (0 : Int32) = zi 0) ia4 (by decide : ir 0)).mpr q))
    refine ⟨fun cq => ?_, fun cq => ?_⟩
    · have hv := hv.1 ((zle (rfl : zi v6 = zi v6) (by decide : (0 : Int32) = zi 0) iv6 (by decide : ir 0)).mp cq)
      obtain ⟨g19, hv⟩ := hv
      intro xy20 exy20
      obtain ⟨y20, eyy20⟩ : ∃ q9 : Int, q9 = (v5 + 0) := ⟨_, rfl⟩
      have hv := hv y20 eyy20
      have Ey20 : xy20 = zi y20 := exy20.trans (((za (rfl : zi v5 = zi v5) (by decide : (0 : Int32) = zi 0))).trans (congrArg zi eyy20.symm))
      have Iy20 : ir y20 := by rw [eyy20]; exact g19
      clear exy20
      obtain ⟨g21, hv⟩ := hv
      intro xy22 exy22
      obtain ⟨y22, eyy22⟩ : ∃ q9 : Int, q9 = v6 + 1 := ⟨_, rfl⟩
      have hv := hv y22 eyy22
      have Ey22 : xy22 = zi y22 := exy22.trans (((za (rfl : zi v6 = zi v6) (by decide : (1 : Int32) = zi 1))).trans (congrArg zi eyy22.symm))
      have Iy22 : ir y22 := by rw [eyy22]; exact g21
      clear exy22
      exact hk41 _ _ _ _ _ hJ Ey20 Iy20 Ey22 Iy22 hv
    · have hv := hv.2 (fun q => cq ((zle (rfl : zi v6 = zi v6) (by decide : (0 : Int32) = zi 0) iv6 (by decide : ir 0)).mpr q))
      refine vw_X12_isPass hJ (rfl : zi a2 = zi a2) ia2 (rfl : zi a3 = zi a3) ia3 (rfl : zi v6 = zi v6) iv6 (fun b23  hv => ?_) hv
      refine ⟨fun cq => ?_, fun cq => ?_⟩
      · have hv := hv.1 cq
        obtain ⟨g24, hv⟩ := hv
        intro xy25 exy25
        obtain ⟨y25, eyy25⟩ : ∃ q9 : Int, q9 = (v5 + 0) := ⟨_, rfl⟩
        have hv := hv y25 eyy25
        have Ey25 : xy25 = zi y25 := exy25.trans (((za (rfl : zi v5 = zi v5) (by decide : (0 : Int32) = zi 0))).trans (congrArg zi eyy25.symm))
        have Iy25 : ir y25 := by rw [eyy25]; exact g24
        clear exy25
        obtain ⟨g26, hv⟩ := hv
        intro xy27 exy27
        obtain ⟨y27, eyy27⟩ : ∃ q9 : Int, q9 = v6 + 1 := ⟨_, rfl⟩
        have hv := hv y27 eyy27
        have Ey27 : xy27 = zi y27 := exy27.trans (((za (rfl : zi v6 = zi v6) (by decide : (1 : Int32) = zi 1))).trans (congrArg zi eyy27.symm))
        have Iy27 : ir y27 := by rw [eyy27]; exact g26
        clear exy27
        exact hk41 _ _ _ _ _ hJ Ey25 Iy25 Ey27 Iy27 hv
      · have hv := hv.2 cq
        obtain ⟨g28, hv⟩ := hv
        intro xy29 exy29
        obtain ⟨y29, eyy29⟩ : ∃ q9 : Int, q9 = (v5 + 1) := ⟨_, rfl⟩
        have hv := hv y29 eyy29
        have Ey29 : xy29 = zi y29 := exy29.trans (((za (rfl : zi v5 = zi v5) (by decide : (1 : Int32) = zi 1))).trans (congrArg zi eyy29.symm))
        have Iy29 : ir y29 := by rw [eyy29]; exact g28
        clear exy29
        obtain ⟨g30, hv⟩ := hv
        intro xy31 exy31
        obtain ⟨y31, eyy31⟩ : ∃ q9 : Int, q9 = v6 + 1 := ⟨_, rfl⟩
        have hv := hv y31 eyy31
        have Ey31 : xy31 = zi y31 := exy31.trans (((za (rfl : zi v6 = zi v6) (by decide : (1 : Int32) = zi 1))).trans (congrArg zi eyy31.symm))
        have Iy31 : ir y31 := by rw [eyy31]; exact g30
        clear exy31
        exact hk41 _ _ _ _ _ hJ Ey29 Iy29 Ey31 Iy31 hv
def v_X12_meet_41 (o : Nat) (a1 : Int) (a2 : Int) (a3 : Int) (a4 : Int) (post' : Int → mJ → Prop) (k136' : mJ → Int → Prop) (J : mJ) (v5 : Int) (v6 : Int) : Prop := ∀ ZZ : (mJ → Int → Int → Prop), (∀ (J : mJ) (v5 : Int) (v6 : Int), ((100 ≤ v6 → k136' J v5) ∧ (¬ 100 ≤ v6 → (¬ a4 = 0 → (v_X12_meet_99 o a1 a2 a3 a4 post' ZZ) J v5 v6) ∧ (a4 = 0 → ir (100 * a2) ∧ ir ((100 * a2) + v6) ∧ (0 ≤ ((100 * a2) + v6) ∧ ((100 * a2) + v6) < 600) ∧ ((J (o + 12) ((100 * a2) + v6).toNat) = (-1) → (v_X12_meet_99 o a1 a2 a3 a4 post' ZZ) J v5 v6) ∧ (¬ (J (o + 12) ((100 * a2) + v6).toNat) = (-1) → ir (100 * a2) ∧ ir ((100 * a2) + v6) ∧ (0 ≤ ((100 * a2) + v6) ∧ ((100 * a2) + v6) < 600) ∧ ir (100 * a3) ∧ ir ((100 * a3) + v6) ∧ (0 ≤ ((100 * a3) + v6) ∧ ((100 * a3) + v6) < 600) ∧ (¬ (J (o + 12) ((100 * a2) + v6).toNat) = (J (o + 12) ((100 * a3) + v6).toNat) → (v_X12_meet_99 o a1 a2 a3 a4 post' ZZ) J v5 v6) ∧ ((J (o + 12) ((100 * a2) + v6).toNat) = (J (o + 12) ((100 * a3) + v6).toNat) → post' v6 J))))) → ZZ J v5 v6) → ZZ J v5 v6
theorem vw_X12_meet_41 {o : Nat} {a1 : Int} {a2 : Int} {a3 : Int} {a4 : Int}  (ia1 : ir a1) (ia2 : ir a2) (ia3 : ir a3) (ia4 : ir a4) {post : Int32 → mI → Prop} {post' : Int → mJ → Prop} {k136' : mJ → Int → Prop} {k136 : mI → Int32 → Prop} (hp : ∀ (x : Int32) (r : Int) (J1 : mJ), x = zi r → ir r → irm J1 → post' r J1 → post x (zz J1)) (hk136 : ∀ (J : mJ) (xv5 : Int32) (v5 : Int), irm J → xv5 = zi v5 → ir v5 → k136' J v5 → k136 (zz J) xv5) {J : mJ} {xv5 : Int32} {v5 : Int} {xv6 : Int32} {v6 : Int} (hJ : irm J) (ev5 : xv5 = zi v5) (iv5 : ir v5) (ev6 : xv6 = zi v6) (iv6 : ir v6) (hv : v_X12_meet_41 o a1 a2 a3 a4 post' k136' J v5 v6) : w_X12_meet_41 o (zi a1) (zi a2) (zi a3) (zi a4) post k136 (zz J) xv5 xv6 := by
  subst ev5
  subst ev6
  unfold v_X12_meet_41 at hv
  unfold w_X12_meet_41
  intro ZZ hZ
  refine hv (fun J v5 v6 => ∀ (xv5 : Int32) (xv6 : Int32), irm J → xv5 = zi v5 → ir v5 → xv6 = zi v6 → ir v6 → ZZ (zz J) xv5 xv6) ?_ _ _ hJ rfl iv5 rfl iv6
  clear hv hJ iv5 iv6
  intro J v5 v6 hv xv5 xv6 hJ ev5 iv5 ev6 iv6
  subst ev5
  subst ev6
  refine hZ _ _ _ ?_
  refine ⟨fun cq => ?_, fun cq => ?_⟩
  · have hv := hv.1 ((zle (by decide : (100 : Int32) = zi 100) (rfl : zi v6 = zi v6) (by decide : ir 100) iv6).mp cq)
    exact hk136 _ _ _ hJ (rfl : zi v5 = zi v5) iv5 hv
  · have hv := hv.2 (fun q => cq ((zle (by decide : (100 : Int32) = zi 100) (rfl : zi v6 = zi v6) (by decide : ir 100) iv6).mpr q))
    refine ⟨fun cq => ?_, fun cq => ?_⟩
    · have hv := hv.1 (fun q => cq ((zeq (rfl : zi a4 = zi a4) (by decide : (0 : Int32) = zi 0) ia4 (by decide : ir 0)).mpr q))
      refine vw_X12_meet_99 ia1 ia2 ia3 ia4 hp ?_ hJ (rfl : zi v5 = zi v5) iv5 (rfl : zi v6 = zi v6) iv6 hv
      · intro qq xx vv xx vv hJ ev5 iv5 ev6 iv6 hv
        exact hv _ _ hJ ev5 iv5 ev6 iv6
    · have hv := hv.2 ((zeq (rfl : zi a4 = zi a4) (by decide : (0 : Int32) = zi 0) ia4 (by decide : ir 0)).mp cq)
      obtain ⟨g6, hv⟩ := hv
      obtain ⟨g7, hv⟩ := hv
      obtain ⟨g8, hv⟩ := hv
      refine ⟨zvp (za (zm (by decide : (100 : Int32) = zi 100) (rfl : zi a2 = zi a2)) (rfl : zi v6 = zi v6)) g7 g8.1 g8.2, ?_⟩
      refine ⟨fun cq => ?_, fun cq => ?_⟩
      · have hv := hv.1 ((zeq (zrd (za (zm (by decide : (100 : Int32) = zi 100) (rfl : zi a2 = zi a2)) (rfl : zi v6 = zi v6)) g7 g8.1) (by decide : ((-1) : Int32) = zi (-1)) (hJ _ _) (by decide : ir (-1))).mp cq)
        refine vw_X12_meet_99 ia1 ia2 ia3 ia4 hp ?_ hJ (rfl : zi v5 = zi v5) iv5 (rfl : zi v6 = zi v6) iv6 hv
        · intro qq xx vv xx vv hJ ev5 iv5 ev6 iv6 hv
          exact hv _ _ hJ ev5 iv5 ev6 iv6
      · have hv := hv.2 (fun q => cq ((zeq (zrd (za (zm (by decide : (100 : Int32) = zi 100) (rfl : zi a2 = zi a2)) (rfl : zi v6 = zi v6)) g7 g8.1) (by decide : ((-1) : Int32) = zi (-1)) (hJ _ _) (by decide : ir (-1))).mpr q))
        obtain ⟨g9, hv⟩ := hv
        obtain ⟨g10, hv⟩ := hv
        obtain ⟨g11, hv⟩ := hv
        refine ⟨zvp (za (zm (by decide : (100 : Int32) = zi 100) (rfl : zi a2 = zi a2)) (rfl : zi v6 = zi v6)) g10 g11.1 g11.2, ?_⟩
        obtain ⟨g12, hv⟩ := hv
        obtain ⟨g13, hv⟩ := hv
        obtain ⟨g14, hv⟩ := hv
        refine ⟨zvp (za (zm (by decide : (100 : Int32) = zi 100) (rfl : zi a3 = zi a3)) (rfl : zi v6 = zi v6)) g13 g14.1 g14.2, ?_⟩
        refine ⟨fun cq => ?_, fun cq => ?_⟩
        · have hv := hv.1 (fun q => cq ((zeq (zrd (za (zm (by decide : (100 : Int32) = zi 100) (rfl : zi a2 = zi a2)) (rfl : zi v6 = zi v6)) g10 g11.1) (zrd (za (zm (by decide : (100 : Int32) = zi 100) (rfl : zi a3 = zi a3)) (rfl : zi v6 = zi v6)) g13 g14.1) (hJ _ _) (hJ _ _)).mpr q))
          refine vw_X12_meet_99 ia1 ia2 ia3 ia4 hp ?_ hJ (rfl : zi v5 = zi v5) iv5 (rfl : zi v6 = zi v6) iv6 hv
          · intro qq xx vv xx vv hJ ev5 iv5 ev6 iv6 hv
            exact hv _ _ hJ ev5 iv5 ev6 iv6
        · have hv := hv.2 ((zeq (zrd (za (zm (by decide : (100 : Int32) = zi 100) (rfl : zi a2 = zi a2)) (rfl : zi v6 = zi v6)) g10 g11.1) (zrd (za (zm (by decide : (100 : Int32) = zi 100) (rfl : zi a3 = zi a3)) (rfl : zi v6 = zi v6)) g13 g14.1) (hJ _ _) (hJ _ _)).mp cq)
          exact hp _ _ _ (rfl : zi v6 = zi v6) iv6 hJ hv
def v_X12_meet_136 (o : Nat) (a1 : Int) (a2 : Int) (a3 : Int) (a4 : Int) (post' : Int → mJ → Prop) (J : mJ) (v5 : Int) : Prop := (a4 = 0 → post' (-1) J) ∧ (¬ a4 = 0 → post' v5 J)
theorem vw_X12_meet_136 {o : Nat} {a1 : Int} {a2 : Int} {a3 : Int} {a4 : Int}  (ia1 : ir a1) (ia2 : ir a2) (ia3 : ir a3) (ia4 : ir a4) {post : Int32 → mI → Prop} {post' : Int → mJ → Prop} (hp : ∀ (x : Int32) (r : Int) (J1 : mJ), x = zi r → ir r → irm J1 → post' r J1 → post x (zz J1)) {J : mJ} {xv5 : Int32} {v5 : Int} (hJ : irm J) (ev5 : xv5 = zi v5) (iv5 : ir v5) (hv : v_X12_meet_136 o a1 a2 a3 a4 post' J v5) : w_X12_meet_136 o (zi a1) (zi a2) (zi a3) (zi a4) post (zz J) xv5 := by
  subst ev5
  unfold v_X12_meet_136 at hv
  unfold w_X12_meet_136
  refine ⟨fun cq => ?_, fun cq => ?_⟩
  · have hv := hv.1 ((zeq (rfl : zi a4 = zi a4) (by decide : (0 : Int32) = zi 0) ia4 (by decide : ir 0)).mp cq)
    exact hp _ _ _ (by decide : ((-1) : Int32) = zi (-1)) (by decide : ir (-1)) hJ hv
  · have hv := hv.2 (fun q => cq ((zeq (rfl : zi a4 = zi a4) (by decide : (0 : Int32) = zi 0) ia4 (by decide : ir 0)).mpr q))
    exact hp _ _ _ (rfl : zi v5 = zi v5) iv5 hJ hv
def v_X12_meet (J : mJ) (o : Nat) (a1 : Int) (a2 : Int) (a3 : Int) (a4 : Int) (post' : Int → mJ → Prop) : Prop := v_X12_isHouse J o a1 (fun b1 J2 => (b1 = false → post' (-1) J2) ∧ (b1 = true → v_X12_isPerson J2 o a2 (fun b3 => (b3 = false → post' (-1) J2) ∧ (b3 = true → v_X12_isPerson J2 o a3 (fun b4 => (b4 = false → post' (-1) J2) ∧ (b4 = true → (¬ a2 = a3 → v_X12_runs J2 o (fun J5 => (v_X12_meet_41 o a1 a2 a3 a4 post' (v_X12_meet_136 o a1 a2 a3 a4 post')) J5 0 0)) ∧ (a2 = a3 → post' (-1) J2)))))))
theorem vw_X12_meet {J : mJ} {o : Nat} {xa1 : Int32} {a1 : Int} {xa2 : Int32} {a2 : Int} {xa3 : Int32} {a3 : Int} {xa4 : Int32} {a4 : Int} (hJ : irm J)   (ea1 : xa1 = zi a1) (ia1 : ir a1) (ea2 : xa2 = zi a2) (ia2 : ir a2) (ea3 : xa3 = zi a3) (ia3 : ir a3) (ea4 : xa4 = zi a4) (ia4 : ir a4) {post : Int32 → mI → Prop} {post' : Int → mJ → Prop} (hp : ∀ (x : Int32) (r : Int) (J1 : mJ), x = zi r → ir r → irm J1 → post' r J1 → post x (zz J1)) (hv : v_X12_meet J o a1 a2 a3 a4 post') : w_X12_meet (zz J) o xa1 xa2 xa3 xa4 post := by
  subst ea1
  subst ea2
  subst ea3
  subst ea4
  unfold v_X12_meet at hv
  unfold w_X12_meet
  refine vw_X12_isHouse hJ (rfl : zi a1 = zi a1) ia1 (fun b1 J2 hJ hv => ?_) hv
  refine ⟨fun cq => ?_, fun cq => ?_⟩
  · have hv := hv.1 cq
    exact hp _ _ _ (by decide : ((-1) : Int32) = zi (-1)) (by decide : ir (-1)) hJ hv
  · have hv := hv.2 cq
    refine vw_X12_isPerson hJ (rfl : zi a2 = zi a2) ia2 (fun b3  hv => ?_) hv
    refine ⟨fun cq => ?_, fun cq => ?_⟩
    · have hv := hv.1 cq
      exact hp _ _ _ (by decide : ((-1) : Int32) = zi (-1)) (by decide : ir (-1)) hJ hv
    · have hv := hv.2 cq
      refine vw_X12_isPerson hJ (rfl : zi a3 = zi a3) ia3 (fun b4  hv => ?_) hv
      refine ⟨fun cq => ?_, fun cq => ?_⟩
      · have hv := hv.1 cq
        exact hp _ _ _ (by decide : ((-1) : Int32) = zi (-1)) (by decide : ir (-1)) hJ hv
      · have hv := hv.2 cq
        refine ⟨fun cq => ?_, fun cq => ?_⟩
        · have hv := hv.1 (fun q => cq ((zeq (rfl : zi a2 = zi a2) (rfl : zi a3 = zi a3) ia2 ia3).mpr q))
          refine vw_X12_runs hJ  (fun J5 hJ hv => ?_) hv
          refine vw_X12_meet_41 ia1 ia2 ia3 ia4 hp ?_ hJ (by decide : (0 : Int32) = zi 0) (by decide : ir 0) (by decide : (0 : Int32) = zi 0) (by decide : ir 0) hv
          · intro qq xx vv hJ ev5 iv5 hv
            exact vw_X12_meet_136 ia1 ia2 ia3 ia4 hp hJ ev5 iv5 hv
        · have hv := hv.2 ((zeq (rfl : zi a2 = zi a2) (rfl : zi a3 = zi a3) ia2 ia3).mp cq)
          exact hp _ _ _ (by decide : ((-1) : Int32) = zi (-1)) (by decide : ir (-1)) hJ hv
def v_X12_hollow_18 (J : mJ) (o : Nat) (post' : Int → Prop) (k74' : Int → Int → Int → Int → Prop) (v1 : Int) (v2 : Int) (v3 : Int) (v4 : Int) (v5 : Int) : Prop := ∀ ZZ : (Int → Int → Int → Int → Int → Prop), (∀ (v1 : Int) (v2 : Int) (v3 : Int) (v4 : Int) (v5 : Int), (((J o 25) ≤ v5 → k74' v1 v2 v3 v4) ∧ (¬ (J o 25) ≤ v5 → (¬ v4 = 0 → ir (v5 + 1) ∧ ∀ y2, y2 = v5 + 1 → ZZ v1 v2 v3 1 y2) ∧ (v4 = 0 → (0 ≤ v5 ∧ v5 < 640) ∧ (¬ (J (o + 6) v5.toNat) = v3 → ir (v5 + 1) ∧ ∀ y5, y5 = v5 + 1 → ZZ v1 v2 v3 0 y5) ∧ ((J (o + 6) v5.toNat) = v3 → (0 ≤ v5 ∧ v5 < 640) ∧ (0 ≤ v5 ∧ v5 < 640) ∧ ((orZ (J (o + 10) v5.toNat) (J (o + 11) v5.toNat)) = 0 → ir (v5 + 1) ∧ ∀ y9, y9 = v5 + 1 → ZZ v1 v2 v3 0 y9) ∧ (¬ (orZ (J (o + 10) v5.toNat) (J (o + 11) v5.toNat)) = 0 → ir (v5 + 1) ∧ ∀ y11, y11 = v5 + 1 → ZZ v1 v2 v3 1 y11))))) → ZZ v1 v2 v3 v4 v5) → ZZ v1 v2 v3 v4 v5
theorem vw_X12_hollow_18 {J : mJ} {o : Nat} (hJ : irm J)  {post : Int32 → Prop} {post' : Int → Prop} {k74' : Int → Int → Int → Int → Prop} {k74 : Int32 → Int32 → Int32 → Int32 → Prop} (hp : ∀ (x : Int32) (r : Int), x = zi r → ir r → post' r → post x) (hk74 : ∀ (xv1 : Int32) (v1 : Int) (xv2 : Int32) (v2 : Int) (xv3 : Int32) (v3 : Int) (xv4 : Int32) (v4 : Int), xv1 = zi v1 → ir v1 → xv2 = zi v2 → ir v2 → xv3 = zi v3 → ir v3 → xv4 = zi v4 → ir v4 → k74' v1 v2 v3 v4 → k74 xv1 xv2 xv3 xv4) {xv1 : Int32} {v1 : Int} {xv2 : Int32} {v2 : Int} {xv3 : Int32} {v3 : Int} {xv4 : Int32} {v4 : Int} {xv5 : Int32} {v5 : Int} (ev1 : xv1 = zi v1) (iv1 : ir v1) (ev2 : xv2 = zi v2) (iv2 : ir v2) (ev3 : xv3 = zi v3) (iv3 : ir v3) (ev4 : xv4 = zi v4) (iv4 : ir v4) (ev5 : xv5 = zi v5) (iv5 : ir v5) (hv : v_X12_hollow_18 J o post' k74' v1 v2 v3 v4 v5) : w_X12_hollow_18 (zz J) o post k74 xv1 xv2 xv3 xv4 xv5 := by
  subst ev1
  subst ev2
  subst ev3
  subst ev4
  subst ev5
  unfold v_X12_hollow_18 at hv
  unfold w_X12_hollow_18
  intro ZZ hZ
  refine hv (fun v1 v2 v3 v4 v5 => ∀ (xv1 : Int32) (xv2 : Int32) (xv3 : Int32) (xv4 : Int32) (xv5 : Int32), xv1 = zi v1 → ir v1 → xv2 = zi v2 → ir v2 → xv3 = zi v3 → ir v3 → xv4 = zi v4 → ir v4 → xv5 = zi v5 → ir v5 → ZZ xv1 xv2 xv3 xv4 xv5) ?_ _ _ _ _ _ rfl iv1 rfl iv2 rfl iv3 rfl iv4 rfl iv5
  clear hv iv1 iv2 iv3 iv4 iv5
  intro v1 v2 v3 v4 v5 hv xv1 xv2 xv3 xv4 xv5 ev1 iv1 ev2 iv2 ev3 iv3 ev4 iv4 ev5 iv5
  subst ev1
  subst ev2
  subst ev3
  subst ev4
  subst ev5
  refine hZ _ _ _ _ _ ?_
  refine ⟨fun cq => ?_, fun cq => ?_⟩
  · have hv := hv.1 ((zle zrf (rfl : zi v5 = zi v5) (hJ _ _) iv5).mp cq)
    exact hk74 _ _ _ _ _ _ _ _ (rfl : zi v1 = zi v1) iv1 (rfl : zi v2 = zi v2) iv2 (rfl : zi v3 = zi v3) iv3 (rfl : zi v4 = zi v4) iv4 hv
  · have hv := hv.2 (fun q => cq ((zle zrf (rfl : zi v5 = zi v5) (hJ _ _) iv5).mpr q))
    refine ⟨fun cq => ?_, fun cq => ?_⟩
    · have hv := hv.1 (fun q => cq ((zeq (rfl : zi v4 = zi v4) (by decide : (0 : Int32) = zi 0) iv4 (by decide : ir 0)).mpr q))
      obtain ⟨g1, hv⟩ := hv
      intro xy2 exy2
      obtain ⟨y2, eyy2⟩ : ∃ q9 : Int, q9 = v5 + 1 := ⟨_, rfl⟩
      have hv := hv y2 eyy2
      have Ey2 : xy2 = zi y2 := exy2.trans (((za (rfl : zi v5 = zi v5) (by decide : (1 : Int32) = zi 1))).trans (congrArg zi eyy2.symm))
      have Iy2 : ir y2 := by rw [eyy2]; exact g1
      clear exy2
      exact hv _ _ _ _ _ (rfl : zi v1 = zi v1) iv1 (rfl : zi v2 = zi v2) iv2 (rfl : zi v3 = zi v3) iv3 (by decide : (1 : Int32) = zi 1) (by decide : ir 1) Ey2 Iy2
    · have hv := hv.2 ((zeq (rfl : zi v4 = zi v4) (by decide : (0 : Int32) = zi 0) iv4 (by decide : ir 0)).mp cq)
      obtain ⟨g3, hv⟩ := hv
      refine ⟨zvp (rfl : zi v5 = zi v5) iv5 g3.1 g3.2, ?_⟩
      refine ⟨fun cq => ?_, fun cq => ?_⟩
      · have hv := hv.1 (fun q => cq ((zeq (zrd (rfl : zi v5 = zi v5) iv5 g3.1) (rfl : zi v3 = zi v3) (hJ _ _) iv3).mpr q))
        obtain ⟨g4, hv⟩ := hv
        intro xy5 exy5
        obtain ⟨y5, eyy5⟩ : ∃ q9 : Int, q9 = v5 + 1 := ⟨_, rfl⟩
        have hv := hv y5 eyy5
        have Ey5 : xy5 = zi y5 := exy5.trans (((za (rfl : zi v5 = zi v5) (by decide : (1 : Int32) = zi 1))).trans (congrArg zi eyy5.symm))
        have Iy5 : ir y5 := by rw [eyy5]; exact g4
        clear exy5
        exact hv _ _ _ _ _ (rfl : zi v1 = zi v1) iv1 (rfl : zi v2 = zi v2) iv2 (rfl : zi v3 = zi v3) iv3 (by decide : (0 : Int32) = zi 0) (by decide : ir 0) Ey5 Iy5
      · have hv := hv.2 ((zeq (zrd (rfl : zi v5 = zi v5) iv5 g3.1) (rfl : zi v3 = zi v3) (hJ _ _) iv3).mp cq)
        obtain ⟨g6, hv⟩ := hv
        refine ⟨zvp (rfl : zi v5 = zi v5) iv5 g6.1 g6.2, ?_⟩
        obtain ⟨g7, hv⟩ := hv
        refine ⟨zvp (rfl : zi v5 = zi v5) iv5 g7.1 g7.2, ?_⟩
        refine ⟨fun cq => ?_, fun cq => ?_⟩
        · have hv := hv.1 ((zeq (z_or (zrd (rfl : zi v5 = zi v5) iv5 g6.1) (zrd (rfl : zi v5 = zi v5) iv5 g7.1)) (by decide : (0 : Int32) = zi 0) (ir_toInt _) (by decide : ir 0)).mp cq)
          obtain ⟨g8, hv⟩ := hv
          intro xy9 exy9
          obtain ⟨y9, eyy9⟩ : ∃ q9 : Int, q9 = v5 + 1 := ⟨_, rfl⟩
          have hv := hv y9 eyy9
          have Ey9 : xy9 = zi y9 := exy9.trans (((za (rfl : zi v5 = zi v5) (by decide : (1 : Int32) = zi 1))).trans (congrArg zi eyy9.symm))
          have Iy9 : ir y9 := by rw [eyy9]; exact g8
          clear exy9
          exact hv _ _ _ _ _ (rfl : zi v1 = zi v1) iv1 (rfl : zi v2 = zi v2) iv2 (rfl : zi v3 = zi v3) iv3 (by decide : (0 : Int32) = zi 0) (by decide : ir 0) Ey9 Iy9
        · have hv := hv.2 (fun q => cq ((zeq (z_or (zrd (rfl : zi v5 = zi v5) iv5 g6.1) (zrd (rfl : zi v5 = zi v5) iv5 g7.1)) (by decide : (0 : Int32) = zi 0) (ir_toInt _) (by decide : ir 0)).mpr q))
          obtain ⟨g10, hv⟩ := hv
          intro xy11 exy11
          obtain ⟨y11, eyy11⟩ : ∃ q9 : Int, q9 = v5 + 1 := ⟨_, rfl⟩
          have hv := hv y11 eyy11
          have Ey11 : xy11 = zi y11 := exy11.trans (((za (rfl : zi v5 = zi v5) (by decide : (1 : Int32) = zi 1))).trans (congrArg zi eyy11.symm))
          have Iy11 : ir y11 := by rw [eyy11]; exact g10
          clear exy11
          exact hv _ _ _ _ _ (rfl : zi v1 = zi v1) iv1 (rfl : zi v2 = zi v2) iv2 (rfl : zi v3 = zi v3) iv3 (by decide : (1 : Int32) = zi 1) (by decide : ir 1) Ey11 Iy11
def v_X12_hollow_86 (J : mJ) (o : Nat) (post' : Int → Prop) (k6' : Int → Int → Int → Prop) (v1 : Int) (v3 : Int) (s0 : Int) : Prop := (s0 ≤ v1 → ir (v3 + 1) ∧ ∀ y14, y14 = v3 + 1 → k6' v1 s0 y14) ∧ (¬ s0 ≤ v1 → ir (v3 + 1) ∧ ∀ y16, y16 = v3 + 1 → k6' s0 s0 y16)
theorem vw_X12_hollow_86 {J : mJ} {o : Nat} (hJ : irm J)  {post : Int32 → Prop} {post' : Int → Prop} {k6' : Int → Int → Int → Prop} {k6 : Int32 → Int32 → Int32 → Prop} (hp : ∀ (x : Int32) (r : Int), x = zi r → ir r → post' r → post x) (hk6 : ∀ (xv1 : Int32) (v1 : Int) (xv2 : Int32) (v2 : Int) (xv3 : Int32) (v3 : Int), xv1 = zi v1 → ir v1 → xv2 = zi v2 → ir v2 → xv3 = zi v3 → ir v3 → k6' v1 v2 v3 → k6 xv1 xv2 xv3) {xv1 : Int32} {v1 : Int} {xv3 : Int32} {v3 : Int} {xs0 : Int32} {s0 : Int} (ev1 : xv1 = zi v1) (iv1 : ir v1) (ev3 : xv3 = zi v3) (iv3 : ir v3) (es0 : xs0 = zi s0) (is0 : ir s0) (hv : v_X12_hollow_86 J o post' k6' v1 v3 s0) : w_X12_hollow_86 (zz J) o post k6 xv1 xv3 xs0 := by
  subst ev1
  subst ev3
  subst es0
  unfold v_X12_hollow_86 at hv
  unfold w_X12_hollow_86
  refine ⟨fun cq => ?_, fun cq => ?_⟩
  · have hv := hv.1 ((zle (rfl : zi s0 = zi s0) (rfl : zi v1 = zi v1) is0 iv1).mp cq)
    obtain ⟨g13, hv⟩ := hv
    intro xy14 exy14
    obtain ⟨y14, eyy14⟩ : ∃ q9 : Int, q9 = v3 + 1 := ⟨_, rfl⟩
    have hv := hv y14 eyy14
    have Ey14 : xy14 = zi y14 := exy14.trans (((za (rfl : zi v3 = zi v3) (by decide : (1 : Int32) = zi 1))).trans (congrArg zi eyy14.symm))
    have Iy14 : ir y14 := by rw [eyy14]; exact g13
    clear exy14
    exact hk6 _ _ _ _ _ _ (rfl : zi v1 = zi v1) iv1 (rfl : zi s0 = zi s0) is0 Ey14 Iy14 hv
  · have hv := hv.2 (fun q => cq ((zle (rfl : zi s0 = zi s0) (rfl : zi v1 = zi v1) is0 iv1).mpr q))
    obtain ⟨g15, hv⟩ := hv
    intro xy16 exy16
    obtain ⟨y16, eyy16⟩ : ∃ q9 : Int, q9 = v3 + 1 := ⟨_, rfl⟩
    have hv := hv y16 eyy16
    have Ey16 : xy16 = zi y16 := exy16.trans (((za (rfl : zi v3 = zi v3) (by decide : (1 : Int32) = zi 1))).trans (congrArg zi eyy16.symm))
    have Iy16 : ir y16 := by rw [eyy16]; exact g15
    clear exy16
    exact hk6 _ _ _ _ _ _ (rfl : zi s0 = zi s0) is0 (rfl : zi s0 = zi s0) is0 Ey16 Iy16 hv
def v_X12_hollow_74 (J : mJ) (o : Nat) (post' : Int → Prop) (k6' : Int → Int → Int → Prop) (v1 : Int) (v2 : Int) (v3 : Int) (v4 : Int) : Prop := (v4 = 0 → ir (v2 + 1) ∧ (v_X12_hollow_86 J o post' k6') v1 v3 (v2 + 1)) ∧ (¬ v4 = 0 → (v_X12_hollow_86 J o post' k6') v1 v3 0)
theorem vw_X12_hollow_74 {J : mJ} {o : Nat} (hJ : irm J)  {post : Int32 → Prop} {post' : Int → Prop} {k6' : Int → Int → Int → Prop} {k6 : Int32 → Int32 → Int32 → Prop} (hp : ∀ (x : Int32) (r : Int), x = zi r → ir r → post' r → post x) (hk6 : ∀ (xv1 : Int32) (v1 : Int) (xv2 : Int32) (v2 : Int) (xv3 : Int32) (v3 : Int), xv1 = zi v1 → ir v1 → xv2 = zi v2 → ir v2 → xv3 = zi v3 → ir v3 → k6' v1 v2 v3 → k6 xv1 xv2 xv3) {xv1 : Int32} {v1 : Int} {xv2 : Int32} {v2 : Int} {xv3 : Int32} {v3 : Int} {xv4 : Int32} {v4 : Int} (ev1 : xv1 = zi v1) (iv1 : ir v1) (ev2 : xv2 = zi v2) (iv2 : ir v2) (ev3 : xv3 = zi v3) (iv3 : ir v3) (ev4 : xv4 = zi v4) (iv4 : ir v4) (hv : v_X12_hollow_74 J o post' k6' v1 v2 v3 v4) : w_X12_hollow_74 (zz J) o post k6 xv1 xv2 xv3 xv4 := by
  subst ev1
  subst ev2
  subst ev3
  subst ev4
  unfold v_X12_hollow_74 at hv
  unfold w_X12_hollow_74
  refine ⟨fun cq => ?_, fun cq => ?_⟩
  · have hv := hv.1 ((zeq (rfl : zi v4 = zi v4) (by decide : (0 : Int32) = zi 0) iv4 (by decide : ir 0)).mp cq)
    obtain ⟨g12, hv⟩ := hv
    refine vw_X12_hollow_86 hJ  hp hk6 (rfl : zi v1 = zi v1) iv1 (rfl : zi v3 = zi v3) iv3 (za (rfl : zi v2 = zi v2) (by decide : (1 : Int32) = zi 1)) g12 hv
  · have hv := hv.2 (fun q => cq ((zeq (rfl : zi v4 = zi v4) (by decide : (0 : Int32) = zi 0) iv4 (by decide : ir 0)).mpr q))
    refine vw_X12_hollow_86 hJ  hp hk6 (rfl : zi v1 = zi v1) iv1 (rfl : zi v3 = zi v3) iv3 (by decide : (0 : Int32) = zi 0) (by decide : ir 0) hv
def v_X12_hollow_6 (J : mJ) (o : Nat) (post' : Int → Prop) (v1 : Int) (v2 : Int) (v3 : Int) : Prop := ∀ ZZ : (Int → Int → Int → Prop), (∀ (v1 : Int) (v2 : Int) (v3 : Int), ((100 ≤ v3 → post' v1) ∧ (¬ 100 ≤ v3 → (v_X12_hollow_18 J o post' (v_X12_hollow_74 J o post' ZZ)) v1 v2 v3 0 0)) → ZZ v1 v2 v3) → ZZ v1 v2 v3
theorem vw_X12_hollow_6 {J : mJ} {o : Nat} (hJ : irm J)  {post : Int32 → Prop} {post' : Int → Prop} (hp : ∀ (x : Int32) (r : Int), x = zi r → ir r → post' r → post x) {xv1 : Int32} {v1 : Int} {xv2 : Int32} {v2 : Int} {xv3 : Int32} {v3 : Int} (ev1 : xv1 = zi v1) (iv1 : ir v1) (ev2 : xv2 = zi v2) (iv2 : ir v2) (ev3 : xv3 = zi v3) (iv3 : ir v3) (hv : v_X12_hollow_6 J o post' v1 v2 v3) : w_X12_hollow_6 (zz J) o post xv1 xv2 xv3 := by
  subst ev1
  subst ev2
  subst ev3
  unfold v_X12_hollow_6 at hv
  unfold w_X12_hollow_6
  intro ZZ hZ
  refine hv (fun v1 v2 v3 => ∀ (xv1 : Int32) (xv2 : Int32) (xv3 : Int32), xv1 = zi v1 → ir v1 → xv2 = zi v2 → ir v2 → xv3 = zi v3 → ir v3 → ZZ xv1 xv2 xv3) ?_ _ _ _ rfl iv1 rfl iv2 rfl iv3
  clear hv iv1 iv2 iv3
  intro v1 v2 v3 hv xv1 xv2 xv3 ev1 iv1 ev2 iv2 ev3 iv3
  subst ev1
  subst ev2
  subst ev3
  refine hZ _ _ _ ?_
  refine ⟨fun cq => ?_, fun cq => ?_⟩
  · have hv := hv.1 ((zle (by decide : (100 : Int32) = zi 100) (rfl : zi v3 = zi v3) (by decide : ir 100) iv3).mp cq)
    exact hp _ _ (rfl : zi v1 = zi v1) iv1 hv
  · have hv := hv.2 (fun q => cq ((zle (by decide : (100 : Int32) = zi 100) (rfl : zi v3 = zi v3) (by decide : ir 100) iv3).mpr q))
    refine vw_X12_hollow_18 hJ  hp ?_ (rfl : zi v1 = zi v1) iv1 (rfl : zi v2 = zi v2) iv2 (rfl : zi v3 = zi v3) iv3 (by decide : (0 : Int32) = zi 0) (by decide : ir 0) (by decide : (0 : Int32) = zi 0) (by decide : ir 0) hv
    · intro xx vv xx vv xx vv xx vv ev1 iv1 ev2 iv2 ev3 iv3 ev4 iv4 hv
      refine vw_X12_hollow_74 hJ  hp ?_ ev1 iv1 ev2 iv2 ev3 iv3 ev4 iv4 hv
      · intro xx vv xx vv xx vv ev1 iv1 ev2 iv2 ev3 iv3 hv
        exact hv _ _ _ ev1 iv1 ev2 iv2 ev3 iv3
def v_X12_hollow (J : mJ) (o : Nat) (post' : Int → Prop) : Prop := (v_X12_hollow_6 J o post') 0 0 0
theorem vw_X12_hollow {J : mJ} {o : Nat} (hJ : irm J)   {post : Int32 → Prop} {post' : Int → Prop} (hp : ∀ (x : Int32) (r : Int), x = zi r → ir r → post' r → post x) (hv : v_X12_hollow J o post') : w_X12_hollow (zz J) o post := by
  unfold v_X12_hollow at hv
  unfold w_X12_hollow
  exact vw_X12_hollow_6 hJ  hp (by decide : (0 : Int32) = zi 0) (by decide : ir 0) (by decide : (0 : Int32) = zi 0) (by decide : ir 0) (by decide : (0 : Int32) = zi 0) (by decide : ir 0) hv
def v_X12_busy_30 (J : mJ) (o : Nat) (post' : Int → Prop) (k66' : Int → Int → Int → Int → Prop) (v1 : Int) (v2 : Int) (v3 : Int) (v4 : Int) (v5 : Int) : Prop := ∀ ZZ : (Int → Int → Int → Int → Int → Prop), (∀ (v1 : Int) (v2 : Int) (v3 : Int) (v4 : Int) (v5 : Int), (((J o 25) ≤ v5 → k66' v1 v2 v3 v4) ∧ (¬ (J o 25) ≤ v5 → (0 ≤ v5 ∧ v5 < 640) ∧ (¬ (J (o + 5) v5.toNat) = v3 → ir (v4 + 0) ∧ ∀ y4, y4 = (v4 + 0) → ir (v5 + 1) ∧ ∀ y6, y6 = v5 + 1 → ZZ v1 v2 v3 y4 y6) ∧ ((J (o + 5) v5.toNat) = v3 → ir (v4 + 1) ∧ ∀ y8, y8 = (v4 + 1) → ir (v5 + 1) ∧ ∀ y10, y10 = v5 + 1 → ZZ v1 v2 v3 y8 y10))) → ZZ v1 v2 v3 v4 v5) → ZZ v1 v2 v3 v4 v5
theorem vw_X12_busy_30 {J : mJ} {o : Nat} (hJ : irm J)  {post : Int32 → Prop} {post' : Int → Prop} {k66' : Int → Int → Int → Int → Prop} {k66 : Int32 → Int32 → Int32 → Int32 → Prop} (hp : ∀ (x : Int32) (r : Int), x = zi r → ir r → post' r → post x) (hk66 : ∀ (xv1 : Int32) (v1 : Int) (xv2 : Int32) (v2 : Int) (xv3 : Int32) (v3 : Int) (xv4 : Int32) (v4 : Int), xv1 = zi v1 → ir v1 → xv2 = zi v2 → ir v2 → xv3 = zi v3 → ir v3 → xv4 = zi v4 → ir v4 → k66' v1 v2 v3 v4 → k66 xv1 xv2 xv3 xv4) {xv1 : Int32} {v1 : Int} {xv2 : Int32} {v2 : Int} {xv3 : Int32} {v3 : Int} {xv4 : Int32} {v4 : Int} {xv5 : Int32} {v5 : Int} (ev1 : xv1 = zi v1) (iv1 : ir v1) (ev2 : xv2 = zi v2) (iv2 : ir v2) (ev3 : xv3 = zi v3) (iv3 : ir v3) (ev4 : xv4 = zi v4) (iv4 : ir v4) (ev5 : xv5 = zi v5) (iv5 : ir v5) (hv : v_X12_busy_30 J o post' k66' v1 v2 v3 v4 v5) : w_X12_busy_30 (zz J) o post k66 xv1 xv2 xv3 xv4 xv5 := by
  subst ev1
  subst ev2
  subst ev3
  subst ev4
  subst ev5
  unfold v_X12_busy_30 at hv
  unfold w_X12_busy_30
  intro ZZ hZ
  refine hv (fun v1 v2 v3 v4 v5 => ∀ (xv1 : Int32) (xv2 : Int32) (xv3 : Int32) (xv4 : Int32) (xv5 : Int32), xv1 = zi v1 → ir v1 → xv2 = zi v2 → ir v2 → xv3 = zi v3 → ir v3 → xv4 = zi v4 → ir v4 → xv5 = zi v5 → ir v5 → ZZ xv1 xv2 xv3 xv4 xv5) ?_ _ _ _ _ _ rfl iv1 rfl iv2 rfl iv3 rfl iv4 rfl iv5
  clear hv iv1 iv2 iv3 iv4 iv5
  intro v1 v2 v3 v4 v5 hv xv1 xv2 xv3 xv4 xv5 ev1 iv1 ev2 iv2 ev3 iv3 ev4 iv4 ev5 iv5
  subst ev1
  subst ev2
  subst ev3
  subst ev4
  subst ev5
  refine hZ _ _ _ _ _ ?_
  refine ⟨fun cq => ?_, fun cq => ?_⟩
  · have hv := hv.1 ((zle zrf (rfl : zi v5 = zi v5) (hJ _ _) iv5).mp cq)
    exact hk66 _ _ _ _ _ _ _ _ (rfl : zi v1 = zi v1) iv1 (rfl : zi v2 = zi v2) iv2 (rfl : zi v3 = zi v3) iv3 (rfl : zi v4 = zi v4) iv4 hv
  · have hv := hv.2 (fun q => cq ((zle zrf (rfl : zi v5 = zi v5) (hJ _ _) iv5).mpr q))
    obtain ⟨g2, hv⟩ := hv
    refine ⟨zvp (rfl : zi v5 = zi v5) iv5 g2.1 g2.2, ?_⟩
    refine ⟨fun cq => ?_, fun cq => ?_⟩
    · have hv := hv.1 (fun q => cq ((zeq (zrd (rfl : zi v5 = zi v5) iv5 g2.1) (rfl : zi v3 = zi v3) (hJ _ _) iv3).mpr q))
      obtain ⟨g3, hv⟩ := hv
      intro xy4 exy4
      obtain ⟨y4, eyy4⟩ : ∃ q9 : Int, q9 = (v4 + 0) := ⟨_, rfl⟩
      have hv := hv y4 eyy4
      have Ey4 : xy4 = zi y4 := exy4.trans (((za (rfl : zi v4 = zi v4) (by decide : (0 : Int32) = zi 0))).trans (congrArg zi eyy4.symm))
      have Iy4 : ir y4 := by rw [eyy4]; exact g3
      clear exy4
      obtain ⟨g5, hv⟩ := hv
      intro xy6 exy6
      obtain ⟨y6, eyy6⟩ : ∃ q9 : Int, q9 = v5 + 1 := ⟨_, rfl⟩
      have hv := hv y6 eyy6
      have Ey6 : xy6 = zi y6 := exy6.trans (((za (rfl : zi v5 = zi v5) (by decide : (1 : Int32) = zi 1))).trans (congrArg zi eyy6.symm))
      have Iy6 : ir y6 := by rw [eyy6]; exact g5
      clear exy6
      exact hv _ _ _ _ _ (rfl : zi v1 = zi v1) iv1 (rfl : zi v2 = zi v2) iv2 (rfl : zi v3 = zi v3) iv3 Ey4 Iy4 Ey6 Iy6
    · have hv := hv.2 ((zeq (zrd (rfl : zi v5 = zi v5) iv5 g2.1) (rfl : zi v3 = zi v3) (hJ _ _) iv3).mp cq)
      obtain ⟨g7, hv⟩ := hv
      intro xy8 exy8
      obtain ⟨y8, eyy8⟩ : ∃ q9 : Int, q9 = (v4 + 1) := ⟨_, rfl⟩
      have hv := hv y8 eyy8
      have Ey8 : xy8 = zi y8 := exy8.trans (((za (rfl : zi v4 = zi v4) (by decide : (1 : Int32) = zi 1))).trans (congrArg zi eyy8.symm))
      have Iy8 : ir y8 := by rw [eyy8]; exact g7
      clear exy8
      obtain ⟨g9, hv⟩ := hv
      intro xy10 exy10
      obtain ⟨y10, eyy10⟩ : ∃ q9 : Int, q9 = v5 + 1 := ⟨_, rfl⟩
      have hv := hv y10 eyy10
      have Ey10 : xy10 = zi y10 := exy10.trans (((za (rfl : zi v5 = zi v5) (by decide : (1 : Int32) = zi 1))).trans (congrArg zi eyy10.symm))
      have Iy10 : ir y10 := by rw [eyy10]; exact g9
      clear exy10
      exact hv _ _ _ _ _ (rfl : zi v1 = zi v1) iv1 (rfl : zi v2 = zi v2) iv2 (rfl : zi v3 = zi v3) iv3 Ey8 Iy8 Ey10 Iy10
def v_X12_busy_77 (J : mJ) (o : Nat) (post' : Int → Prop) (k15' : Int → Int → Int → Prop) (v2 : Int) (v3 : Int) (v4 : Int) (s0 : Int) : Prop := (v4 ≤ v2 → ir (v3 + 1) ∧ ∀ y12, y12 = v3 + 1 → k15' s0 v2 y12) ∧ (¬ v4 ≤ v2 → ir (v3 + 1) ∧ ∀ y14, y14 = v3 + 1 → k15' s0 v4 y14)
theorem vw_X12_busy_77 {J : mJ} {o : Nat} (hJ : irm J)  {post : Int32 → Prop} {post' : Int → Prop} {k15' : Int → Int → Int → Prop} {k15 : Int32 → Int32 → Int32 → Prop} (hp : ∀ (x : Int32) (r : Int), x = zi r → ir r → post' r → post x) (hk15 : ∀ (xv1 : Int32) (v1 : Int) (xv2 : Int32) (v2 : Int) (xv3 : Int32) (v3 : Int), xv1 = zi v1 → ir v1 → xv2 = zi v2 → ir v2 → xv3 = zi v3 → ir v3 → k15' v1 v2 v3 → k15 xv1 xv2 xv3) {xv2 : Int32} {v2 : Int} {xv3 : Int32} {v3 : Int} {xv4 : Int32} {v4 : Int} {xs0 : Int32} {s0 : Int} (ev2 : xv2 = zi v2) (iv2 : ir v2) (ev3 : xv3 = zi v3) (iv3 : ir v3) (ev4 : xv4 = zi v4) (iv4 : ir v4) (es0 : xs0 = zi s0) (is0 : ir s0) (hv : v_X12_busy_77 J o post' k15' v2 v3 v4 s0) : w_X12_busy_77 (zz J) o post k15 xv2 xv3 xv4 xs0 := by
  subst ev2
  subst ev3
  subst ev4
  subst es0
  unfold v_X12_busy_77 at hv
  unfold w_X12_busy_77
  refine ⟨fun cq => ?_, fun cq => ?_⟩
  · have hv := hv.1 ((zle (rfl : zi v4 = zi v4) (rfl : zi v2 = zi v2) iv4 iv2).mp cq)
    obtain ⟨g11, hv⟩ := hv
    intro xy12 exy12
    obtain ⟨y12, eyy12⟩ : ∃ q9 : Int, q9 = v3 + 1 := ⟨_, rfl⟩
    have hv := hv y12 eyy12
    have Ey12 : xy12 = zi y12 := exy12.trans (((za (rfl : zi v3 = zi v3) (by decide : (1 : Int32) = zi 1))).trans (congrArg zi eyy12.symm))
    have Iy12 : ir y12 := by rw [eyy12]; exact g11
    clear exy12
    exact hk15 _ _ _ _ _ _ (rfl : zi s0 = zi s0) is0 (rfl : zi v2 = zi v2) iv2 Ey12 Iy12 hv
  · have hv := hv.2 (fun q => cq ((zle (rfl : zi v4 = zi v4) (rfl : zi v2 = zi v2) iv4 iv2).mpr q))
    obtain ⟨g13, hv⟩ := hv
    intro xy14 exy14
    obtain ⟨y14, eyy14⟩ : ∃ q9 : Int, q9 = v3 + 1 := ⟨_, rfl⟩
    have hv := hv y14 eyy14
    have Ey14 : xy14 = zi y14 := exy14.trans (((za (rfl : zi v3 = zi v3) (by decide : (1 : Int32) = zi 1))).trans (congrArg zi eyy14.symm))
    have Iy14 : ir y14 := by rw [eyy14]; exact g13
    clear exy14
    exact hk15 _ _ _ _ _ _ (rfl : zi s0 = zi s0) is0 (rfl : zi v4 = zi v4) iv4 Ey14 Iy14 hv
def v_X12_busy_66 (J : mJ) (o : Nat) (post' : Int → Prop) (k15' : Int → Int → Int → Prop) (v1 : Int) (v2 : Int) (v3 : Int) (v4 : Int) : Prop := (v4 ≤ v2 → (v_X12_busy_77 J o post' k15') v2 v3 v4 v1) ∧ (¬ v4 ≤ v2 → (v_X12_busy_77 J o post' k15') v2 v3 v4 v3)
theorem vw_X12_busy_66 {J : mJ} {o : Nat} (hJ : irm J)  {post : Int32 → Prop} {post' : Int → Prop} {k15' : Int → Int → Int → Prop} {k15 : Int32 → Int32 → Int32 → Prop} (hp : ∀ (x : Int32) (r : Int), x = zi r → ir r → post' r → post x) (hk15 : ∀ (xv1 : Int32) (v1 : Int) (xv2 : Int32) (v2 : Int) (xv3 : Int32) (v3 : Int), xv1 = zi v1 → ir v1 → xv2 = zi v2 → ir v2 → xv3 = zi v3 → ir v3 → k15' v1 v2 v3 → k15 xv1 xv2 xv3) {xv1 : Int32} {v1 : Int} {xv2 : Int32} {v2 : Int} {xv3 : Int32} {v3 : Int} {xv4 : Int32} {v4 : Int} (ev1 : xv1 = zi v1) (iv1 : ir v1) (ev2 : xv2 = zi v2) (iv2 : ir v2) (ev3 : xv3 = zi v3) (iv3 : ir v3) (ev4 : xv4 = zi v4) (iv4 : ir v4) (hv : v_X12_busy_66 J o post' k15' v1 v2 v3 v4) : w_X12_busy_66 (zz J) o post k15 xv1 xv2 xv3 xv4 := by
  subst ev1
  subst ev2
  subst ev3
  subst ev4
  unfold v_X12_busy_66 at hv
  unfold w_X12_busy_66
  refine ⟨fun cq => ?_, fun cq => ?_⟩
  · have hv := hv.1 ((zle (rfl : zi v4 = zi v4) (rfl : zi v2 = zi v2) iv4 iv2).mp cq)
    refine vw_X12_busy_77 hJ  hp hk15 (rfl : zi v2 = zi v2) iv2 (rfl : zi v3 = zi v3) iv3 (rfl : zi v4 = zi v4) iv4 (rfl : zi v1 = zi v1) iv1 hv
  · have hv := hv.2 (fun q => cq ((zle (rfl : zi v4 = zi v4) (rfl : zi v2 = zi v2) iv4 iv2).mpr q))
    refine vw_X12_busy_77 hJ  hp hk15 (rfl : zi v2 = zi v2) iv2 (rfl : zi v3 = zi v3) iv3 (rfl : zi v4 = zi v4) iv4 (rfl : zi v3 = zi v3) iv3 hv
def v_X12_busy_15 (J : mJ) (o : Nat) (post' : Int → Prop) (v1 : Int) (v2 : Int) (v3 : Int) : Prop := ∀ ZZ : (Int → Int → Int → Prop), (∀ (v1 : Int) (v2 : Int) (v3 : Int), (v_X12_of J o 0 (fun r1 => (r1 ≤ v3 → post' v1) ∧ (¬ r1 ≤ v3 → (v_X12_busy_30 J o post' (v_X12_busy_66 J o post' ZZ)) v1 v2 v3 0 0))) → ZZ v1 v2 v3) → ZZ v1 v2 v3
theorem vw_X12_busy_15 {J : mJ} {o : Nat} (hJ : irm J)  {post : Int32 → Prop} {post' : Int → Prop} (hp : ∀ (x : Int32) (r : Int), x = zi r → ir r → post' r → post x) {xv1 : Int32} {v1 : Int} {xv2 : Int32} {v2 : Int} {xv3 : Int32} {v3 : Int} (ev1 : xv1 = zi v1) (iv1 : ir v1) (ev2 : xv2 = zi v2) (iv2 : ir v2) (ev3 : xv3 = zi v3) (iv3 : ir v3) (hv : v_X12_busy_15 J o post' v1 v2 v3) : w_X12_busy_15 (zz J) o post xv1 xv2 xv3 := by
  subst ev1
  subst ev2
  subst ev3
  unfold v_X12_busy_15 at hv
  unfold w_X12_busy_15
  intro ZZ hZ
  refine hv (fun v1 v2 v3 => ∀ (xv1 : Int32) (xv2 : Int32) (xv3 : Int32), xv1 = zi v1 → ir v1 → xv2 = zi v2 → ir v2 → xv3 = zi v3 → ir v3 → ZZ xv1 xv2 xv3) ?_ _ _ _ rfl iv1 rfl iv2 rfl iv3
  clear hv iv1 iv2 iv3
  intro v1 v2 v3 hv xv1 xv2 xv3 ev1 iv1 ev2 iv2 ev3 iv3
  subst ev1
  subst ev2
  subst ev3
  refine hZ _ _ _ ?_
  refine vw_X12_of hJ (by decide : (0 : Int32) = zi 0) (by decide : ir 0) (fun xr1 r1 Er1 Ir1 hv => ?_) hv
  refine ⟨fun cq => ?_, fun cq => ?_⟩
  · have hv := hv.1 ((zle Er1 (rfl : zi v3 = zi v3) Ir1 iv3).mp cq)
    exact hp _ _ (rfl : zi v1 = zi v1) iv1 hv
  · have hv := hv.2 (fun q => cq ((zle Er1 (rfl : zi v3 = zi v3) Ir1 iv3).mpr q))
    refine vw_X12_busy_30 hJ  hp ?_ (rfl : zi v1 = zi v1) iv1 (rfl : zi v2 = zi v2) iv2 (rfl : zi v3 = zi v3) iv3 (by decide : (0 : Int32) = zi 0) (by decide : ir 0) (by decide : (0 : Int32) = zi 0) (by decide : ir 0) hv
    · intro xx vv xx vv xx vv xx vv ev1 iv1 ev2 iv2 ev3 iv3 ev4 iv4 hv
      refine vw_X12_busy_66 hJ  hp ?_ ev1 iv1 ev2 iv2 ev3 iv3 ev4 iv4 hv
      · intro xx vv xx vv xx vv ev1 iv1 ev2 iv2 ev3 iv3 hv
        exact hv _ _ _ ev1 iv1 ev2 iv2 ev3 iv3
def v_X12_busy (J : mJ) (o : Nat) (post' : Int → Prop) : Prop := (¬ (J o 25) = 0 → (v_X12_busy_15 J o post') 0 0 0) ∧ ((J o 25) = 0 → post' (-1))
theorem vw_X12_busy {J : mJ} {o : Nat} (hJ : irm J)   {post : Int32 → Prop} {post' : Int → Prop} (hp : ∀ (x : Int32) (r : Int), x = zi r → ir r → post' r → post x) (hv : v_X12_busy J o post') : w_X12_busy (zz J) o post := by
  unfold v_X12_busy at hv
  unfold w_X12_busy
  refine ⟨fun cq => ?_, fun cq => ?_⟩
  · have hv := hv.1 (fun q => cq ((zeq zrf (by decide : (0 : Int32) = zi 0) (hJ _ _) (by decide : ir 0)).mpr q))
    exact vw_X12_busy_15 hJ  hp (by decide : (0 : Int32) = zi 0) (by decide : ir 0) (by decide : (0 : Int32) = zi 0) (by decide : ir 0) (by decide : (0 : Int32) = zi 0) (by decide : ir 0) hv
  · have hv := hv.2 ((zeq zrf (by decide : (0 : Int32) = zi 0) (hJ _ _) (by decide : ir 0)).mp cq)
    exact hp _ _ (by decide : ((-1) : Int32) = zi (-1)) (by decide : ir (-1)) hv
def v_X12_copies_49 (J : mJ) (o : Nat) (post' : Int → Prop) (k91' : Int → Int → Int → Int → Prop) (v1 : Int) (v2 : Int) (v3 : Int) (v4 : Int) (v5 : Int) : Prop := ∀ ZZ : (Int → Int → Int → Int → Int → Prop), (∀ (v1 : Int) (v2 : Int) (v3 : Int) (v4 : Int) (v5 : Int), ((100 ≤ v5 → k91' v1 v2 v3 v4) ∧ (¬ 100 ≤ v5 → (v4 = 0 → ir (v5 + 1) ∧ ∀ y10, y10 = v5 + 1 → ZZ v1 v2 v3 0 y10) ∧ (¬ v4 = 0 → v_X12_shoeOf J o v2 v5 (fun r11 => v_X12_shoeOf J o v3 v5 (fun r12 => (¬ r11 = r12 → ir (v5 + 1) ∧ ∀ y14, y14 = v5 + 1 → ZZ v1 v2 v3 0 y14) ∧ (r11 = r12 → ir (v5 + 1) ∧ ∀ y16, y16 = v5 + 1 → ZZ v1 v2 v3 1 y16)))))) → ZZ v1 v2 v3 v4 v5) → ZZ v1 v2 v3 v4 v5
theorem vw_X12_copies_49 {J : mJ} {o : Nat} (hJ : irm J)  {post : Int32 → Prop} {post' : Int → Prop} {k91' : Int → Int → Int → Int → Prop} {k91 : Int32 → Int32 → Int32 → Int32 → Prop} (hp : ∀ (x : Int32) (r : Int), x = zi r → ir r → post' r → post x) (hk91 : ∀ (xv1 : Int32) (v1 : Int) (xv2 : Int32) (v2 : Int) (xv3 : Int32) (v3 : Int) (xv4 : Int32) (v4 : Int), xv1 = zi v1 → ir v1 → xv2 = zi v2 → ir v2 → xv3 = zi v3 → ir v3 → xv4 = zi v4 → ir v4 → k91' v1 v2 v3 v4 → k91 xv1 xv2 xv3 xv4) {xv1 : Int32} {v1 : Int} {xv2 : Int32} {v2 : Int} {xv3 : Int32} {v3 : Int} {xv4 : Int32} {v4 : Int} {xv5 : Int32} {v5 : Int} (ev1 : xv1 = zi v1) (iv1 : ir v1) (ev2 : xv2 = zi v2) (iv2 : ir v2) (ev3 : xv3 = zi v3) (iv3 : ir v3) (ev4 : xv4 = zi v4) (iv4 : ir v4) (ev5 : xv5 = zi v5) (iv5 : ir v5) (hv : v_X12_copies_49 J o post' k91' v1 v2 v3 v4 v5) : w_X12_copies_49 (zz J) o post k91 xv1 xv2 xv3 xv4 xv5 := by
  subst ev1
  subst ev2
  subst ev3
  subst ev4
  subst ev5
  unfold v_X12_copies_49 at hv
  unfold w_X12_copies_49
  intro ZZ hZ
  refine hv (fun v1 v2 v3 v4 v5 => ∀ (xv1 : Int32) (xv2 : Int32) (xv3 : Int32) (xv4 : Int32) (xv5 : Int32), xv1 = zi v1 → ir v1 → xv2 = zi v2 → ir v2 → xv3 = zi v3 → ir v3 → xv4 = zi v4 → ir v4 → xv5 = zi v5 → ir v5 → ZZ xv1 xv2 xv3 xv4 xv5) ?_ _ _ _ _ _ rfl iv1 rfl iv2 rfl iv3 rfl iv4 rfl iv5
  clear hv iv1 iv2 iv3 iv4 iv5
  intro v1 v2 v3 v4 v5 hv xv1 xv2 xv3 xv4 xv5 ev1 iv1 ev2 iv2 ev3 iv3 ev4 iv4 ev5 iv5
  subst ev1
  subst ev2
  subst ev3
  subst ev4
  subst ev5
  refine hZ _ _ _ _ _ ?_
  refine ⟨fun cq => ?_, fun cq => ?_⟩
  · have hv := hv.1 ((zle (by decide : (100 : Int32) = zi 100) (rfl : zi v5 = zi v5) (by decide : ir 100) iv5).mp cq)
    exact hk91 _ _ _ _ _ _ _ _ (rfl : zi v1 = zi v1) iv1 (rfl : zi v2 = zi v2) iv2 (rfl : zi v3 = zi v3) iv3 (rfl : zi v4 = zi v4) iv4 hv
  · have hv := hv.2 (fun q => cq ((zle (by decide : (100 : Int32) = zi 100) (rfl : zi v5 = zi v5) (by decide : ir 100) iv5).mpr q))
    refine ⟨fun cq => ?_, fun cq => ?_⟩
    · have hv := hv.1 ((zeq (rfl : zi v4 = zi v4) (by decide : (0 : Int32) = zi 0) iv4 (by decide : ir 0)).mp cq)
      obtain ⟨g9, hv⟩ := hv
      intro xy10 exy10
      obtain ⟨y10, eyy10⟩ : ∃ q9 : Int, q9 = v5 + 1 := ⟨_, rfl⟩
      have hv := hv y10 eyy10
      have Ey10 : xy10 = zi y10 := exy10.trans (((za (rfl : zi v5 = zi v5) (by decide : (1 : Int32) = zi 1))).trans (congrArg zi eyy10.symm))
      have Iy10 : ir y10 := by rw [eyy10]; exact g9
      clear exy10
      exact hv _ _ _ _ _ (rfl : zi v1 = zi v1) iv1 (rfl : zi v2 = zi v2) iv2 (rfl : zi v3 = zi v3) iv3 (by decide : (0 : Int32) = zi 0) (by decide : ir 0) Ey10 Iy10
    · have hv := hv.2 (fun q => cq ((zeq (rfl : zi v4 = zi v4) (by decide : (0 : Int32) = zi 0) iv4 (by decide : ir 0)).mpr q))
      refine vw_X12_shoeOf hJ (rfl : zi v2 = zi v2) iv2 (rfl : zi v5 = zi v5) iv5 (fun xr11 r11 Er11 Ir11 hv => ?_) hv
      refine vw_X12_shoeOf hJ (rfl : zi v3 = zi v3) iv3 (rfl : zi v5 = zi v5) iv5 (fun xr12 r12 Er12 Ir12 hv => ?_) hv
      refine ⟨fun cq => ?_, fun cq => ?_⟩
      · have hv := hv.1 (fun q => cq ((zeq Er11 Er12 Ir11 Ir12).mpr q))
        obtain ⟨g13, hv⟩ := hv
        intro xy14 exy14
        obtain ⟨y14, eyy14⟩ : ∃ q9 : Int, q9 = v5 + 1 := ⟨_, rfl⟩
        have hv := hv y14 eyy14
        have Ey14 : xy14 = zi y14 := exy14.trans (((za (rfl : zi v5 = zi v5) (by decide : (1 : Int32) = zi 1))).trans (congrArg zi eyy14.symm))
        have Iy14 : ir y14 := by rw [eyy14]; exact g13
        clear exy14
        exact hv _ _ _ _ _ (rfl : zi v1 = zi v1) iv1 (rfl : zi v2 = zi v2) iv2 (rfl : zi v3 = zi v3) iv3 (by decide : (0 : Int32) = zi 0) (by decide : ir 0) Ey14 Iy14
      · have hv := hv.2 ((zeq Er11 Er12 Ir11 Ir12).mp cq)
        obtain ⟨g15, hv⟩ := hv
        intro xy16 exy16
        obtain ⟨y16, eyy16⟩ : ∃ q9 : Int, q9 = v5 + 1 := ⟨_, rfl⟩
        have hv := hv y16 eyy16
        have Ey16 : xy16 = zi y16 := exy16.trans (((za (rfl : zi v5 = zi v5) (by decide : (1 : Int32) = zi 1))).trans (congrArg zi eyy16.symm))
        have Iy16 : ir y16 := by rw [eyy16]; exact g15
        clear exy16
        exact hv _ _ _ _ _ (rfl : zi v1 = zi v1) iv1 (rfl : zi v2 = zi v2) iv2 (rfl : zi v3 = zi v3) iv3 (by decide : (1 : Int32) = zi 1) (by decide : ir 1) Ey16 Iy16
def v_X12_copies_91 (J : mJ) (o : Nat) (post' : Int → Prop) (k16' : Int → Int → Int → Prop) (v1 : Int) (v2 : Int) (v3 : Int) (v4 : Int) : Prop := (v4 = 0 → ir (v1 + 0) ∧ ∀ y18, y18 = (v1 + 0) → ir (v3 + 1) ∧ ∀ y20, y20 = v3 + 1 → k16' y18 v2 y20) ∧ (¬ v4 = 0 → ir (v1 + 1) ∧ ∀ y22, y22 = (v1 + 1) → ir (v3 + 1) ∧ ∀ y24, y24 = v3 + 1 → k16' y22 v2 y24)
theorem vw_X12_copies_91 {J : mJ} {o : Nat} (hJ : irm J)  {post : Int32 → Prop} {post' : Int → Prop} {k16' : Int → Int → Int → Prop} {k16 : Int32 → Int32 → Int32 → Prop} (hp : ∀ (x : Int32) (r : Int), x = zi r → ir r → post' r → post x) (hk16 : ∀ (xv1 : Int32) (v1 : Int) (xv2 : Int32) (v2 : Int) (xv3 : Int32) (v3 : Int), xv1 = zi v1 → ir v1 → xv2 = zi v2 → ir v2 → xv3 = zi v3 → ir v3 → k16' v1 v2 v3 → k16 xv1 xv2 xv3) {xv1 : Int32} {v1 : Int} {xv2 : Int32} {v2 : Int} {xv3 : Int32} {v3 : Int} {xv4 : Int32} {v4 : Int} (ev1 : xv1 = zi v1) (iv1 : ir v1) (ev2 : xv2 = zi v2) (iv2 : ir v2) (ev3 : xv3 = zi v3) (iv3 : ir v3) (ev4 : xv4 = zi v4) (iv4 : ir v4) (hv : v_X12_copies_91 J o post' k16' v1 v2 v3 v4) : w_X12_copies_91 (zz J) o post k16 xv1 xv2 xv3 xv4 := by
  subst ev1
  subst ev2
  subst ev3
  subst ev4
  unfold v_X12_copies_91 at hv
  unfold w_X12_copies_91
  refine ⟨fun cq => ?_, fun cq => ?_⟩
  · have hv := hv.1 ((zeq (rfl : zi v4 = zi v4) (by decide : (0 : Int32) = zi 0) iv4 (by decide : ir 0)).mp cq)
    obtain ⟨g17, hv⟩ := hv
    intro xy18 exy18
    obtain ⟨y18, eyy18⟩ : ∃ q9 : Int, q9 = (v1 + 0) := ⟨_, rfl⟩
    have hv := hv y18 eyy18
    have Ey18 : xy18 = zi y18 := exy18.trans (((za (rfl : zi v1 = zi v1) (by decide : (0 : Int32) = zi 0))).trans (congrArg zi eyy18.symm))
    have Iy18 : ir y18 := by rw [eyy18]; exact g17
    clear exy18
    obtain ⟨g19, hv⟩ := hv
    intro xy20 exy20
    obtain ⟨y20, eyy20⟩ : ∃ q9 : Int, q9 = v3 + 1 := ⟨_, rfl⟩
    have hv := hv y20 eyy20
    have Ey20 : xy20 = zi y20 := exy20.trans (((za (rfl : zi v3 = zi v3) (by decide : (1 : Int32) = zi 1))).trans (congrArg zi eyy20.symm))
    have Iy20 : ir y20 := by rw [eyy20]; exact g19
    clear exy20
    exact hk16 _ _ _ _ _ _ Ey18 Iy18 (rfl : zi v2 = zi v2) iv2 Ey20 Iy20 hv
  · have hv := hv.2 (fun q => cq ((zeq (rfl : zi v4 = zi v4) (by decide : (0 : Int32) = zi 0) iv4 (by decide : ir 0)).mpr q))
    obtain ⟨g21, hv⟩ := hv
    intro xy22 exy22
    obtain ⟨y22, eyy22⟩ : ∃ q9 : Int, q9 = (v1 + 1) := ⟨_, rfl⟩
    have hv := hv y22 eyy22
    have Ey22 : xy22 = zi y22 := exy22.trans (((za (rfl : zi v1 = zi v1) (by decide : (1 : Int32) = zi 1))).trans (congrArg zi eyy22.symm))
    have Iy22 : ir y22 := by rw [eyy22]; exact g21
    clear exy22
    obtain ⟨g23, hv⟩ := hv
    intro xy24 exy24
    obtain ⟨y24, eyy24⟩ : ∃ q9 : Int, q9 = v3 + 1 := ⟨_, rfl⟩
    have hv := hv y24 eyy24
    have Ey24 : xy24 = zi y24 := exy24.trans (((za (rfl : zi v3 = zi v3) (by decide : (1 : Int32) = zi 1))).trans (congrArg zi eyy24.symm))
    have Iy24 : ir y24 := by rw [eyy24]; exact g23
    clear exy24
    exact hk16 _ _ _ _ _ _ Ey22 Iy22 (rfl : zi v2 = zi v2) iv2 Ey24 Iy24 hv
def v_X12_copies_16 (J : mJ) (o : Nat) (post' : Int → Prop) (k4' : Int → Int → Prop) (v1 : Int) (v2 : Int) (v3 : Int) : Prop := ∀ ZZ : (Int → Int → Int → Prop), (∀ (v1 : Int) (v2 : Int) (v3 : Int), (v_X12_people J o (fun r4 => (r4 ≤ v3 → ir (v2 + 1) ∧ ∀ y6, y6 = v2 + 1 → k4' v1 y6) ∧ (¬ r4 ≤ v3 → v_X12_told J o v2 1 (fun r7 => v_X12_told J o v3 1 (fun r8 => (¬ r7 = r8 → (v_X12_copies_49 J o post' (v_X12_copies_91 J o post' ZZ)) v1 v2 v3 0 0) ∧ (r7 = r8 → (v_X12_copies_49 J o post' (v_X12_copies_91 J o post' ZZ)) v1 v2 v3 1 0)))))) → ZZ v1 v2 v3) → ZZ v1 v2 v3
theorem vw_X12_copies_16 {J : mJ} {o : Nat} (hJ : irm J)  {post : Int32 → Prop} {post' : Int → Prop} {k4' : Int → Int → Prop} {k4 : Int32 → Int32 → Prop} (hp : ∀ (x : Int32) (r : Int), x = zi r → ir r → post' r → post x) (hk4 : ∀ (xv1 : Int32) (v1 : Int) (xv2 : Int32) (v2 : Int), xv1 = zi v1 → ir v1 → xv2 = zi v2 → ir v2 → k4' v1 v2 → k4 xv1 xv2) {xv1 : Int32} {v1 : Int} {xv2 : Int32} {v2 : Int} {xv3 : Int32} {v3 : Int} (ev1 : xv1 = zi v1) (iv1 : ir v1) (ev2 : xv2 = zi v2) (iv2 : ir v2) (ev3 : xv3 = zi v3) (iv3 : ir v3) (hv : v_X12_copies_16 J o post' k4' v1 v2 v3) : w_X12_copies_16 (zz J) o post k4 xv1 xv2 xv3 := by
  subst ev1
  subst ev2
  subst ev3
  unfold v_X12_copies_16 at hv
  unfold w_X12_copies_16
  intro ZZ hZ
  refine hv (fun v1 v2 v3 => ∀ (xv1 : Int32) (xv2 : Int32) (xv3 : Int32), xv1 = zi v1 → ir v1 → xv2 = zi v2 → ir v2 → xv3 = zi v3 → ir v3 → ZZ xv1 xv2 xv3) ?_ _ _ _ rfl iv1 rfl iv2 rfl iv3
  clear hv iv1 iv2 iv3
  intro v1 v2 v3 hv xv1 xv2 xv3 ev1 iv1 ev2 iv2 ev3 iv3
  subst ev1
  subst ev2
  subst ev3
  refine hZ _ _ _ ?_
  refine vw_X12_people hJ  (fun xr4 r4 Er4 Ir4 hv => ?_) hv
  refine ⟨fun cq => ?_, fun cq => ?_⟩
  · have hv := hv.1 ((zle Er4 (rfl : zi v3 = zi v3) Ir4 iv3).mp cq)
    obtain ⟨g5, hv⟩ := hv
    intro xy6 exy6
    obtain ⟨y6, eyy6⟩ : ∃ q9 : Int, q9 = v2 + 1 := ⟨_, rfl⟩
    have hv := hv y6 eyy6
    have Ey6 : xy6 = zi y6 := exy6.trans (((za (rfl : zi v2 = zi v2) (by decide : (1 : Int32) = zi 1))).trans (congrArg zi eyy6.symm))
    have Iy6 : ir y6 := by rw [eyy6]; exact g5
    clear exy6
    exact hk4 _ _ _ _ (rfl : zi v1 = zi v1) iv1 Ey6 Iy6 hv
  · have hv := hv.2 (fun q => cq ((zle Er4 (rfl : zi v3 = zi v3) Ir4 iv3).mpr q))
    refine vw_X12_told hJ (rfl : zi v2 = zi v2) iv2 (by decide : (1 : Int32) = zi 1) (by decide : ir 1) (fun xr7 r7 Er7 Ir7 hv => ?_) hv
    refine vw_X12_told hJ (rfl : zi v3 = zi v3) iv3 (by decide : (1 : Int32) = zi 1) (by decide : ir 1) (fun xr8 r8 Er8 Ir8 hv => ?_) hv
    refine ⟨fun cq => ?_, fun cq => ?_⟩
    · have hv := hv.1 (fun q => cq ((zeq Er7 Er8 Ir7 Ir8).mpr q))
      refine vw_X12_copies_49 hJ  hp ?_ (rfl : zi v1 = zi v1) iv1 (rfl : zi v2 = zi v2) iv2 (rfl : zi v3 = zi v3) iv3 (by decide : (0 : Int32) = zi 0) (by decide : ir 0) (by decide : (0 : Int32) = zi 0) (by decide : ir 0) hv
      · intro xx vv xx vv xx vv xx vv ev1 iv1 ev2 iv2 ev3 iv3 ev4 iv4 hv
        refine vw_X12_copies_91 hJ  hp ?_ ev1 iv1 ev2 iv2 ev3 iv3 ev4 iv4 hv
        · intro xx vv xx vv xx vv ev1 iv1 ev2 iv2 ev3 iv3 hv
          exact hv _ _ _ ev1 iv1 ev2 iv2 ev3 iv3
    · have hv := hv.2 ((zeq Er7 Er8 Ir7 Ir8).mp cq)
      refine vw_X12_copies_49 hJ  hp ?_ (rfl : zi v1 = zi v1) iv1 (rfl : zi v2 = zi v2) iv2 (rfl : zi v3 = zi v3) iv3 (by decide : (1 : Int32) = zi 1) (by decide : ir 1) (by decide : (0 : Int32) = zi 0) (by decide : ir 0) hv
      · intro xx vv xx vv xx vv xx vv ev1 iv1 ev2 iv2 ev3 iv3 ev4 iv4 hv
        refine vw_X12_copies_91 hJ  hp ?_ ev1 iv1 ev2 iv2 ev3 iv3 ev4 iv4 hv
        · intro xx vv xx vv xx vv ev1 iv1 ev2 iv2 ev3 iv3 hv
          exact hv _ _ _ ev1 iv1 ev2 iv2 ev3 iv3
def v_X12_copies_4 (J : mJ) (o : Nat) (post' : Int → Prop) (v1 : Int) (v2 : Int) : Prop := ∀ ZZ : (Int → Int → Prop), (∀ (v1 : Int) (v2 : Int), (v_X12_people J o (fun r1 => (r1 ≤ v2 → post' v1) ∧ (¬ r1 ≤ v2 → ir (v2 + 1) ∧ ∀ y3, y3 = (v2 + 1) → (v_X12_copies_16 J o post' ZZ) v1 v2 y3))) → ZZ v1 v2) → ZZ v1 v2
theorem vw_X12_copies_4 {J : mJ} {o : Nat} (hJ : irm J)  {post : Int32 → Prop} {post' : Int → Prop} (hp : ∀ (x : Int32) (r : Int), x = zi r → ir r → post' r → post x) {xv1 : Int32} {v1 : Int} {xv2 : Int32} {v2 : Int} (ev1 : xv1 = zi v1) (iv1 : ir v1) (ev2 : xv2 = zi v2) (iv2 : ir v2) (hv : v_X12_copies_4 J o post' v1 v2) : w_X12_copies_4 (zz J) o post xv1 xv2 := by
  subst ev1
  subst ev2
  unfold v_X12_copies_4 at hv
  unfold w_X12_copies_4
  intro ZZ hZ
  refine hv (fun v1 v2 => ∀ (xv1 : Int32) (xv2 : Int32), xv1 = zi v1 → ir v1 → xv2 = zi v2 → ir v2 → ZZ xv1 xv2) ?_ _ _ rfl iv1 rfl iv2
  clear hv iv1 iv2
  intro v1 v2 hv xv1 xv2 ev1 iv1 ev2 iv2
  subst ev1
  subst ev2
  refine hZ _ _ ?_
  refine vw_X12_people hJ  (fun xr1 r1 Er1 Ir1 hv => ?_) hv
  refine ⟨fun cq => ?_, fun cq => ?_⟩
  · have hv := hv.1 ((zle Er1 (rfl : zi v2 = zi v2) Ir1 iv2).mp cq)
    exact hp _ _ (rfl : zi v1 = zi v1) iv1 hv
  · have hv := hv.2 (fun q => cq ((zle Er1 (rfl : zi v2 = zi v2) Ir1 iv2).mpr q))
    obtain ⟨g2, hv⟩ := hv
    intro xy3 exy3
    obtain ⟨y3, eyy3⟩ : ∃ q9 : Int, q9 = (v2 + 1) := ⟨_, rfl⟩
    have hv := hv y3 eyy3
    have Ey3 : xy3 = zi y3 := exy3.trans (((za (rfl : zi v2 = zi v2) (by decide : (1 : Int32) = zi 1))).trans (congrArg zi eyy3.symm))
    have Iy3 : ir y3 := by rw [eyy3]; exact g2
    clear exy3
    refine vw_X12_copies_16 hJ  hp ?_ (rfl : zi v1 = zi v1) iv1 (rfl : zi v2 = zi v2) iv2 Ey3 Iy3 hv
    · intro xx vv xx vv ev1 iv1 ev2 iv2 hv
      exact hv _ _ ev1 iv1 ev2 iv2
def v_X12_copies (J : mJ) (o : Nat) (post' : Int → Prop) : Prop := (v_X12_copies_4 J o post') 0 0
theorem vw_X12_copies {J : mJ} {o : Nat} (hJ : irm J)   {post : Int32 → Prop} {post' : Int → Prop} (hp : ∀ (x : Int32) (r : Int), x = zi r → ir r → post' r → post x) (hv : v_X12_copies J o post') : w_X12_copies (zz J) o post := by
  unfold v_X12_copies at hv
  unfold w_X12_copies
  exact vw_X12_copies_4 hJ  hp (by decide : (0 : Int32) = zi 0) (by decide : ir 0) (by decide : (0 : Int32) = zi 0) (by decide : ir 0) hv
def v_X12_tells_4 (J : mJ) (o : Nat) (a1 : Int) (post' : Int → Prop) (k47' : Int → Prop) (v2 : Int) (v3 : Int) : Prop := ∀ ZZ : (Int → Int → Prop), (∀ (v2 : Int) (v3 : Int), (((J o 25) ≤ v3 → k47' v2) ∧ (¬ (J o 25) ≤ v3 → (0 ≤ v3 ∧ v3 < 640) ∧ (¬ (andZ (shrZ (J (o + 10) v3.toNat) a1) 1) = 1 → ∀ y2, y2 = (orZ v2 0) → ir (v3 + 1) ∧ ∀ y4, y4 = v3 + 1 → ZZ y2 y4) ∧ ((andZ (shrZ (J (o + 10) v3.toNat) a1) 1) = 1 → (0 ≤ v3 ∧ v3 < 640) ∧ ∀ y6, y6 = (orZ v2 (shlZ 1 (J (o + 7) v3.toNat))) → ir (v3 + 1) ∧ ∀ y8, y8 = v3 + 1 → ZZ y6 y8))) → ZZ v2 v3) → ZZ v2 v3
theorem vw_X12_tells_4 {J : mJ} {o : Nat} {a1 : Int} (hJ : irm J) (ia1 : ir a1) {post : Int32 → Prop} {post' : Int → Prop} {k47' : Int → Prop} {k47 : Int32 → Prop} (hp : ∀ (x : Int32) (r : Int), x = zi r → ir r → post' r → post x) (hk47 : ∀ (xv2 : Int32) (v2 : Int), xv2 = zi v2 → ir v2 → k47' v2 → k47 xv2) {xv2 : Int32} {v2 : Int} {xv3 : Int32} {v3 : Int} (ev2 : xv2 = zi v2) (iv2 : ir v2) (ev3 : xv3 = zi v3) (iv3 : ir v3) (hv : v_X12_tells_4 J o a1 post' k47' v2 v3) : w_X12_tells_4 (zz J) o (zi a1) post k47 xv2 xv3 := by
  subst ev2
  subst ev3
  unfold v_X12_tells_4 at hv
  unfold w_X12_tells_4
  intro ZZ hZ
  refine hv (fun v2 v3 => ∀ (xv2 : Int32) (xv3 : Int32), xv2 = zi v2 → ir v2 → xv3 = zi v3 → ir v3 → ZZ xv2 xv3) ?_ _ _ rfl iv2 rfl iv3
  clear hv iv2 iv3
  intro v2 v3 hv xv2 xv3 ev2 iv2 ev3 iv3
  subst ev2
  subst ev3
  refine hZ _ _ ?_
  refine ⟨fun cq => ?_, fun cq => ?_⟩
  · have hv := hv.1 ((zle zrf (rfl : zi v3 = zi v3) (hJ _ _) iv3).mp cq)
    exact hk47 _ _ (rfl : zi v2 = zi v2) iv2 hv
  · have hv := hv.2 (fun q => cq ((zle zrf (rfl : zi v3 = zi v3) (hJ _ _) iv3).mpr q))
    obtain ⟨g1, hv⟩ := hv
    refine ⟨zvp (rfl : zi v3 = zi v3) iv3 g1.1 g1.2, ?_⟩
    refine ⟨fun cq => ?_, fun cq => ?_⟩
    · have hv := hv.1 (fun q => cq ((zeq (z_and (z_shr (zrd (rfl : zi v3 = zi v3) iv3 g1.1) (rfl : zi a1 = zi a1)) (by decide : (1 : Int32) = zi 1)) (by decide : (1 : Int32) = zi 1) (ir_toInt _) (by decide : ir 1)).mpr q))
      intro xy2 exy2
      obtain ⟨y2, eyy2⟩ : ∃ q9 : Int, q9 = (orZ v2 0) := ⟨_, rfl⟩
      have hv := hv y2 eyy2
      have Ey2 : xy2 = zi y2 := exy2.trans (((z_or (rfl : zi v2 = zi v2) (by decide : (0 : Int32) = zi 0))).trans (congrArg zi eyy2.symm))
      have Iy2 : ir y2 := by rw [eyy2]; exact (ir_toInt _)
      clear exy2
      obtain ⟨g3, hv⟩ := hv
      intro xy4 exy4
      obtain ⟨y4, eyy4⟩ : ∃ q9 : Int, q9 = v3 + 1 := ⟨_, rfl⟩
      have hv := hv y4 eyy4
      have Ey4 : xy4 = zi y4 := exy4.trans (((za (rfl : zi v3 = zi v3) (by decide : (1 : Int32) = zi 1))).trans (congrArg zi eyy4.symm))
      have Iy4 : ir y4 := by rw [eyy4]; exact g3
      clear exy4
      exact hv _ _ Ey2 Iy2 Ey4 Iy4
    · have hv := hv.2 ((zeq (z_and (z_shr (zrd (rfl : zi v3 = zi v3) iv3 g1.1) (rfl : zi a1 = zi a1)) (by decide : (1 : Int32) = zi 1)) (by decide : (1 : Int32) = zi 1) (ir_toInt _) (by decide : ir 1)).mp cq)
      obtain ⟨g5, hv⟩ := hv
      refine ⟨zvp (rfl : zi v3 = zi v3) iv3 g5.1 g5.2, ?_⟩
      intro xy6 exy6
      obtain ⟨y6, eyy6⟩ : ∃ q9 : Int, q9 = (orZ v2 (shlZ 1 (J (o + 7) v3.toNat))) := ⟨_, rfl⟩
      have hv := hv y6 eyy6
      have Ey6 : xy6 = zi y6 := exy6.trans (((z_or (rfl : zi v2 = zi v2) (z_shl (by decide : (1 : Int32) = zi 1) (zrd (rfl : zi v3 = zi v3) iv3 g5.1)))).trans (congrArg zi eyy6.symm))
      have Iy6 : ir y6 := by rw [eyy6]; exact (ir_toInt _)
      clear exy6
      obtain ⟨g7, hv⟩ := hv
      intro xy8 exy8
      obtain ⟨y8, eyy8⟩ : ∃ q9 : Int, q9 = v3 + 1 := ⟨_, rfl⟩
      have hv := hv y8 eyy8
      have Ey8 : xy8 = zi y8 := exy8.trans (((za (rfl : zi v3 = zi v3) (by decide : (1 : Int32) = zi 1))).trans (congrArg zi eyy8.symm))
      have Iy8 : ir y8 := by rw [eyy8]; exact g7
      clear exy8
      exact hv _ _ Ey6 Iy6 Ey8 Iy8
def v_X12_tells_47 (J : mJ) (o : Nat) (a1 : Int) (post' : Int → Prop) (v2 : Int) : Prop := v_X12_bits v2 (fun r9 => post' r9)
theorem vw_X12_tells_47 {J : mJ} {o : Nat} {a1 : Int} (hJ : irm J) (ia1 : ir a1) {post : Int32 → Prop} {post' : Int → Prop} (hp : ∀ (x : Int32) (r : Int), x = zi r → ir r → post' r → post x) {xv2 : Int32} {v2 : Int} (ev2 : xv2 = zi v2) (iv2 : ir v2) (hv : v_X12_tells_47 J o a1 post' v2) : w_X12_tells_47 (zz J) o (zi a1) post xv2 := by
  subst ev2
  unfold v_X12_tells_47 at hv
  unfold w_X12_tells_47
  refine vw_X12_bits (rfl : zi v2 = zi v2) iv2 (fun xr9 r9 Er9 Ir9 hv => ?_) hv
  exact hp _ _ Er9 Ir9 hv
def v_X12_tells (J : mJ) (o : Nat) (a1 : Int) (post' : Int → Prop) : Prop := (v_X12_tells_4 J o a1 post' (v_X12_tells_47 J o a1 post')) 0 0
theorem vw_X12_tells {J : mJ} {o : Nat} {xa1 : Int32} {a1 : Int} (hJ : irm J)   (ea1 : xa1 = zi a1) (ia1 : ir a1) {post : Int32 → Prop} {post' : Int → Prop} (hp : ∀ (x : Int32) (r : Int), x = zi r → ir r → post' r → post x) (hv : v_X12_tells J o a1 post') : w_X12_tells (zz J) o xa1 post := by
  subst ea1
  unfold v_X12_tells at hv
  unfold w_X12_tells
  refine vw_X12_tells_4 hJ ia1 hp ?_ (by decide : (0 : Int32) = zi 0) (by decide : ir 0) (by decide : (0 : Int32) = zi 0) (by decide : ir 0) hv
  · intro xx vv ev2 iv2 hv
    exact vw_X12_tells_47 hJ ia1 hp ev2 iv2 hv
def v_X12_move_12 (o : Nat) (a1 : Int) (post' : Int → mJ → Prop) (J : mJ) (v2 : Int) (v3 : Int) (v4 : Int) : Prop := ∀ ZZ : (mJ → Int → Int → Int → Prop), (∀ (J : mJ) (v2 : Int) (v3 : Int) (v4 : Int), (v_X12_of J o 0 (fun r2 => (r2 ≤ v4 → post' v2 J) ∧ (¬ r2 ≤ v4 → ∀ J3, J3 = up2 J o 21 v4 → v_X12_runs J3 o (fun J4 => v_X12_notesOf J4 o a1 (fun r5 => (v2 < 0 → ir (v4 + 1) ∧ ∀ y7, y7 = v4 + 1 → ZZ J4 v4 r5 y7) ∧ (¬ v2 < 0 → (r5 < v3 → ir (v4 + 1) ∧ ∀ y9, y9 = v4 + 1 → ZZ J4 v4 r5 y9) ∧ (¬ r5 < v3 → ir (v4 + 1) ∧ ∀ y11, y11 = v4 + 1 → ZZ J4 v2 v3 y11))))))) → ZZ J v2 v3 v4) → ZZ J v2 v3 v4
theorem vw_X12_move_12 {o : Nat} {a1 : Int}  (ia1 : ir a1) {post : Int32 → mI → Prop} {post' : Int → mJ → Prop} (hp : ∀ (x : Int32) (r : Int) (J1 : mJ), x = zi r → ir r → irm J1 → post' r J1 → post x (zz J1)) {J : mJ} {xv2 : Int32} {v2 : Int} {xv3 : Int32} {v3 : Int} {xv4 : Int32} {v4 : Int} (hJ : irm J) (ev2 : xv2 = zi v2) (iv2 : ir v2) (ev3 : xv3 = zi v3) (iv3 : ir v3) (ev4 : xv4 = zi v4) (iv4 : ir v4) (hv : v_X12_move_12 o a1 post' J v2 v3 v4) : w_X12_move_12 o (zi a1) post (zz J) xv2 xv3 xv4 := by
  subst ev2
  subst ev3
  subst ev4
  unfold v_X12_move_12 at hv
  unfold w_X12_move_12
  intro ZZ hZ
  refine hv (fun J v2 v3 v4 => ∀ (xv2 : Int32) (xv3 : Int32) (xv4 : Int32), irm J → xv2 = zi v2 → ir v2 → xv3 = zi v3 → ir v3 → xv4 = zi v4 → ir v4 → ZZ (zz J) xv2 xv3 xv4) ?_ _ _ _ hJ rfl iv2 rfl iv3 rfl iv4
  clear hv hJ iv2 iv3 iv4
  intro J v2 v3 v4 hv xv2 xv3 xv4 hJ ev2 iv2 ev3 iv3 ev4 iv4
  subst ev2
  subst ev3
  subst ev4
  refine hZ _ _ _ _ ?_
  refine vw_X12_of hJ (by decide : (0 : Int32) = zi 0) (by decide : ir 0) (fun xr2 r2 Er2 Ir2 hv => ?_) hv
  refine ⟨fun cq => ?_, fun cq => ?_⟩
  · have hv := hv.1 ((zle Er2 (rfl : zi v4 = zi v4) Ir2 iv4).mp cq)
    exact hp _ _ _ (rfl : zi v2 = zi v2) iv2 hJ hv
  · have hv := hv.2 (fun q => cq ((zle Er2 (rfl : zi v4 = zi v4) Ir2 iv4).mpr q))
    intro I1 eI1
    obtain ⟨J3, eJ3⟩ : ∃ q9 : mJ, q9 = up2 J o 21 v4 := ⟨_, rfl⟩
    have eI1 : I1 = zz J3 := by rw [eI1, eJ3]; exact zup (rfl : zi v4 = zi v4)
    subst eI1
    have hv := hv J3 eJ3
    have hJ : irm J3 := by rw [eJ3]; exact irm_up hJ iv4
    refine vw_X12_runs hJ  (fun J4 hJ hv => ?_) hv
    refine vw_X12_notesOf hJ (rfl : zi a1 = zi a1) ia1 (fun xr5 r5 Er5 Ir5 hv => ?_) hv
    refine ⟨fun cq => ?_, fun cq => ?_⟩
    · have hv := hv.1 ((zlt (rfl : zi v2 = zi v2) (by decide : (0 : Int32) = zi 0) iv2 (by decide : ir 0)).mp cq)
      obtain ⟨g6, hv⟩ := hv
      intro xy7 exy7
      obtain ⟨y7, eyy7⟩ : ∃ q9 : Int, q9 = v4 + 1 := ⟨_, rfl⟩
      have hv := hv y7 eyy7
      have Ey7 : xy7 = zi y7 := exy7.trans (((za (rfl : zi v4 = zi v4) (by decide : (1 : Int32) = zi 1))).trans (congrArg zi eyy7.symm))
      have Iy7 : ir y7 := by rw [eyy7]; exact g6
      clear exy7
      exact hv _ _ _ hJ (rfl : zi v4 = zi v4) iv4 Er5 Ir5 Ey7 Iy7
    · have hv := hv.2 (fun q => cq ((zlt (rfl : zi v2 = zi v2) (by decide : (0 : Int32) = zi 0) iv2 (by decide : ir 0)).mpr q))
      refine ⟨fun cq => ?_, fun cq => ?_⟩
      · have hv := hv.1 ((zlt Er5 (rfl : zi v3 = zi v3) Ir5 iv3).mp cq)
        obtain ⟨g8, hv⟩ := hv
        intro xy9 exy9
        obtain ⟨y9, eyy9⟩ : ∃ q9 : Int, q9 = v4 + 1 := ⟨_, rfl⟩
        have hv := hv y9 eyy9
        have Ey9 : xy9 = zi y9 := exy9.trans (((za (rfl : zi v4 = zi v4) (by decide : (1 : Int32) = zi 1))).trans (congrArg zi eyy9.symm))
        have Iy9 : ir y9 := by rw [eyy9]; exact g8
        clear exy9
        exact hv _ _ _ hJ (rfl : zi v4 = zi v4) iv4 Er5 Ir5 Ey9 Iy9
      · have hv := hv.2 (fun q => cq ((zlt Er5 (rfl : zi v3 = zi v3) Ir5 iv3).mpr q))
        obtain ⟨g10, hv⟩ := hv
        intro xy11 exy11
        obtain ⟨y11, eyy11⟩ : ∃ q9 : Int, q9 = v4 + 1 := ⟨_, rfl⟩
        have hv := hv y11 eyy11
        have Ey11 : xy11 = zi y11 := exy11.trans (((za (rfl : zi v4 = zi v4) (by decide : (1 : Int32) = zi 1))).trans (congrArg zi eyy11.symm))
        have Iy11 : ir y11 := by rw [eyy11]; exact g10
        clear exy11
        exact hv _ _ _ hJ (rfl : zi v2 = zi v2) iv2 (rfl : zi v3 = zi v3) iv3 Ey11 Iy11
def v_X12_move (J : mJ) (o : Nat) (a1 : Int) (post' : Int → mJ → Prop) : Prop := ∀ J1, J1 = up2 J o 20 a1 → (v_X12_move_12 o a1 post') J1 (-1) 0 0
theorem vw_X12_move {J : mJ} {o : Nat} {xa1 : Int32} {a1 : Int} (hJ : irm J)   (ea1 : xa1 = zi a1) (ia1 : ir a1) {post : Int32 → mI → Prop} {post' : Int → mJ → Prop} (hp : ∀ (x : Int32) (r : Int) (J1 : mJ), x = zi r → ir r → irm J1 → post' r J1 → post x (zz J1)) (hv : v_X12_move J o a1 post') : w_X12_move (zz J) o xa1 post := by
  subst ea1
  unfold v_X12_move at hv
  unfold w_X12_move
  intro I1 eI1
  obtain ⟨J1, eJ1⟩ : ∃ q9 : mJ, q9 = up2 J o 20 a1 := ⟨_, rfl⟩
  have eI1 : I1 = zz J1 := by rw [eI1, eJ1]; exact zup (rfl : zi a1 = zi a1)
  subst eI1
  have hv := hv J1 eJ1
  have hJ : irm J1 := by rw [eJ1]; exact irm_up hJ ia1
  exact vw_X12_move_12 ia1 hp hJ (by decide : ((-1) : Int32) = zi (-1)) (by decide : ir (-1)) (by decide : (0 : Int32) = zi 0) (by decide : ir 0) (by decide : (0 : Int32) = zi 0) (by decide : ir 0) hv
def v_X12_hire_11 (o : Nat) (a1 : Int) (post' : Int → mJ → Prop) (J : mJ) : Prop := ∀ ZZ : (mJ → Prop), (∀ (J : mJ), (((J o 14) < 0 → post' (-1) J) ∧ (¬ (J o 14) < 0 → v_X12_runs J o (fun J3 => v_X12_heardOf J3 o a1 (fun r4 => (¬ r4 = 0 → ir ((J3 o 14) - 1) ∧ ∀ J6, J6 = up2 J3 o 14 ((J3 o 14) - 1) → ZZ J6) ∧ (r4 = 0 → post' (J3 o 14) J3))))) → ZZ J) → ZZ J
theorem vw_X12_hire_11 {o : Nat} {a1 : Int}  (ia1 : ir a1) {post : Int32 → mI → Prop} {post' : Int → mJ → Prop} (hp : ∀ (x : Int32) (r : Int) (J1 : mJ), x = zi r → ir r → irm J1 → post' r J1 → post x (zz J1)) {J : mJ} (hJ : irm J) (hv : v_X12_hire_11 o a1 post' J) : w_X12_hire_11 o (zi a1) post (zz J) := by
  unfold v_X12_hire_11 at hv
  unfold w_X12_hire_11
  intro ZZ hZ
  refine hv (fun J => irm J → ZZ (zz J)) ?_ hJ
  clear hv hJ
  intro J hv hJ
  refine hZ _ ?_
  refine ⟨fun cq => ?_, fun cq => ?_⟩
  · have hv := hv.1 ((zlt zrf (by decide : (0 : Int32) = zi 0) (hJ _ _) (by decide : ir 0)).mp cq)
    exact hp _ _ _ (by decide : ((-1) : Int32) = zi (-1)) (by decide : ir (-1)) hJ hv
  · have hv := hv.2 (fun q => cq ((zlt zrf (by decide : (0 : Int32) = zi 0) (hJ _ _) (by decide : ir 0)).mpr q))
    refine vw_X12_runs hJ  (fun J3 hJ hv => ?_) hv
    refine vw_X12_heardOf hJ (rfl : zi a1 = zi a1) ia1 (fun xr4 r4 Er4 Ir4 hv => ?_) hv
    refine ⟨fun cq => ?_, fun cq => ?_⟩
    · have hv := hv.1 (fun q => cq ((zeq Er4 (by decide : (0 : Int32) = zi 0) Ir4 (by decide : ir 0)).mpr q))
      obtain ⟨g5, hv⟩ := hv
      intro I1 eI1
      obtain ⟨J6, eJ6⟩ : ∃ q9 : mJ, q9 = up2 J3 o 14 ((J3 o 14) - 1) := ⟨_, rfl⟩
      have eI1 : I1 = zz J6 := by rw [eI1, eJ6]; exact zup (zs zrf (by decide : (1 : Int32) = zi 1))
      subst eI1
      have hv := hv J6 eJ6
      have hJ : irm J6 := by rw [eJ6]; exact irm_up hJ g5
      exact hv  hJ
    · have hv := hv.2 ((zeq Er4 (by decide : (0 : Int32) = zi 0) Ir4 (by decide : ir 0)).mp cq)
      exact hp _ _ _ zrf (hJ _ _) hJ hv
def v_X12_hire (J : mJ) (o : Nat) (a1 : Int) (post' : Int → mJ → Prop) : Prop := ∀ J1, J1 = up2 J o 13 a1 → ∀ J2, J2 = up2 J1 o 14 9 → (v_X12_hire_11 o a1 post') J2
theorem vw_X12_hire {J : mJ} {o : Nat} {xa1 : Int32} {a1 : Int} (hJ : irm J)   (ea1 : xa1 = zi a1) (ia1 : ir a1) {post : Int32 → mI → Prop} {post' : Int → mJ → Prop} (hp : ∀ (x : Int32) (r : Int) (J1 : mJ), x = zi r → ir r → irm J1 → post' r J1 → post x (zz J1)) (hv : v_X12_hire J o a1 post') : w_X12_hire (zz J) o xa1 post := by
  subst ea1
  unfold v_X12_hire at hv
  unfold w_X12_hire
  intro I1 eI1
  obtain ⟨J1, eJ1⟩ : ∃ q9 : mJ, q9 = up2 J o 13 a1 := ⟨_, rfl⟩
  have eI1 : I1 = zz J1 := by rw [eI1, eJ1]; exact zup (rfl : zi a1 = zi a1)
  subst eI1
  have hv := hv J1 eJ1
  have hJ : irm J1 := by rw [eJ1]; exact irm_up hJ ia1
  intro I1 eI1
  obtain ⟨J2, eJ2⟩ : ∃ q9 : mJ, q9 = up2 J1 o 14 9 := ⟨_, rfl⟩
  have eI1 : I1 = zz J2 := by rw [eI1, eJ2]; exact zup (by decide : (9 : Int32) = zi 9)
  subst eI1
  have hv := hv J2 eJ2
  have hJ : irm J2 := by rw [eJ2]; exact irm_up hJ (by decide : ir 9)
  exact vw_X12_hire_11 ia1 hp hJ hv
def v_X12_late_45 (o : Nat) (a1 : Int) (post' : Int → mJ → Prop) (k98' : mJ → Int → Int → Int → Prop) (J : mJ) (v2 : Int) (v3 : Int) (v4 : Int) (v5 : Int) : Prop := ∀ ZZ : (mJ → Int → Int → Int → Int → Prop), (∀ (J : mJ) (v2 : Int) (v3 : Int) (v4 : Int) (v5 : Int), (((J o 25) ≤ v5 → k98' J v2 v3 v4) ∧ (¬ (J o 25) ≤ v5 → (0 ≤ v5 ∧ v5 < 640) ∧ (¬ (J (o + 4) v5.toNat) = a1 → ir (v4 + 0) ∧ ∀ y7, y7 = (v4 + 0) → ir (v5 + 1) ∧ ∀ y9, y9 = v5 + 1 → ZZ J v2 v3 y7 y9) ∧ ((J (o + 4) v5.toNat) = a1 → (0 ≤ v5 ∧ v5 < 640) ∧ (0 ≤ v5 ∧ v5 < 640) ∧ v_X12_bits (orZ (J (o + 10) v5.toNat) (J (o + 11) v5.toNat)) (fun r12 => ir (v4 + r12) ∧ ∀ y14, y14 = (v4 + r12) → ir (v5 + 1) ∧ ∀ y16, y16 = v5 + 1 → ZZ J v2 v3 y14 y16)))) → ZZ J v2 v3 v4 v5) → ZZ J v2 v3 v4 v5
theorem vw_X12_late_45 {o : Nat} {a1 : Int}  (ia1 : ir a1) {post : Int32 → mI → Prop} {post' : Int → mJ → Prop} {k98' : mJ → Int → Int → Int → Prop} {k98 : mI → Int32 → Int32 → Int32 → Prop} (hp : ∀ (x : Int32) (r : Int) (J1 : mJ), x = zi r → ir r → irm J1 → post' r J1 → post x (zz J1)) (hk98 : ∀ (J : mJ) (xv2 : Int32) (v2 : Int) (xv3 : Int32) (v3 : Int) (xv4 : Int32) (v4 : Int), irm J → xv2 = zi v2 → ir v2 → xv3 = zi v3 → ir v3 → xv4 = zi v4 → ir v4 → k98' J v2 v3 v4 → k98 (zz J) xv2 xv3 xv4) {J : mJ} {xv2 : Int32} {v2 : Int} {xv3 : Int32} {v3 : Int} {xv4 : Int32} {v4 : Int} {xv5 : Int32} {v5 : Int} (hJ : irm J) (ev2 : xv2 = zi v2) (iv2 : ir v2) (ev3 : xv3 = zi v3) (iv3 : ir v3) (ev4 : xv4 = zi v4) (iv4 : ir v4) (ev5 : xv5 = zi v5) (iv5 : ir v5) (hv : v_X12_late_45 o a1 post' k98' J v2 v3 v4 v5) : w_X12_late_45 o (zi a1) post k98 (zz J) xv2 xv3 xv4 xv5 := by
  subst ev2
  subst ev3
  subst ev4
  subst ev5
  unfold v_X12_late_45 at hv
  unfold w_X12_late_45
  intro ZZ hZ
  refine hv (fun J v2 v3 v4 v5 => ∀ (xv2 : Int32) (xv3 : Int32) (xv4 : Int32) (xv5 : Int32), irm J → xv2 = zi v2 → ir v2 → xv3 = zi v3 → ir v3 → xv4 = zi v4 → ir v4 → xv5 = zi v5 → ir v5 → ZZ (zz J) xv2 xv3 xv4 xv5) ?_ _ _ _ _ hJ rfl iv2 rfl iv3 rfl iv4 rfl iv5
  clear hv hJ iv2 iv3 iv4 iv5
  intro J v2 v3 v4 v5 hv xv2 xv3 xv4 xv5 hJ ev2 iv2 ev3 iv3 ev4 iv4 ev5 iv5
  subst ev2
  subst ev3
  subst ev4
  subst ev5
  refine hZ _ _ _ _ _ ?_
  refine ⟨fun cq => ?_, fun cq => ?_⟩
  · have hv := hv.1 ((zle zrf (rfl : zi v5 = zi v5) (hJ _ _) iv5).mp cq)
    exact hk98 _ _ _ _ _ _ _ hJ (rfl : zi v2 = zi v2) iv2 (rfl : zi v3 = zi v3) iv3 (rfl : zi v4 = zi v4) iv4 hv
  · have hv := hv.2 (fun q => cq ((zle zrf (rfl : zi v5 = zi v5) (hJ _ _) iv5).mpr q))
    obtain ⟨g5, hv⟩ := hv
    refine ⟨zvp (rfl : zi v5 = zi v5) iv5 g5.1 g5.2, ?_⟩
    refine ⟨fun cq => ?_, fun cq => ?_⟩
    · have hv := hv.1 (fun q => cq ((zeq (zrd (rfl : zi v5 = zi v5) iv5 g5.1) (rfl : zi a1 = zi a1) (hJ _ _) ia1).mpr q))
      obtain ⟨g6, hv⟩ := hv
      intro xy7 exy7
      obtain ⟨y7, eyy7⟩ : ∃ q9 : Int, q9 = (v4 + 0) := ⟨_, rfl⟩
      have hv := hv y7 eyy7
      have Ey7 : xy7 = zi y7 := exy7.trans (((za (rfl : zi v4 = zi v4) (by decide : (0 : Int32) = zi 0))).trans (congrArg zi eyy7.symm))
      have Iy7 : ir y7 := by rw [eyy7]; exact g6
      clear exy7
      obtain ⟨g8, hv⟩ := hv
      intro xy9 exy9
      obtain ⟨y9, eyy9⟩ : ∃ q9 : Int, q9 = v5 + 1 := ⟨_, rfl⟩
      have hv := hv y9 eyy9
      have Ey9 : xy9 = zi y9 := exy9.trans (((za (rfl : zi v5 = zi v5) (by decide : (1 : Int32) = zi 1))).trans (congrArg zi eyy9.symm))
      have Iy9 : ir y9 := by rw [eyy9]; exact g8
      clear exy9
      exact hv _ _ _ _ hJ (rfl : zi v2 = zi v2) iv2 (rfl : zi v3 = zi v3) iv3 Ey7 Iy7 Ey9 Iy9
    · have hv := hv.2 ((zeq (zrd (rfl : zi v5 = zi v5) iv5 g5.1) (rfl : zi a1 = zi a1) (hJ _ _) ia1).mp cq)
      obtain ⟨g10, hv⟩ := hv
      refine ⟨zvp (rfl : zi v5 = zi v5) iv5 g10.1 g10.2, ?_⟩
      obtain ⟨g11, hv⟩ := hv
      refine ⟨zvp (rfl : zi v5 = zi v5) iv5 g11.1 g11.2, ?_⟩
      refine vw_X12_bits (z_or (zrd (rfl : zi v5 = zi v5) iv5 g10.1) (zrd (rfl : zi v5 = zi v5) iv5 g11.1)) (ir_toInt _) (fun xr12 r12 Er12 Ir12 hv => ?_) hv
      obtain ⟨g13, hv⟩ := hv
      intro xy14 exy14
      obtain ⟨y14, eyy14⟩ : ∃ q9 : Int, q9 = (v4 + r12) := ⟨_, rfl⟩
      have hv := hv y14 eyy14
      have Ey14 : xy14 = zi y14 := exy14.trans (((za (rfl : zi v4 = zi v4) Er12)).trans (congrArg zi eyy14.symm))
      have Iy14 : ir y14 := by rw [eyy14]; exact g13
      clear exy14
      obtain ⟨g15, hv⟩ := hv
      intro xy16 exy16
      obtain ⟨y16, eyy16⟩ : ∃ q9 : Int, q9 = v5 + 1 := ⟨_, rfl⟩
      have hv := hv y16 eyy16
      have Ey16 : xy16 = zi y16 := exy16.trans (((za (rfl : zi v5 = zi v5) (by decide : (1 : Int32) = zi 1))).trans (congrArg zi eyy16.symm))
      have Iy16 : ir y16 := by rw [eyy16]; exact g15
      clear exy16
      exact hv _ _ _ _ hJ (rfl : zi v2 = zi v2) iv2 (rfl : zi v3 = zi v3) iv3 Ey14 Iy14 Ey16 Iy16
def v_X12_late_119 (o : Nat) (a1 : Int) (post' : Int → mJ → Prop) (k26' : mJ → Int → Int → Prop) (J : mJ) (v2 : Int) (v3 : Int) : Prop := ir ((J o 16) + 1) ∧ ∀ J18, J18 = up2 J o 16 ((J o 16) + 1) → k26' J18 v2 v3
theorem vw_X12_late_119 {o : Nat} {a1 : Int}  (ia1 : ir a1) {post : Int32 → mI → Prop} {post' : Int → mJ → Prop} {k26' : mJ → Int → Int → Prop} {k26 : mI → Int32 → Int32 → Prop} (hp : ∀ (x : Int32) (r : Int) (J1 : mJ), x = zi r → ir r → irm J1 → post' r J1 → post x (zz J1)) (hk26 : ∀ (J : mJ) (xv2 : Int32) (v2 : Int) (xv3 : Int32) (v3 : Int), irm J → xv2 = zi v2 → ir v2 → xv3 = zi v3 → ir v3 → k26' J v2 v3 → k26 (zz J) xv2 xv3) {J : mJ} {xv2 : Int32} {v2 : Int} {xv3 : Int32} {v3 : Int} (hJ : irm J) (ev2 : xv2 = zi v2) (iv2 : ir v2) (ev3 : xv3 = zi v3) (iv3 : ir v3) (hv : v_X12_late_119 o a1 post' k26' J v2 v3) : w_X12_late_119 o (zi a1) post k26 (zz J) xv2 xv3 := by
  subst ev2
  subst ev3
  unfold v_X12_late_119 at hv
  unfold w_X12_late_119
  obtain ⟨g17, hv⟩ := hv
  intro I1 eI1
  obtain ⟨J18, eJ18⟩ : ∃ q9 : mJ, q9 = up2 J o 16 ((J o 16) + 1) := ⟨_, rfl⟩
  have eI1 : I1 = zz J18 := by rw [eI1, eJ18]; exact zup (za zrf (by decide : (1 : Int32) = zi 1))
  subst eI1
  have hv := hv J18 eJ18
  have hJ : irm J18 := by rw [eJ18]; exact irm_up hJ g17
  exact hk26 _ _ _ _ _ hJ (rfl : zi v2 = zi v2) iv2 (rfl : zi v3 = zi v3) iv3 hv
def v_X12_late_111 (o : Nat) (a1 : Int) (post' : Int → mJ → Prop) (k26' : mJ → Int → Int → Prop) (J : mJ) (v4 : Int) : Prop := ∀ y19, y19 = (J o 16) → (v_X12_late_119 o a1 post' k26') J y19 v4
theorem vw_X12_late_111 {o : Nat} {a1 : Int}  (ia1 : ir a1) {post : Int32 → mI → Prop} {post' : Int → mJ → Prop} {k26' : mJ → Int → Int → Prop} {k26 : mI → Int32 → Int32 → Prop} (hp : ∀ (x : Int32) (r : Int) (J1 : mJ), x = zi r → ir r → irm J1 → post' r J1 → post x (zz J1)) (hk26 : ∀ (J : mJ) (xv2 : Int32) (v2 : Int) (xv3 : Int32) (v3 : Int), irm J → xv2 = zi v2 → ir v2 → xv3 = zi v3 → ir v3 → k26' J v2 v3 → k26 (zz J) xv2 xv3) {J : mJ} {xv4 : Int32} {v4 : Int} (hJ : irm J) (ev4 : xv4 = zi v4) (iv4 : ir v4) (hv : v_X12_late_111 o a1 post' k26' J v4) : w_X12_late_111 o (zi a1) post k26 (zz J) xv4 := by
  subst ev4
  unfold v_X12_late_111 at hv
  unfold w_X12_late_111
  intro xy19 exy19
  obtain ⟨y19, eyy19⟩ : ∃ q9 : Int, q9 = (J o 16) := ⟨_, rfl⟩
  have hv := hv y19 eyy19
  have Ey19 : xy19 = zi y19 := exy19.trans ((zrf).trans (congrArg zi eyy19.symm))
  have Iy19 : ir y19 := by rw [eyy19]; exact (hJ _ _)
  clear exy19
  refine vw_X12_late_119 ia1 hp hk26 hJ Ey19 Iy19 (rfl : zi v4 = zi v4) iv4 hv
def v_X12_late_98 (o : Nat) (a1 : Int) (post' : Int → mJ → Prop) (k26' : mJ → Int → Int → Prop) (J : mJ) (v2 : Int) (v3 : Int) (v4 : Int) : Prop := (v2 < 0 → (v_X12_late_111 o a1 post' k26') J v4) ∧ (¬ v2 < 0 → (v4 < v3 → (v_X12_late_111 o a1 post' k26') J v4) ∧ (¬ v4 < v3 → (v_X12_late_119 o a1 post' k26') J v2 v3))
theorem vw_X12_late_98 {o : Nat} {a1 : Int}  (ia1 : ir a1) {post : Int32 → mI → Prop} {post' : Int → mJ → Prop} {k26' : mJ → Int → Int → Prop} {k26 : mI → Int32 → Int32 → Prop} (hp : ∀ (x : Int32) (r : Int) (J1 : mJ), x = zi r → ir r → irm J1 → post' r J1 → post x (zz J1)) (hk26 : ∀ (J : mJ) (xv2 : Int32) (v2 : Int) (xv3 : Int32) (v3 : Int), irm J → xv2 = zi v2 → ir v2 → xv3 = zi v3 → ir v3 → k26' J v2 v3 → k26 (zz J) xv2 xv3) {J : mJ} {xv2 : Int32} {v2 : Int} {xv3 : Int32} {v3 : Int} {xv4 : Int32} {v4 : Int} (hJ : irm J) (ev2 : xv2 = zi v2) (iv2 : ir v2) (ev3 : xv3 = zi v3) (iv3 : ir v3) (ev4 : xv4 = zi v4) (iv4 : ir v4) (hv : v_X12_late_98 o a1 post' k26' J v2 v3 v4) : w_X12_late_98 o (zi a1) post k26 (zz J) xv2 xv3 xv4 := by
  subst ev2
  subst ev3
  subst ev4
  unfold v_X12_late_98 at hv
  unfold w_X12_late_98
  refine ⟨fun cq => ?_, fun cq => ?_⟩
  · have hv := hv.1 ((zlt (rfl : zi v2 = zi v2) (by decide : (0 : Int32) = zi 0) iv2 (by decide : ir 0)).mp cq)
    refine vw_X12_late_111 ia1 hp hk26 hJ (rfl : zi v4 = zi v4) iv4 hv
  · have hv := hv.2 (fun q => cq ((zlt (rfl : zi v2 = zi v2) (by decide : (0 : Int32) = zi 0) iv2 (by decide : ir 0)).mpr q))
    refine ⟨fun cq => ?_, fun cq => ?_⟩
    · have hv := hv.1 ((zlt (rfl : zi v4 = zi v4) (rfl : zi v3 = zi v3) iv4 iv3).mp cq)
      refine vw_X12_late_111 ia1 hp hk26 hJ (rfl : zi v4 = zi v4) iv4 hv
    · have hv := hv.2 (fun q => cq ((zlt (rfl : zi v4 = zi v4) (rfl : zi v3 = zi v3) iv4 iv3).mpr q))
      refine vw_X12_late_119 ia1 hp hk26 hJ (rfl : zi v2 = zi v2) iv2 (rfl : zi v3 = zi v3) iv3 hv
def v_X12_late_26 (o : Nat) (a1 : Int) (post' : Int → mJ → Prop) (J : mJ) (v2 : Int) (v3 : Int) : Prop := ∀ ZZ : (mJ → Int → Int → Prop), (∀ (J : mJ) (v2 : Int) (v3 : Int), ((60 < (J o 16) → post' v2 J) ∧ (¬ 60 < (J o 16) → v_X12_runs J o (fun J4 => (v_X12_late_45 o a1 post' (v_X12_late_98 o a1 post' ZZ)) J4 v2 v3 0 0))) → ZZ J v2 v3) → ZZ J v2 v3
theorem vw_X12_late_26 {o : Nat} {a1 : Int}  (ia1 : ir a1) {post : Int32 → mI → Prop} {post' : Int → mJ → Prop} (hp : ∀ (x : Int32) (r : Int) (J1 : mJ), x = zi r → ir r → irm J1 → post' r J1 → post x (zz J1)) {J : mJ} {xv2 : Int32} {v2 : Int} {xv3 : Int32} {v3 : Int} (hJ : irm J) (ev2 : xv2 = zi v2) (iv2 : ir v2) (ev3 : xv3 = zi v3) (iv3 : ir v3) (hv : v_X12_late_26 o a1 post' J v2 v3) : w_X12_late_26 o (zi a1) post (zz J) xv2 xv3 := by
  subst ev2
  subst ev3
  unfold v_X12_late_26 at hv
  unfold w_X12_late_26
  intro ZZ hZ
  refine hv (fun J v2 v3 => ∀ (xv2 : Int32) (xv3 : Int32), irm J → xv2 = zi v2 → ir v2 → xv3 = zi v3 → ir v3 → ZZ (zz J) xv2 xv3) ?_ _ _ hJ rfl iv2 rfl iv3
  clear hv hJ iv2 iv3
  intro J v2 v3 hv xv2 xv3 hJ ev2 iv2 ev3 iv3
  subst ev2
  subst ev3
  refine hZ _ _ _ ?_
  refine ⟨fun cq => ?_, fun cq => ?_⟩
  · have hv := hv.1 ((zlt (by decide : (60 : Int32) = zi 60) zrf (by decide : ir 60) (hJ _ _)).mp cq)
    exact hp _ _ _ (rfl : zi v2 = zi v2) iv2 hJ hv
  · have hv := hv.2 (fun q => cq ((zlt (by decide : (60 : Int32) = zi 60) zrf (by decide : ir 60) (hJ _ _)).mpr q))
    refine vw_X12_runs hJ  (fun J4 hJ hv => ?_) hv
    refine vw_X12_late_45 ia1 hp ?_ hJ (rfl : zi v2 = zi v2) iv2 (rfl : zi v3 = zi v3) iv3 (by decide : (0 : Int32) = zi 0) (by decide : ir 0) (by decide : (0 : Int32) = zi 0) (by decide : ir 0) hv
    · intro qq xx vv xx vv xx vv hJ ev2 iv2 ev3 iv3 ev4 iv4 hv
      refine vw_X12_late_98 ia1 hp ?_ hJ ev2 iv2 ev3 iv3 ev4 iv4 hv
      · intro qq xx vv xx vv hJ ev2 iv2 ev3 iv3 hv
        exact hv _ _ hJ ev2 iv2 ev3 iv3
def v_X12_late (J : mJ) (o : Nat) (a1 : Int) (post' : Int → mJ → Prop) : Prop := v_X12_told J o a1 3 (fun r1 => (¬ r1 = (-1) → ∀ J2, J2 = up2 J o 15 a1 → ∀ J3, J3 = up2 J2 o 16 0 → (v_X12_late_26 o a1 post') J3 (-1) 0) ∧ (r1 = (-1) → post' (-1) J))
theorem vw_X12_late {J : mJ} {o : Nat} {xa1 : Int32} {a1 : Int} (hJ : irm J)   (ea1 : xa1 = zi a1) (ia1 : ir a1) {post : Int32 → mI → Prop} {post' : Int → mJ → Prop} (hp : ∀ (x : Int32) (r : Int) (J1 : mJ), x = zi r → ir r → irm J1 → post' r J1 → post x (zz J1)) (hv : v_X12_late J o a1 post') : w_X12_late (zz J) o xa1 post := by
  subst ea1
  unfold v_X12_late at hv
  unfold w_X12_late
  refine vw_X12_told hJ (rfl : zi a1 = zi a1) ia1 (by decide : (3 : Int32) = zi 3) (by decide : ir 3) (fun xr1 r1 Er1 Ir1 hv => ?_) hv
  refine ⟨fun cq => ?_, fun cq => ?_⟩
  · have hv := hv.1 (fun q => cq ((zeq Er1 (by decide : ((-1) : Int32) = zi (-1)) Ir1 (by decide : ir (-1))).mpr q))
    intro I1 eI1
    obtain ⟨J2, eJ2⟩ : ∃ q9 : mJ, q9 = up2 J o 15 a1 := ⟨_, rfl⟩
    have eI1 : I1 = zz J2 := by rw [eI1, eJ2]; exact zup (rfl : zi a1 = zi a1)
    subst eI1
    have hv := hv J2 eJ2
    have hJ : irm J2 := by rw [eJ2]; exact irm_up hJ ia1
    intro I1 eI1
    obtain ⟨J3, eJ3⟩ : ∃ q9 : mJ, q9 = up2 J2 o 16 0 := ⟨_, rfl⟩
    have eI1 : I1 = zz J3 := by rw [eI1, eJ3]; exact zup (by decide : (0 : Int32) = zi 0)
    subst eI1
    have hv := hv J3 eJ3
    have hJ : irm J3 := by rw [eJ3]; exact irm_up hJ (by decide : ir 0)
    exact vw_X12_late_26 ia1 hp hJ (by decide : ((-1) : Int32) = zi (-1)) (by decide : ir (-1)) (by decide : (0 : Int32) = zi 0) (by decide : ir 0) hv
  · have hv := hv.2 ((zeq Er1 (by decide : ((-1) : Int32) = zi (-1)) Ir1 (by decide : ir (-1))).mp cq)
    exact hp _ _ _ (by decide : ((-1) : Int32) = zi (-1)) (by decide : ir (-1)) hJ hv
def v_X12_look (J : mJ) (o : Nat) (a1 : Int) (a2 : Int) (post' : Int → mJ → Prop) : Prop := v_X12_isHouse J o a1 (fun b1 J2 => (b1 = true → v_X12_runs J2 o (fun J3 => (¬ a2 = 0 → (¬ a2 = 1 → (¬ a2 = 2 → v_X12_isFlat J3 o (subW a2 10) (fun b4 => (b4 = false → v_X12_isFlat J3 o (subW a2 20) (fun b5 => (b5 = false → v_X12_isPerson J3 o (subW a2 30) (fun b6 => (b6 = false → v_X12_isPerson J3 o (subW a2 40) (fun b7 => (b7 = false → post' (-2) J3) ∧ (b7 = true → v_X12_late J3 o (subW a2 40) (fun r8 J9 => post' r8 J9)))) ∧ (b6 = true → v_X12_hire J3 o (subW a2 30) (fun r10 J11 => post' r10 J11)))) ∧ (b5 = true → v_X12_move J3 o (subW a2 20) (fun r12 J13 => post' r12 J13)))) ∧ (b4 = true → v_X12_tells J3 o (subW a2 10) (fun r14 => post' r14 J3)))) ∧ (a2 = 2 → v_X12_copies J3 o (fun r15 => post' r15 J3))) ∧ (a2 = 1 → v_X12_busy J3 o (fun r16 => post' r16 J3))) ∧ (a2 = 0 → v_X12_hollow J3 o (fun r17 => post' r17 J3)))) ∧ (b1 = false → post' (-2) J2))
theorem vw_X12_look {J : mJ} {o : Nat} {xa1 : Int32} {a1 : Int} {xa2 : Int32} {a2 : Int} (hJ : irm J)   (ea1 : xa1 = zi a1) (ia1 : ir a1) (ea2 : xa2 = zi a2) (ia2 : ir a2) {post : Int32 → mI → Prop} {post' : Int → mJ → Prop} (hp : ∀ (x : Int32) (r : Int) (J1 : mJ), x = zi r → ir r → irm J1 → post' r J1 → post x (zz J1)) (hv : v_X12_look J o a1 a2 post') : w_X12_look (zz J) o xa1 xa2 post := by
  subst ea1
  subst ea2
  unfold v_X12_look at hv
  unfold w_X12_look
  refine vw_X12_isHouse hJ (rfl : zi a1 = zi a1) ia1 (fun b1 J2 hJ hv => ?_) hv
  refine ⟨fun cq => ?_, fun cq => ?_⟩
  · have hv := hv.1 cq
    refine vw_X12_runs hJ  (fun J3 hJ hv => ?_) hv
    refine ⟨fun cq => ?_, fun cq => ?_⟩
    · have hv := hv.1 (fun q => cq ((zeq (rfl : zi a2 = zi a2) (by decide : (0 : Int32) = zi 0) ia2 (by decide : ir 0)).mpr q))
      refine ⟨fun cq => ?_, fun cq => ?_⟩
      · have hv := hv.1 (fun q => cq ((zeq (rfl : zi a2 = zi a2) (by decide : (1 : Int32) = zi 1) ia2 (by decide : ir 1)).mpr q))
        refine ⟨fun cq => ?_, fun cq => ?_⟩
        · have hv := hv.1 (fun q => cq ((zeq (rfl : zi a2 = zi a2) (by decide : (2 : Int32) = zi 2) ia2 (by decide : ir 2)).mpr q))
          refine vw_X12_isFlat hJ (z_subW (rfl : zi a2 = zi a2) (by decide : (10 : Int32) = zi 10)) (ir_toInt _) (fun b4  hv => ?_) hv
          refine ⟨fun cq => ?_, fun cq => ?_⟩
          · have hv := hv.1 cq
            refine vw_X12_isFlat hJ (z_subW (rfl : zi a2 = zi a2) (by decide : (20 : Int32) = zi 20)) (ir_toInt _) (fun b5  hv => ?_) hv
            refine ⟨fun cq => ?_, fun cq => ?_⟩
            · have hv := hv.1 cq
              refine vw_X12_isPerson hJ (z_subW (rfl : zi a2 = zi a2) (by decide : (30 : Int32) = zi 30)) (ir_toInt _) (fun b6  hv => ?_) hv
              refine ⟨fun cq => ?_, fun cq => ?_⟩
              · have hv := hv.1 cq
                refine vw_X12_isPerson hJ (z_subW (rfl : zi a2 = zi a2) (by decide : (40 : Int32) = zi 40)) (ir_toInt _) (fun b7  hv => ?_) hv
                refine ⟨fun cq => ?_, fun cq => ?_⟩
                · have hv := hv.1 cq
                  exact hp _ _ _ (by decide : ((-2) : Int32) = zi (-2)) (by decide : ir (-2)) hJ hv
                · have hv := hv.2 cq
                  refine vw_X12_late hJ (z_subW (rfl : zi a2 = zi a2) (by decide : (40 : Int32) = zi 40)) (ir_toInt _) (fun xr8 r8 J9 Er8 Ir8 hJ hv => ?_) hv
                  exact hp _ _ _ Er8 Ir8 hJ hv
              · have hv := hv.2 cq
                refine vw_X12_hire hJ (z_subW (rfl : zi a2 = zi a2) (by decide : (30 : Int32) = zi 30)) (ir_toInt _) (fun xr10 r10 J11 Er10 Ir10 hJ hv => ?_) hv
                exact hp _ _ _ Er10 Ir10 hJ hv
            · have hv := hv.2 cq
              refine vw_X12_move hJ (z_subW (rfl : zi a2 = zi a2) (by decide : (20 : Int32) = zi 20)) (ir_toInt _) (fun xr12 r12 J13 Er12 Ir12 hJ hv => ?_) hv
              exact hp _ _ _ Er12 Ir12 hJ hv
          · have hv := hv.2 cq
            refine vw_X12_tells hJ (z_subW (rfl : zi a2 = zi a2) (by decide : (10 : Int32) = zi 10)) (ir_toInt _) (fun xr14 r14 Er14 Ir14 hv => ?_) hv
            exact hp _ _ _ Er14 Ir14 hJ hv
        · have hv := hv.2 ((zeq (rfl : zi a2 = zi a2) (by decide : (2 : Int32) = zi 2) ia2 (by decide : ir 2)).mp cq)
          refine vw_X12_copies hJ  (fun xr15 r15 Er15 Ir15 hv => ?_) hv
          exact hp _ _ _ Er15 Ir15 hJ hv
      · have hv := hv.2 ((zeq (rfl : zi a2 = zi a2) (by decide : (1 : Int32) = zi 1) ia2 (by decide : ir 1)).mp cq)
        refine vw_X12_busy hJ  (fun xr16 r16 Er16 Ir16 hv => ?_) hv
        exact hp _ _ _ Er16 Ir16 hJ hv
    · have hv := hv.2 ((zeq (rfl : zi a2 = zi a2) (by decide : (0 : Int32) = zi 0) ia2 (by decide : ir 0)).mp cq)
      refine vw_X12_hollow hJ  (fun xr17 r17 Er17 Ir17 hv => ?_) hv
      exact hp _ _ _ Er17 Ir17 hJ hv
  · have hv := hv.2 cq
    exact hp _ _ _ (by decide : ((-2) : Int32) = zi (-2)) (by decide : ir (-2)) hJ hv
def v_X12_count (J : mJ) (o : Nat) (a1 : Int) (post' : Int → Prop) : Prop := v_X12_isIn a1 0 1 (fun b1 => (b1 = false → post' (-2)) ∧ (b1 = true → (0 ≤ a1 ∧ a1 < 3960) ∧ post' (J (o + 1) a1.toNat)))
theorem vw_X12_count {J : mJ} {o : Nat} {xa1 : Int32} {a1 : Int} (hJ : irm J)   (ea1 : xa1 = zi a1) (ia1 : ir a1) {post : Int32 → Prop} {post' : Int → Prop} (hp : ∀ (x : Int32) (r : Int), x = zi r → ir r → post' r → post x) (hv : v_X12_count J o a1 post') : w_X12_count (zz J) o xa1 post := by
  subst ea1
  unfold v_X12_count at hv
  unfold w_X12_count
  refine vw_X12_isIn (rfl : zi a1 = zi a1) ia1 (by decide : (0 : Int32) = zi 0) (by decide : ir 0) (by decide : (1 : Int32) = zi 1) (by decide : ir 1) (fun b1  hv => ?_) hv
  refine ⟨fun cq => ?_, fun cq => ?_⟩
  · have hv := hv.1 cq
    exact hp _ _ (by decide : ((-2) : Int32) = zi (-2)) (by decide : ir (-2)) hv
  · have hv := hv.2 cq
    obtain ⟨g2, hv⟩ := hv
    refine ⟨zvp (rfl : zi a1 = zi a1) ia1 g2.1 g2.2, ?_⟩
    exact hp _ _ (zrd (rfl : zi a1 = zi a1) ia1 g2.1) (hJ _ _) hv
def v_X12_image_20 (o : Nat) (a1 : Int) (post' : Bool → mJ → Prop) (J : mJ) (v2 : Int) : Prop := ∀ ZZ : (mJ → Int → Prop), (∀ (J : mJ) (v2 : Int), ((990 ≤ v2 → post' true J) ∧ (¬ 990 ≤ v2 → ir (a1 + 1) ∧ ir (990 * (a1 + 1)) ∧ ir ((990 * (a1 + 1)) + v2) ∧ (0 ≤ v2 ∧ v2 < 3960) ∧ (0 ≤ ((990 * (a1 + 1)) + v2) ∧ ((990 * (a1 + 1)) + v2) < 3960) ∧ ∀ J9, J9 = up2 J (o + 1) (((990 * (a1 + 1)) + v2).toNat) (J (o + 1) v2.toNat) → ir (v2 + 1) ∧ ∀ y11, y11 = v2 + 1 → ZZ J9 y11)) → ZZ J v2) → ZZ J v2
theorem vw_X12_image_20 {o : Nat} {a1 : Int}  (ia1 : ir a1) {post : Bool → mI → Prop} {post' : Bool → mJ → Prop} (hp : ∀ (r : Bool) (J1 : mJ), irm J1 → post' r J1 → post r (zz J1)) {J : mJ} {xv2 : Int32} {v2 : Int} (hJ : irm J) (ev2 : xv2 = zi v2) (iv2 : ir v2) (hv : v_X12_image_20 o a1 post' J v2) : w_X12_image_20 o (zi a1) post (zz J) xv2 := by
  subst ev2
  unfold v_X12_image_20 at hv
  unfold w_X12_image_20
  intro ZZ hZ
  refine hv (fun J v2 => ∀ (xv2 : Int32), irm J → xv2 = zi v2 → ir v2 → ZZ (zz J) xv2) ?_ _ hJ rfl iv2
  clear hv hJ iv2
  intro J v2 hv xv2 hJ ev2 iv2
  subst ev2
  refine hZ _ _ ?_
  refine ⟨fun cq => ?_, fun cq => ?_⟩
  · have hv := hv.1 ((zle (by decide : (990 : Int32) = zi 990) (rfl : zi v2 = zi v2) (by decide : ir 990) iv2).mp cq)
    exact hp _ _ hJ hv
  · have hv := hv.2 (fun q => cq ((zle (by decide : (990 : Int32) = zi 990) (rfl : zi v2 = zi v2) (by decide : ir 990) iv2).mpr q))
    obtain ⟨g4, hv⟩ := hv
    obtain ⟨g5, hv⟩ := hv
    obtain ⟨g6, hv⟩ := hv
    obtain ⟨g7, hv⟩ := hv
    refine ⟨zvp (rfl : zi v2 = zi v2) iv2 g7.1 g7.2, ?_⟩
    obtain ⟨g8, hv⟩ := hv
    refine ⟨zvp (za (zm (by decide : (990 : Int32) = zi 990) (za (rfl : zi a1 = zi a1) (by decide : (1 : Int32) = zi 1))) (rfl : zi v2 = zi v2)) g6 g8.1 g8.2, ?_⟩
    intro I1 eI1
    obtain ⟨J9, eJ9⟩ : ∃ q9 : mJ, q9 = up2 J (o + 1) (((990 * (a1 + 1)) + v2).toNat) (J (o + 1) v2.toNat) := ⟨_, rfl⟩
    have eI1 : I1 = zz J9 := by rw [eI1, eJ9]; exact zupa (za (zm (by decide : (990 : Int32) = zi 990) (za (rfl : zi a1 = zi a1) (by decide : (1 : Int32) = zi 1))) (rfl : zi v2 = zi v2)) g6 g8.1 (zrd (rfl : zi v2 = zi v2) iv2 g7.1)
    subst eI1
    have hv := hv J9 eJ9
    have hJ : irm J9 := by rw [eJ9]; exact irm_up hJ (hJ _ _)
    obtain ⟨g10, hv⟩ := hv
    intro xy11 exy11
    obtain ⟨y11, eyy11⟩ : ∃ q9 : Int, q9 = v2 + 1 := ⟨_, rfl⟩
    have hv := hv y11 eyy11
    have Ey11 : xy11 = zi y11 := exy11.trans (((za (rfl : zi v2 = zi v2) (by decide : (1 : Int32) = zi 1))).trans (congrArg zi eyy11.symm))
    have Iy11 : ir y11 := by rw [eyy11]; exact g10
    clear exy11
    exact hv _ hJ Ey11 Iy11
def v_X12_image (J : mJ) (o : Nat) (a1 : Int) (post' : Bool → mJ → Prop) : Prop := v_X12_isIn a1 0 2 (fun b1 => (b1 = true → (0 ≤ a1 ∧ a1 < 3) ∧ ∀ J3, J3 = up2 J (o + 2) a1.toNat 1 → (v_X12_image_20 o a1 post') J3 0) ∧ (b1 = false → post' false J))
theorem vw_X12_image {J : mJ} {o : Nat} {xa1 : Int32} {a1 : Int} (hJ : irm J)   (ea1 : xa1 = zi a1) (ia1 : ir a1) {post : Bool → mI → Prop} {post' : Bool → mJ → Prop} (hp : ∀ (r : Bool) (J1 : mJ), irm J1 → post' r J1 → post r (zz J1)) (hv : v_X12_image J o a1 post') : w_X12_image (zz J) o xa1 post := by
  subst ea1
  unfold v_X12_image at hv
  unfold w_X12_image
  refine vw_X12_isIn (rfl : zi a1 = zi a1) ia1 (by decide : (0 : Int32) = zi 0) (by decide : ir 0) (by decide : (2 : Int32) = zi 2) (by decide : ir 2) (fun b1  hv => ?_) hv
  refine ⟨fun cq => ?_, fun cq => ?_⟩
  · have hv := hv.1 cq
    obtain ⟨g2, hv⟩ := hv
    refine ⟨zvp (rfl : zi a1 = zi a1) ia1 g2.1 g2.2, ?_⟩
    intro I1 eI1
    obtain ⟨J3, eJ3⟩ : ∃ q9 : mJ, q9 = up2 J (o + 2) a1.toNat 1 := ⟨_, rfl⟩
    have eI1 : I1 = zz J3 := by rw [eI1, eJ3]; exact zupa (rfl : zi a1 = zi a1) ia1 g2.1 (by decide : (1 : Int32) = zi 1)
    subst eI1
    have hv := hv J3 eJ3
    have hJ : irm J3 := by rw [eJ3]; exact irm_up hJ (by decide : ir 1)
    exact vw_X12_image_20 ia1 hp hJ (by decide : (0 : Int32) = zi 0) (by decide : ir 0) hv
  · have hv := hv.2 cq
    exact hp _ _ hJ hv
def v_X12_again_22 (o : Nat) (a1 : Int) (post' : Bool → mJ → Prop) (J : mJ) (v2 : Int) : Prop := ∀ ZZ : (mJ → Int → Prop), (∀ (J : mJ) (v2 : Int), ((990 ≤ v2 → post' true J) ∧ (¬ 990 ≤ v2 → ir (a1 + 1) ∧ ir (990 * (a1 + 1)) ∧ ir ((990 * (a1 + 1)) + v2) ∧ (0 ≤ ((990 * (a1 + 1)) + v2) ∧ ((990 * (a1 + 1)) + v2) < 3960) ∧ (0 ≤ v2 ∧ v2 < 3960) ∧ ∀ J8, J8 = up2 J (o + 1) v2.toNat (J (o + 1) ((990 * (a1 + 1)) + v2).toNat) → ir (v2 + 1) ∧ ∀ y10, y10 = v2 + 1 → ZZ J8 y10)) → ZZ J v2) → ZZ J v2
theorem vw_X12_again_22 {o : Nat} {a1 : Int}  (ia1 : ir a1) {post : Bool → mI → Prop} {post' : Bool → mJ → Prop} (hp : ∀ (r : Bool) (J1 : mJ), irm J1 → post' r J1 → post r (zz J1)) {J : mJ} {xv2 : Int32} {v2 : Int} (hJ : irm J) (ev2 : xv2 = zi v2) (iv2 : ir v2) (hv : v_X12_again_22 o a1 post' J v2) : w_X12_again_22 o (zi a1) post (zz J) xv2 := by
  subst ev2
  unfold v_X12_again_22 at hv
  unfold w_X12_again_22
  intro ZZ hZ
  refine hv (fun J v2 => ∀ (xv2 : Int32), irm J → xv2 = zi v2 → ir v2 → ZZ (zz J) xv2) ?_ _ hJ rfl iv2
  clear hv hJ iv2
  intro J v2 hv xv2 hJ ev2 iv2
  subst ev2
  refine hZ _ _ ?_
  refine ⟨fun cq => ?_, fun cq => ?_⟩
  · have hv := hv.1 ((zle (by decide : (990 : Int32) = zi 990) (rfl : zi v2 = zi v2) (by decide : ir 990) iv2).mp cq)
    exact hp _ _ hJ hv
  · have hv := hv.2 (fun q => cq ((zle (by decide : (990 : Int32) = zi 990) (rfl : zi v2 = zi v2) (by decide : ir 990) iv2).mpr q))
    obtain ⟨g3, hv⟩ := hv
    obtain ⟨g4, hv⟩ := hv
    obtain ⟨g5, hv⟩ := hv
    obtain ⟨g6, hv⟩ := hv
    refine ⟨zvp (za (zm (by decide : (990 : Int32) = zi 990) (za (rfl : zi a1 = zi a1) (by decide : (1 : Int32) = zi 1))) (rfl : zi v2 = zi v2)) g5 g6.1 g6.2, ?_⟩
    obtain ⟨g7, hv⟩ := hv
    refine ⟨zvp (rfl : zi v2 = zi v2) iv2 g7.1 g7.2, ?_⟩
    intro I1 eI1
    obtain ⟨J8, eJ8⟩ : ∃ q9 : mJ, q9 = up2 J (o + 1) v2.toNat (J (o + 1) ((990 * (a1 + 1)) + v2).toNat) := ⟨_, rfl⟩
    have eI1 : I1 = zz J8 := by rw [eI1, eJ8]; exact zupa (rfl : zi v2 = zi v2) iv2 g7.1 (zrd (za (zm (by decide : (990 : Int32) = zi 990) (za (rfl : zi a1 = zi a1) (by decide : (1 : Int32) = zi 1))) (rfl : zi v2 = zi v2)) g5 g6.1)
    subst eI1
    have hv := hv J8 eJ8
    have hJ : irm J8 := by rw [eJ8]; exact irm_up hJ (hJ _ _)
    obtain ⟨g9, hv⟩ := hv
    intro xy10 exy10
    obtain ⟨y10, eyy10⟩ : ∃ q9 : Int, q9 = v2 + 1 := ⟨_, rfl⟩
    have hv := hv y10 eyy10
    have Ey10 : xy10 = zi y10 := exy10.trans (((za (rfl : zi v2 = zi v2) (by decide : (1 : Int32) = zi 1))).trans (congrArg zi eyy10.symm))
    have Iy10 : ir y10 := by rw [eyy10]; exact g9
    clear exy10
    exact hv _ hJ Ey10 Iy10
def v_X12_again (J : mJ) (o : Nat) (a1 : Int) (post' : Bool → mJ → Prop) : Prop := v_X12_isIn a1 0 2 (fun b1 => (b1 = false → post' false J) ∧ (b1 = true → (0 ≤ a1 ∧ a1 < 3) ∧ (¬ (J (o + 2) a1.toNat) = 0 → (v_X12_again_22 o a1 post') J 0) ∧ ((J (o + 2) a1.toNat) = 0 → post' false J)))
theorem vw_X12_again {J : mJ} {o : Nat} {xa1 : Int32} {a1 : Int} (hJ : irm J)   (ea1 : xa1 = zi a1) (ia1 : ir a1) {post : Bool → mI → Prop} {post' : Bool → mJ → Prop} (hp : ∀ (r : Bool) (J1 : mJ), irm J1 → post' r J1 → post r (zz J1)) (hv : v_X12_again J o a1 post') : w_X12_again (zz J) o xa1 post := by
  subst ea1
  unfold v_X12_again at hv
  unfold w_X12_again
  refine vw_X12_isIn (rfl : zi a1 = zi a1) ia1 (by decide : (0 : Int32) = zi 0) (by decide : ir 0) (by decide : (2 : Int32) = zi 2) (by decide : ir 2) (fun b1  hv => ?_) hv
  refine ⟨fun cq => ?_, fun cq => ?_⟩
  · have hv := hv.1 cq
    exact hp _ _ hJ hv
  · have hv := hv.2 cq
    obtain ⟨g2, hv⟩ := hv
    refine ⟨zvp (rfl : zi a1 = zi a1) ia1 g2.1 g2.2, ?_⟩
    refine ⟨fun cq => ?_, fun cq => ?_⟩
    · have hv := hv.1 (fun q => cq ((zeq (zrd (rfl : zi a1 = zi a1) ia1 g2.1) (by decide : (0 : Int32) = zi 0) (hJ _ _) (by decide : ir 0)).mpr q))
      exact vw_X12_again_22 ia1 hp hJ (by decide : (0 : Int32) = zi 0) (by decide : ir 0) hv
    · have hv := hv.2 ((zeq (zrd (rfl : zi a1 = zi a1) ia1 g2.1) (by decide : (0 : Int32) = zi 0) (hJ _ _) (by decide : ir 0)).mp cq)
      exact hp _ _ hJ hv
