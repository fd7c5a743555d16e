def v_X12_advance_26 (o : Nat) (post' : mJ → Prop) (k0' : mJ → Prop) (J : mJ) : Prop := ir ((J o 3) + 1) ∧ ∀ J37, J37 = up2 J o 3 ((J o 3) + 1) → k0' J37
theorem vw_X12_advance_26 {o : Nat}   {post : mI → Prop} {post' : mJ → Prop} {k0' : mJ → Prop} {k0 : mI → Prop} (hp : ∀ (J1 : mJ), irm J1 → post' J1 → post (zz J1)) (hk0 : ∀ (J : mJ), irm J → k0' J → k0 (zz J)) {J : mJ} (hJ : irm J) (hv : v_X12_advance_26 o post' k0' J) : w_X12_advance_26 o post k0 (zz J) := by
  unfold v_X12_advance_26 at hv
  unfold w_X12_advance_26
  obtain ⟨g36, hv⟩ := hv
  intro I1 eI1
  obtain ⟨J37, eJ37⟩ : ∃ q9 : mJ, q9 = up2 J o 3 ((J o 3) + 1) := ⟨_, rfl⟩
  have eI1 : I1 = zz J37 := by rw [eI1, eJ37]; exact zup (za zrf (by decide : (1 : Int32) = zi 1))
  subst eI1
  have hv := hv J37 eJ37
  have hJ : irm J37 := by rw [eJ37]; exact irm_up hJ g36
  exact hk0 _ hJ hv
def v_X12_advance_0 (o : Nat) (post' : mJ → Prop) (k39' : mJ → Prop) (J : mJ) : Prop := ∀ ZZ : (mJ → Prop), (∀ (J : mJ), (v_X12_byteAt J o (J o 3) (fun r1 => (r1 = 10 → (v_X12_advance_26 o post' ZZ) J) ∧ (¬ r1 = 10 → v_X12_byteAt J o (J o 3) (fun r2 => (¬ r2 = 32 → k39' J) ∧ (r2 = 32 → (v_X12_advance_26 o post' ZZ) J))))) → ZZ J) → ZZ J
theorem vw_X12_advance_0 {o : Nat}   {post : mI → Prop} {post' : mJ → Prop} {k39' : mJ → Prop} {k39 : mI → Prop} (hp : ∀ (J1 : mJ), irm J1 → post' J1 → post (zz J1)) (hk39 : ∀ (J : mJ), irm J → k39' J → k39 (zz J)) {J : mJ} (hJ : irm J) (hv : v_X12_advance_0 o post' k39' J) : w_X12_advance_0 o post k39 (zz J) := by
  unfold v_X12_advance_0 at hv
  unfold w_X12_advance_0
  intro ZZ hZ
  refine hv (fun J => irm J → ZZ (zz J)) ?_ hJ
  clear hv hJ
  intro J hv hJ
  refine hZ _ ?_
  refine vw_X12_byteAt hJ zrf (hJ _ _) (fun xr1 r1 Er1 Ir1 hv => ?_) hv
  refine ⟨fun cq => ?_, fun cq => ?_⟩
  · have hv := hv.1 ((zeq Er1 (by decide : (10 : Int32) = zi 10) Ir1 (by decide : ir 10)).mp cq)
    refine vw_X12_advance_26  hp ?_ hJ hv
    · intro qq hJ hv
      exact hv  hJ
  · have hv := hv.2 (fun q => cq ((zeq Er1 (by decide : (10 : Int32) = zi 10) Ir1 (by decide : ir 10)).mpr q))
    refine vw_X12_byteAt hJ zrf (hJ _ _) (fun xr2 r2 Er2 Ir2 hv => ?_) hv
    refine ⟨fun cq => ?_, fun cq => ?_⟩
    · have hv := hv.1 (fun q => cq ((zeq Er2 (by decide : (32 : Int32) = zi 32) Ir2 (by decide : ir 32)).mpr q))
      exact hk39 _ hJ hv
    · have hv := hv.2 ((zeq Er2 (by decide : (32 : Int32) = zi 32) Ir2 (by decide : ir 32)).mp cq)
      refine vw_X12_advance_26  hp ?_ hJ hv
      · intro qq hJ hv
        exact hv  hJ
def v_X12_advance_318 (o : Nat) (post' : mJ → Prop) (J : mJ) (s1 : Int) : Prop := ∀ J35, J35 = up2 J o 5 s1 → post' J35
theorem vw_X12_advance_318 {o : Nat}   {post : mI → Prop} {post' : mJ → Prop} (hp : ∀ (J1 : mJ), irm J1 → post' J1 → post (zz J1)) {J : mJ} {xs1 : Int32} {s1 : Int} (hJ : irm J) (es1 : xs1 = zi s1) (is1 : ir s1) (hv : v_X12_advance_318 o post' J s1) : w_X12_advance_318 o post (zz J) xs1 := by
  subst es1
  unfold v_X12_advance_318 at hv
  unfold w_X12_advance_318
  intro I1 eI1
  obtain ⟨J35, eJ35⟩ : ∃ q9 : mJ, q9 = up2 J o 5 s1 := ⟨_, rfl⟩
  have eI1 : I1 = zz J35 := by rw [eI1, eJ35]; exact zup (rfl : zi s1 = zi s1)
  subst eI1
  have hv := hv J35 eJ35
  have hJ : irm J35 := by rw [eJ35]; exact irm_up hJ is1
  exact hp _ hJ hv
def v_X12_advance_248 (o : Nat) (post' : mJ → Prop) (k198' : mJ → Prop) (J : mJ) : Prop := ir ((J o 3) + 1) ∧ ∀ J32, J32 = up2 J o 3 ((J o 3) + 1) → k198' J32
theorem vw_X12_advance_248 {o : Nat}   {post : mI → Prop} {post' : mJ → Prop} {k198' : mJ → Prop} {k198 : mI → Prop} (hp : ∀ (J1 : mJ), irm J1 → post' J1 → post (zz J1)) (hk198 : ∀ (J : mJ), irm J → k198' J → k198 (zz J)) {J : mJ} (hJ : irm J) (hv : v_X12_advance_248 o post' k198' J) : w_X12_advance_248 o post k198 (zz J) := by
  unfold v_X12_advance_248 at hv
  unfold w_X12_advance_248
  obtain ⟨g31, hv⟩ := hv
  intro I1 eI1
  obtain ⟨J32, eJ32⟩ : ∃ q9 : mJ, q9 = up2 J o 3 ((J o 3) + 1) := ⟨_, rfl⟩
  have eI1 : I1 = zz J32 := by rw [eI1, eJ32]; exact zup (za zrf (by decide : (1 : Int32) = zi 1))
  subst eI1
  have hv := hv J32 eJ32
  have hJ : irm J32 := by rw [eJ32]; exact irm_up hJ g31
  exact hk198 _ hJ hv
def v_X12_advance_198 (o : Nat) (post' : mJ → Prop) (k261' : mJ → Prop) (J : mJ) : Prop := ∀ ZZ : (mJ → Prop), (∀ (J : mJ), (v_X12_byteAt J o (J o 3) (fun r23 => v_X12_isDigit r23 (fun b24 => (b24 = false → k261' J) ∧ (b24 = true → ir ((J o 3) - (J o 4)) ∧ (2 ≤ ((J o 3) - (J o 4)) → (v_X12_advance_248 o post' ZZ) J) ∧ (¬ 2 ≤ ((J o 3) - (J o 4)) → ir (10 * (J o 6)) ∧ v_X12_byteAt J o (J o 3) (fun r27 => ir ((10 * (J o 6)) + r27) ∧ ir (((10 * (J o 6)) + r27) - 48) ∧ ∀ J30, J30 = up2 J o 6 (((10 * (J o 6)) + r27) - 48) → (v_X12_advance_248 o post' ZZ) J30)))))) → ZZ J) → ZZ J
theorem vw_X12_advance_198 {o : Nat}   {post : mI → Prop} {post' : mJ → Prop} {k261' : mJ → Prop} {k261 : mI → Prop} (hp : ∀ (J1 : mJ), irm J1 → post' J1 → post (zz J1)) (hk261 : ∀ (J : mJ), irm J → k261' J → k261 (zz J)) {J : mJ} (hJ : irm J) (hv : v_X12_advance_198 o post' k261' J) : w_X12_advance_198 o post k261 (zz J) := by
  unfold v_X12_advance_198 at hv
  unfold w_X12_advance_198
  intro ZZ hZ
  refine hv (fun J => irm J → ZZ (zz J)) ?_ hJ
  clear hv hJ
  intro J hv hJ
  refine hZ _ ?_
  refine vw_X12_byteAt hJ zrf (hJ _ _) (fun xr23 r23 Er23 Ir23 hv => ?_) hv
  refine vw_X12_isDigit Er23 Ir23 (fun b24  hv => ?_) hv
  refine ⟨fun cq => ?_, fun cq => ?_⟩
  · have hv := hv.1 cq
    exact hk261 _ hJ hv
  · have hv := hv.2 cq
    obtain ⟨g25, hv⟩ := hv
    refine ⟨fun cq => ?_, fun cq => ?_⟩
    · have hv := hv.1 ((zle (by decide : (2 : Int32) = zi 2) (zs zrf zrf) (by decide : ir 2) g25).mp cq)
      refine vw_X12_advance_248  hp ?_ hJ hv
      · intro qq hJ hv
        exact hv  hJ
    · have hv := hv.2 (fun q => cq ((zle (by decide : (2 : Int32) = zi 2) (zs zrf zrf) (by decide : ir 2) g25).mpr q))
      obtain ⟨g26, hv⟩ := hv
      refine vw_X12_byteAt hJ zrf (hJ _ _) (fun xr27 r27 Er27 Ir27 hv => ?_) hv
      obtain ⟨g28, hv⟩ := hv
      obtain ⟨g29, hv⟩ := hv
      intro I1 eI1
      obtain ⟨J30, eJ30⟩ : ∃ q9 : mJ, q9 = up2 J o 6 (((10 * (J o 6)) + r27) - 48) := ⟨_, rfl⟩
      have eI1 : I1 = zz J30 := by rw [eI1, eJ30]; exact zup (zs (za (zm (by decide : (10 : Int32) = zi 10) zrf) Er27) (by decide : (48 : Int32) = zi 48))
      subst eI1
      have hv := hv J30 eJ30
      have hJ : irm J30 := by rw [eJ30]; exact irm_up hJ g29
      refine vw_X12_advance_248  hp ?_ hJ hv
      · intro qq hJ hv
        exact hv  hJ
def v_X12_advance_280 (o : Nat) (post' : mJ → Prop) (J : mJ) (s1 : Int) : Prop := ∀ J34, J34 = up2 J o 5 s1 → post' J34
theorem vw_X12_advance_280 {o : Nat}   {post : mI → Prop} {post' : mJ → Prop} (hp : ∀ (J1 : mJ), irm J1 → post' J1 → post (zz J1)) {J : mJ} {xs1 : Int32} {s1 : Int} (hJ : irm J) (es1 : xs1 = zi s1) (is1 : ir s1) (hv : v_X12_advance_280 o post' J s1) : w_X12_advance_280 o post (zz J) xs1 := by
  subst es1
  unfold v_X12_advance_280 at hv
  unfold w_X12_advance_280
  intro I1 eI1
  obtain ⟨J34, eJ34⟩ : ∃ q9 : mJ, q9 = up2 J o 5 s1 := ⟨_, rfl⟩
  have eI1 : I1 = zz J34 := by rw [eI1, eJ34]; exact zup (rfl : zi s1 = zi s1)
  subst eI1
  have hv := hv J34 eJ34
  have hJ : irm J34 := by rw [eJ34]; exact irm_up hJ is1
  exact hp _ hJ hv
def v_X12_advance_261 (o : Nat) (post' : mJ → Prop) (J : mJ) : Prop := ir ((J o 3) - (J o 4)) ∧ (((J o 3) - (J o 4)) ≤ 2 → (v_X12_advance_280 o post') J 1) ∧ (¬ ((J o 3) - (J o 4)) ≤ 2 → (v_X12_advance_280 o post') J 4)
theorem vw_X12_advance_261 {o : Nat}   {post : mI → Prop} {post' : mJ → Prop} (hp : ∀ (J1 : mJ), irm J1 → post' J1 → post (zz J1)) {J : mJ} (hJ : irm J) (hv : v_X12_advance_261 o post' J) : w_X12_advance_261 o post (zz J) := by
  unfold v_X12_advance_261 at hv
  unfold w_X12_advance_261
  obtain ⟨g33, hv⟩ := hv
  refine ⟨fun cq => ?_, fun cq => ?_⟩
  · have hv := hv.1 ((zle (zs zrf zrf) (by decide : (2 : Int32) = zi 2) g33 (by decide : ir 2)).mp cq)
    exact vw_X12_advance_280  hp hJ (by decide : (1 : Int32) = zi 1) (by decide : ir 1) hv
  · have hv := hv.2 (fun q => cq ((zle (zs zrf zrf) (by decide : (2 : Int32) = zi 2) g33 (by decide : ir 2)).mpr q))
    exact vw_X12_advance_280  hp hJ (by decide : (4 : Int32) = zi 4) (by decide : ir 4) hv
def v_X12_advance_125 (o : Nat) (post' : mJ → Prop) (k77' : mJ → Int64 → Prop) (J : mJ) (v2 : Int64) : Prop := ir ((J o 3) + 1) ∧ ∀ J18, J18 = up2 J o 3 ((J o 3) + 1) → k77' J18 v2
theorem vw_X12_advance_125 {o : Nat}   {post : mI → Prop} {post' : mJ → Prop} {k77' : mJ → Int64 → Prop} {k77 : mI → Int64 → Prop} (hp : ∀ (J1 : mJ), irm J1 → post' J1 → post (zz J1)) (hk77 : ∀ (J : mJ) (xv2 v2 : Int64), irm J → xv2 = v2 → k77' J v2 → k77 (zz J) xv2) {J : mJ} {xv2 v2 : Int64} (hJ : irm J) (ev2 : xv2 = v2) (hv : v_X12_advance_125 o post' k77' J v2) : w_X12_advance_125 o post k77 (zz J) xv2 := by
  have ev2 := ev2.symm; subst ev2
  unfold v_X12_advance_125 at hv
  unfold w_X12_advance_125
  obtain ⟨g17, hv⟩ := hv
  intro I1 eI1
  obtain ⟨J18, eJ18⟩ : ∃ q9 : mJ, q9 = up2 J o 3 ((J o 3) + 1) := ⟨_, rfl⟩
  have eI1 : I1 = zz J18 := by rw [eI1, eJ18]; exact zup (za zrf (by decide : (1 : Int32) = zi 1))
  subst eI1
  have hv := hv J18 eJ18
  have hJ : irm J18 := by rw [eJ18]; exact irm_up hJ g17
  exact hk77 _ _ _ hJ rfl hv
def v_X12_advance_77 (o : Nat) (post' : mJ → Prop) (k138' : mJ → Int64 → Prop) (J : mJ) (v2 : Int64) : Prop := ∀ ZZ : (mJ → Int64 → Prop), (∀ (J : mJ) (v2 : Int64), (v_X12_byteAt J o (J o 3) (fun r12 => v_X12_isLetter r12 (fun b13 => (b13 = false → k138' J v2) ∧ (b13 = true → ir ((J o 3) - (J o 4)) ∧ (8 ≤ ((J o 3) - (J o 4)) → (v_X12_advance_125 o post' ZZ) J v2) ∧ (¬ 8 ≤ ((J o 3) - (J o 4)) → v_X12_byteAt J o (J o 3) (fun r15 => ∀ y16, y16 = ((((32 : Int64) * v2) + ((zi r15).toInt64)) - (96 : Int64)) → (v_X12_advance_125 o post' ZZ) J y16)))))) → ZZ J v2) → ZZ J v2
theorem vw_X12_advance_77 {o : Nat}   {post : mI → Prop} {post' : mJ → Prop} {k138' : mJ → Int64 → Prop} {k138 : mI → Int64 → Prop} (hp : ∀ (J1 : mJ), irm J1 → post' J1 → post (zz J1)) (hk138 : ∀ (J : mJ) (xv2 v2 : Int64), irm J → xv2 = v2 → k138' J v2 → k138 (zz J) xv2) {J : mJ} {xv2 v2 : Int64} (hJ : irm J) (ev2 : xv2 = v2) (hv : v_X12_advance_77 o post' k138' J v2) : w_X12_advance_77 o post k138 (zz J) xv2 := by
  have ev2 := ev2.symm; subst ev2
  unfold v_X12_advance_77 at hv
  unfold w_X12_advance_77
  intro ZZ hZ
  refine hv (fun J v2 => ∀ (xv2 : Int64), irm J → xv2 = v2 → ZZ (zz J) xv2) ?_ _ hJ rfl
  clear hv hJ
  intro J v2 hv xv2 hJ ev2
  have ev2 := ev2.symm; subst ev2
  refine hZ _ _ ?_
  refine vw_X12_byteAt hJ zrf (hJ _ _) (fun xr12 r12 Er12 Ir12 hv => ?_) hv
  refine vw_X12_isLetter Er12 Ir12 (fun b13  hv => ?_) hv
  refine ⟨fun cq => ?_, fun cq => ?_⟩
  · have hv := hv.1 cq
    exact hk138 _ _ _ hJ rfl hv
  · have hv := hv.2 cq
    obtain ⟨g14, hv⟩ := hv
    refine ⟨fun cq => ?_, fun cq => ?_⟩
    · have hv := hv.1 ((zle (by decide : (8 : Int32) = zi 8) (zs zrf zrf) (by decide : ir 8) g14).mp cq)
      refine vw_X12_advance_125  hp ?_ hJ rfl hv
      · intro qq xx vv hJ ev2 hv
        exact hv _ hJ ev2
    · have hv := hv.2 (fun q => cq ((zle (by decide : (8 : Int32) = zi 8) (zs zrf zrf) (by decide : ir 8) g14).mpr q))
      refine vw_X12_byteAt hJ zrf (hJ _ _) (fun xr15 r15 Er15 Ir15 hv => ?_) hv
      intro xy16 exy16
      obtain ⟨y16, eyy16⟩ : ∃ q9 : Int64, q9 = ((((32 : Int64) * v2) + ((zi r15).toInt64)) - (96 : Int64)) := ⟨_, rfl⟩
      have hv := hv y16 eyy16
      have Ey16 : xy16 = y16 := exy16.trans (((congr (congrArg (fun p q : Int64 => p - q) (congr (congrArg (fun p q : Int64 => p + q) (congr (congrArg (fun p q : Int64 => p * q) rfl) rfl)) (congrArg Int32.toInt64 Er15))) rfl)).trans eyy16.symm)
      refine vw_X12_advance_125  hp ?_ hJ Ey16 hv
      · intro qq xx vv hJ ev2 hv
        exact hv _ hJ ev2
def v_X12_advance_180 (o : Nat) (post' : mJ → Prop) (J : mJ) (s1 : Int) : Prop := ∀ J22, J22 = up2 J o 5 s1 → post' J22
theorem vw_X12_advance_180 {o : Nat}   {post : mI → Prop} {post' : mJ → Prop} (hp : ∀ (J1 : mJ), irm J1 → post' J1 → post (zz J1)) {J : mJ} {xs1 : Int32} {s1 : Int} (hJ : irm J) (es1 : xs1 = zi s1) (is1 : ir s1) (hv : v_X12_advance_180 o post' J s1) : w_X12_advance_180 o post (zz J) xs1 := by
  subst es1
  unfold v_X12_advance_180 at hv
  unfold w_X12_advance_180
  intro I1 eI1
  obtain ⟨J22, eJ22⟩ : ∃ q9 : mJ, q9 = up2 J o 5 s1 := ⟨_, rfl⟩
  have eI1 : I1 = zz J22 := by rw [eI1, eJ22]; exact zup (rfl : zi s1 = zi s1)
  subst eI1
  have hv := hv J22 eJ22
  have hJ : irm J22 := by rw [eJ22]; exact irm_up hJ is1
  exact hp _ hJ hv
def v_X12_advance_162 (o : Nat) (post' : mJ → Prop) (J : mJ) (s1 : Int) : Prop := ∀ J21, J21 = up2 J o 7 s1 → (¬ (J21 o 7) = 99 → (v_X12_advance_180 o post') J21 3) ∧ ((J21 o 7) = 99 → (v_X12_advance_180 o post') J21 4)
theorem vw_X12_advance_162 {o : Nat}   {post : mI → Prop} {post' : mJ → Prop} (hp : ∀ (J1 : mJ), irm J1 → post' J1 → post (zz J1)) {J : mJ} {xs1 : Int32} {s1 : Int} (hJ : irm J) (es1 : xs1 = zi s1) (is1 : ir s1) (hv : v_X12_advance_162 o post' J s1) : w_X12_advance_162 o post (zz J) xs1 := by
  subst es1
  unfold v_X12_advance_162 at hv
  unfold w_X12_advance_162
  intro I1 eI1
  obtain ⟨J21, eJ21⟩ : ∃ q9 : mJ, q9 = up2 J o 7 s1 := ⟨_, rfl⟩
  have eI1 : I1 = zz J21 := by rw [eI1, eJ21]; exact zup (rfl : zi s1 = zi s1)
  subst eI1
  have hv := hv J21 eJ21
  have hJ : irm J21 := by rw [eJ21]; exact irm_up hJ is1
  refine ⟨fun cq => ?_, fun cq => ?_⟩
  · have hv := hv.1 (fun q => cq ((zeq zrf (by decide : (99 : Int32) = zi 99) (hJ _ _) (by decide : ir 99)).mpr q))
    exact vw_X12_advance_180  hp hJ (by decide : (3 : Int32) = zi 3) (by decide : ir 3) hv
  · have hv := hv.2 ((zeq zrf (by decide : (99 : Int32) = zi 99) (hJ _ _) (by decide : ir 99)).mp cq)
    exact vw_X12_advance_180  hp hJ (by decide : (4 : Int32) = zi 4) (by decide : ir 4) hv
def v_X12_advance_138 (o : Nat) (post' : mJ → Prop) (J : mJ) (v2 : Int64) : Prop := ir ((J o 3) - (J o 4)) ∧ (((J o 3) - (J o 4)) ≤ 8 → v_X12_wordOf v2 (fun r20 => (v_X12_advance_162 o post') J r20)) ∧ (¬ ((J o 3) - (J o 4)) ≤ 8 → (v_X12_advance_162 o post') J 99)
theorem vw_X12_advance_138 {o : Nat}   {post : mI → Prop} {post' : mJ → Prop} (hp : ∀ (J1 : mJ), irm J1 → post' J1 → post (zz J1)) {J : mJ} {xv2 v2 : Int64} (hJ : irm J) (ev2 : xv2 = v2) (hv : v_X12_advance_138 o post' J v2) : w_X12_advance_138 o post (zz J) xv2 := by
  have ev2 := ev2.symm; subst ev2
  unfold v_X12_advance_138 at hv
  unfold w_X12_advance_138
  obtain ⟨g19, hv⟩ := hv
  refine ⟨fun cq => ?_, fun cq => ?_⟩
  · have hv := hv.1 ((zle (zs zrf zrf) (by decide : (8 : Int32) = zi 8) g19 (by decide : ir 8)).mp cq)
    refine vw_X12_wordOf rfl (fun xr20 r20 Er20 Ir20 hv => ?_) hv
    exact vw_X12_advance_162  hp hJ Er20 Ir20 hv
  · have hv := hv.2 (fun q => cq ((zle (zs zrf zrf) (by decide : (8 : Int32) = zi 8) g19 (by decide : ir 8)).mpr q))
    exact vw_X12_advance_162  hp hJ (by decide : (99 : Int32) = zi 99) (by decide : ir 99) hv
def v_X12_advance_39 (o : Nat) (post' : mJ → Prop) (J : mJ) : Prop := ∀ J3, J3 = up2 J o 4 (J o 3) → v_X12_byteAt J3 o (J3 o 3) (fun r4 => (0 ≤ r4 → v_X12_isLetter r4 (fun b5 => (b5 = false → v_X12_isDigit r4 (fun b6 => (b6 = false → ir ((J3 o 3) + 1) ∧ ∀ J8, J8 = up2 J3 o 3 ((J3 o 3) + 1) → (¬ r4 = 59 → (¬ r4 = 45 → (v_X12_advance_318 o post') J8 4) ∧ (r4 = 45 → (v_X12_advance_318 o post') J8 5)) ∧ (r4 = 59 → (v_X12_advance_318 o post') J8 2)) ∧ (b6 = true → ∀ J9, J9 = up2 J3 o 6 0 → (v_X12_advance_198 o post' (v_X12_advance_261 o post')) J9))) ∧ (b5 = true → ∀ y10, y10 = (0 : Int64) → (v_X12_advance_77 o post' (v_X12_advance_138 o post')) J3 y10))) ∧ (¬ 0 ≤ r4 → ∀ J11, J11 = up2 J3 o 5 0 → post' J11))
theorem vw_X12_advance_39 {o : Nat}   {post : mI → Prop} {post' : mJ → Prop} (hp : ∀ (J1 : mJ), irm J1 → post' J1 → post (zz J1)) {J : mJ} (hJ : irm J) (hv : v_X12_advance_39 o post' J) : w_X12_advance_39 o post (zz J) := by
  unfold v_X12_advance_39 at hv
  unfold w_X12_advance_39
  intro I1 eI1
  obtain ⟨J3, eJ3⟩ : ∃ q9 : mJ, q9 = up2 J o 4 (J o 3) := ⟨_, rfl⟩
  have eI1 : I1 = zz J3 := by rw [eI1, eJ3]; exact zup zrf
  subst eI1
  have hv := hv J3 eJ3
  have hJ : irm J3 := by rw [eJ3]; exact irm_up hJ (hJ _ _)
  refine vw_X12_byteAt hJ zrf (hJ _ _) (fun xr4 r4 Er4 Ir4 hv => ?_) hv
  refine ⟨fun cq => ?_, fun cq => ?_⟩
  · have hv := hv.1 ((zle (by decide : (0 : Int32) = zi 0) Er4 (by decide : ir 0) Ir4).mp cq)
    refine vw_X12_isLetter Er4 Ir4 (fun b5  hv => ?_) hv
    refine ⟨fun cq => ?_, fun cq => ?_⟩
    · have hv := hv.1 cq
      refine vw_X12_isDigit Er4 Ir4 (fun b6  hv => ?_) hv
      refine ⟨fun cq => ?_, fun cq => ?_⟩
      · have hv := hv.1 cq
        obtain ⟨g7, hv⟩ := hv
        intro I1 eI1
        obtain ⟨J8, eJ8⟩ : ∃ q9 : mJ, q9 = up2 J3 o 3 ((J3 o 3) + 1) := ⟨_, rfl⟩
        have eI1 : I1 = zz J8 := by rw [eI1, eJ8]; exact zup (za zrf (by decide : (1 : Int32) = zi 1))
        subst eI1
        have hv := hv J8 eJ8
        have hJ : irm J8 := by rw [eJ8]; exact irm_up hJ g7
        refine ⟨fun cq => ?_, fun cq => ?_⟩
        · have hv := hv.1 (fun q => cq ((zeq Er4 (by decide : (59 : Int32) = zi 59) Ir4 (by decide : ir 59)).mpr q))
          refine ⟨fun cq => ?_, fun cq => ?_⟩
          · have hv := hv.1 (fun q => cq ((zeq Er4 (by decide : (45 : Int32) = zi 45) Ir4 (by decide : ir 45)).mpr q))
            exact vw_X12_advance_318  hp hJ (by decide : (4 : Int32) = zi 4) (by decide : ir 4) hv
          · have hv := hv.2 ((zeq Er4 (by decide : (45 : Int32) = zi 45) Ir4 (by decide : ir 45)).mp cq)
            exact vw_X12_advance_318  hp hJ (by decide : (5 : Int32) = zi 5) (by decide : ir 5) hv
        · have hv := hv.2 ((zeq Er4 (by decide : (59 : Int32) = zi 59) Ir4 (by decide : ir 59)).mp cq)
          exact vw_X12_advance_318  hp hJ (by decide : (2 : Int32) = zi 2) (by decide : ir 2) hv
      · have hv := hv.2 cq
        intro I1 eI1
        obtain ⟨J9, eJ9⟩ : ∃ q9 : mJ, q9 = up2 J3 o 6 0 := ⟨_, rfl⟩
        have eI1 : I1 = zz J9 := by rw [eI1, eJ9]; exact zup (by decide : (0 : Int32) = zi 0)
        subst eI1
        have hv := hv J9 eJ9
        have hJ : irm J9 := by rw [eJ9]; exact irm_up hJ (by decide : ir 0)
        refine vw_X12_advance_198  hp ?_ hJ hv
        · intro qq hJ hv
          exact vw_X12_advance_261  hp hJ hv
    · have hv := hv.2 cq
      intro xy10 exy10
      obtain ⟨y10, eyy10⟩ : ∃ q9 : Int64, q9 = (0 : Int64) := ⟨_, rfl⟩
      have hv := hv y10 eyy10
      have Ey10 : xy10 = y10 := exy10.trans ((rfl).trans eyy10.symm)
      refine vw_X12_advance_77  hp ?_ hJ Ey10 hv
      · intro qq xx vv hJ ev2 hv
        exact vw_X12_advance_138  hp hJ ev2 hv
  · have hv := hv.2 (fun q => cq ((zle (by decide : (0 : Int32) = zi 0) Er4 (by decide : ir 0) Ir4).mpr q))
    intro I1 eI1
    obtain ⟨J11, eJ11⟩ : ∃ q9 : mJ, q9 = up2 J3 o 5 0 := ⟨_, rfl⟩
    have eI1 : I1 = zz J11 := by rw [eI1, eJ11]; exact zup (by decide : (0 : Int32) = zi 0)
    subst eI1
    have hv := hv J11 eJ11
    have hJ : irm J11 := by rw [eJ11]; exact irm_up hJ (by decide : ir 0)
    exact hp _ hJ hv
def v_X12_advance (J : mJ) (o : Nat) (post' : mJ → Prop) : Prop := (v_X12_advance_0 o post' (v_X12_advance_39 o post')) J
theorem vw_X12_advance {J : mJ} {o : Nat} (hJ : irm J)   {post : mI → Prop} {post' : mJ → Prop} (hp : ∀ (J1 : mJ), irm J1 → post' J1 → post (zz J1)) (hv : v_X12_advance J o post') : w_X12_advance (zz J) o post := by
  unfold v_X12_advance at hv
  unfold w_X12_advance
  refine vw_X12_advance_0  hp ?_ hJ hv
  · intro qq hJ hv
    exact vw_X12_advance_39  hp hJ hv
def v_X12_ends (J : mJ) (o : Nat) (post' : mJ → Prop) : Prop := ((J o 8) = 0 → ∀ J1, J1 = up2 J o 8 1 → ∀ J3, J3 = up2 J1 (o + 1) 3 1 → ∀ J5, J5 = up2 J3 (o + 1) 4 (J3 o 4) → post' J5) ∧ (¬ (J o 8) = 0 → post' J)
theorem vw_X12_ends {J : mJ} {o : Nat} (hJ : irm J)   {post : mI → Prop} {post' : mJ → Prop} (hp : ∀ (J1 : mJ), irm J1 → post' J1 → post (zz J1)) (hv : v_X12_ends J o post') : w_X12_ends (zz J) o post := by
  unfold v_X12_ends at hv
  unfold w_X12_ends
  refine ⟨fun cq => ?_, fun cq => ?_⟩
  · have hv := hv.1 ((zeq zrf (by decide : (0 : Int32) = zi 0) (hJ _ _) (by decide : ir 0)).mp cq)
    intro I1 eI1
    obtain ⟨J1, eJ1⟩ : ∃ q9 : mJ, q9 = up2 J o 8 1 := ⟨_, rfl⟩
    have eI1 : I1 = zz J1 := by rw [eI1, eJ1]; exact zup (by decide : (1 : Int32) = zi 1)
    subst eI1
    have hv := hv J1 eJ1
    have hJ : irm J1 := by rw [eJ1]; exact irm_up hJ (by decide : ir 1)
    intro I1 eI1
    obtain ⟨J3, eJ3⟩ : ∃ q9 : mJ, q9 = up2 J1 (o + 1) 3 1 := ⟨_, rfl⟩
    have eI1 : I1 = zz J3 := by rw [eI1, eJ3]; exact zupa (by decide : (3 : Int32) = zi 3) (by decide : ir 3) (by decide) (by decide : (1 : Int32) = zi 1)
    subst eI1
    have hv := hv J3 eJ3
    have hJ : irm J3 := by rw [eJ3]; exact irm_up hJ (by decide : ir 1)
    intro I1 eI1
    obtain ⟨J5, eJ5⟩ : ∃ q9 : mJ, q9 = up2 J3 (o + 1) 4 (J3 o 4) := ⟨_, rfl⟩
    have eI1 : I1 = zz J5 := by rw [eI1, eJ5]; exact zupa (by decide : (4 : Int32) = zi 4) (by decide : ir 4) (by decide) zrf
    subst eI1
    have hv := hv J5 eJ5
    have hJ : irm J5 := by rw [eJ5]; exact irm_up hJ (hJ _ _)
    exact hp _ hJ hv
  · have hv := hv.2 (fun q => cq ((zeq zrf (by decide : (0 : Int32) = zi 0) (hJ _ _) (by decide : ir 0)).mpr q))
    exact hp _ hJ hv
def v_X12_also_47 (o : Nat) (a1 : Int) (a2 : Int) (post' : mJ → Prop) (J : mJ) : Prop := ∀ J6, J6 = up2 J (o + 1) 3 a1 → ∀ J8, J8 = up2 J6 (o + 1) 4 a2 → post' J8
theorem vw_X12_also_47 {o : Nat} {a1 : Int} {a2 : Int}  (ia1 : ir a1) (ia2 : ir a2) {post : mI → Prop} {post' : mJ → Prop} (hp : ∀ (J1 : mJ), irm J1 → post' J1 → post (zz J1)) {J : mJ} (hJ : irm J) (hv : v_X12_also_47 o a1 a2 post' J) : w_X12_also_47 o (zi a1) (zi a2) post (zz J) := by
  unfold v_X12_also_47 at hv
  unfold w_X12_also_47
  intro I1 eI1
  obtain ⟨J6, eJ6⟩ : ∃ q9 : mJ, q9 = up2 J (o + 1) 3 a1 := ⟨_, rfl⟩
  have eI1 : I1 = zz J6 := by rw [eI1, eJ6]; exact zupa (by decide : (3 : Int32) = zi 3) (by decide : ir 3) (by decide) (rfl : zi a1 = zi a1)
  subst eI1
  have hv := hv J6 eJ6
  have hJ : irm J6 := by rw [eJ6]; exact irm_up hJ ia1
  intro I1 eI1
  obtain ⟨J8, eJ8⟩ : ∃ q9 : mJ, q9 = up2 J6 (o + 1) 4 a2 := ⟨_, rfl⟩
  have eI1 : I1 = zz J8 := by rw [eI1, eJ8]; exact zupa (by decide : (4 : Int32) = zi 4) (by decide : ir 4) (by decide) (rfl : zi a2 = zi a2)
  subst eI1
  have hv := hv J8 eJ8
  have hJ : irm J8 := by rw [eJ8]; exact irm_up hJ ia2
  exact hp _ hJ hv
def v_X12_also (J : mJ) (o : Nat) (a1 : Int) (a2 : Int) (post' : mJ → Prop) : Prop := (¬ (J o 8) = 0 → post' J) ∧ ((J o 8) = 0 → ((J (o + 1) 3) = 0 → (v_X12_also_47 o a1 a2 post') J) ∧ (¬ (J (o + 1) 3) = 0 → ((J (o + 1) 4) < a2 → post' J) ∧ (¬ (J (o + 1) 4) < a2 → (¬ (J (o + 1) 4) = a2 → (v_X12_also_47 o a1 a2 post') J) ∧ ((J (o + 1) 4) = a2 → (a1 < (J (o + 1) 3) → (v_X12_also_47 o a1 a2 post') J) ∧ (¬ a1 < (J (o + 1) 3) → post' J)))))
theorem vw_X12_also {J : mJ} {o : Nat} {xa1 : Int32} {a1 : Int} {xa2 : Int32} {a2 : Int} (hJ : irm J)   (ea1 : xa1 = zi a1) (ia1 : ir a1) (ea2 : xa2 = zi a2) (ia2 : ir a2) {post : mI → Prop} {post' : mJ → Prop} (hp : ∀ (J1 : mJ), irm J1 → post' J1 → post (zz J1)) (hv : v_X12_also J o a1 a2 post') : w_X12_also (zz J) o xa1 xa2 post := by
  subst ea1
  subst ea2
  unfold v_X12_also at hv
  unfold w_X12_also
  refine ⟨fun cq => ?_, fun cq => ?_⟩
  · have hv := hv.1 (fun q => cq ((zeq zrf (by decide : (0 : Int32) = zi 0) (hJ _ _) (by decide : ir 0)).mpr q))
    exact hp _ hJ hv
  · have hv := hv.2 ((zeq zrf (by decide : (0 : Int32) = zi 0) (hJ _ _) (by decide : ir 0)).mp cq)
    refine ⟨fun cq => ?_, fun cq => ?_⟩
    · have hv := hv.1 ((zeq (zrd (by decide : (3 : Int32) = zi 3) (by decide : ir 3) (by decide)) (by decide : (0 : Int32) = zi 0) (hJ _ _) (by decide : ir 0)).mp cq)
      exact vw_X12_also_47 ia1 ia2 hp hJ hv
    · have hv := hv.2 (fun q => cq ((zeq (zrd (by decide : (3 : Int32) = zi 3) (by decide : ir 3) (by decide)) (by decide : (0 : Int32) = zi 0) (hJ _ _) (by decide : ir 0)).mpr q))
      refine ⟨fun cq => ?_, fun cq => ?_⟩
      · have hv := hv.1 ((zlt (zrd (by decide : (4 : Int32) = zi 4) (by decide : ir 4) (by decide)) (rfl : zi a2 = zi a2) (hJ _ _) ia2).mp cq)
        exact hp _ hJ hv
      · have hv := hv.2 (fun q => cq ((zlt (zrd (by decide : (4 : Int32) = zi 4) (by decide : ir 4) (by decide)) (rfl : zi a2 = zi a2) (hJ _ _) ia2).mpr q))
        refine ⟨fun cq => ?_, fun cq => ?_⟩
        · have hv := hv.1 (fun q => cq ((zeq (zrd (by decide : (4 : Int32) = zi 4) (by decide : ir 4) (by decide)) (rfl : zi a2 = zi a2) (hJ _ _) ia2).mpr q))
          exact vw_X12_also_47 ia1 ia2 hp hJ hv
        · have hv := hv.2 ((zeq (zrd (by decide : (4 : Int32) = zi 4) (by decide : ir 4) (by decide)) (rfl : zi a2 = zi a2) (hJ _ _) ia2).mp cq)
          refine ⟨fun cq => ?_, fun cq => ?_⟩
          · have hv := hv.1 ((zlt (rfl : zi a1 = zi a1) (zrd (by decide : (3 : Int32) = zi 3) (by decide : ir 3) (by decide)) ia1 (hJ _ _)).mp cq)
            exact vw_X12_also_47 ia1 ia2 hp hJ hv
          · have hv := hv.2 (fun q => cq ((zlt (rfl : zi a1 = zi a1) (zrd (by decide : (3 : Int32) = zi 3) (by decide : ir 3) (by decide)) ia1 (hJ _ _)).mpr q))
            exact hp _ hJ hv
def v_X12_numbered_15 (o : Nat) (a1 : Int) (a2 : Int) (post' : Int → mJ → Prop) (J : mJ) : Prop := v_X12_ends J o (fun J6 => post' a1 J6)
theorem vw_X12_numbered_15 {o : Nat} {a1 : Int} {a2 : Int}  (ia1 : ir a1) (ia2 : ir a2) {post : Int32 → mI → Prop} {post' : Int → mJ → Prop} (hp : ∀ (x : Int32) (r : Int) (J1 : mJ), x = zi r → ir r → irm J1 → post' r J1 → post x (zz J1)) {J : mJ} (hJ : irm J) (hv : v_X12_numbered_15 o a1 a2 post' J) : w_X12_numbered_15 o (zi a1) (zi a2) post (zz J) := by
  unfold v_X12_numbered_15 at hv
  unfold w_X12_numbered_15
  refine vw_X12_ends hJ  (fun J6 hJ hv => ?_) hv
  exact hp _ _ _ (rfl : zi a1 = zi a1) ia1 hJ hv
def v_X12_numbered_44 (o : Nat) (a1 : Int) (a2 : Int) (post' : Int → mJ → Prop) (J : mJ) (v3 : Int) : Prop := v_X12_advance J o (fun J4 => v_X12_isIn v3 a1 a2 (fun b5 => (b5 = false → post' a1 J4) ∧ (b5 = true → post' v3 J4)))
theorem vw_X12_numbered_44 {o : Nat} {a1 : Int} {a2 : Int}  (ia1 : ir a1) (ia2 : ir a2) {post : Int32 → mI → Prop} {post' : Int → mJ → Prop} (hp : ∀ (x : Int32) (r : Int) (J1 : mJ), x = zi r → ir r → irm J1 → post' r J1 → post x (zz J1)) {J : mJ} {xv3 : Int32} {v3 : Int} (hJ : irm J) (ev3 : xv3 = zi v3) (iv3 : ir v3) (hv : v_X12_numbered_44 o a1 a2 post' J v3) : w_X12_numbered_44 o (zi a1) (zi a2) post (zz J) xv3 := by
  subst ev3
  unfold v_X12_numbered_44 at hv
  unfold w_X12_numbered_44
  refine vw_X12_advance hJ  (fun J4 hJ hv => ?_) hv
  refine vw_X12_isIn (rfl : zi v3 = zi v3) iv3 (rfl : zi a1 = zi a1) ia1 (rfl : zi a2 = zi a2) ia2 (fun b5  hv => ?_) hv
  refine ⟨fun cq => ?_, fun cq => ?_⟩
  · have hv := hv.1 cq
    exact hp _ _ _ (rfl : zi a1 = zi a1) ia1 hJ hv
  · have hv := hv.2 cq
    exact hp _ _ _ (rfl : zi v3 = zi v3) iv3 hJ hv
def v_X12_numbered (J : mJ) (o : Nat) (a1 : Int) (a2 : Int) (post' : Int → mJ → Prop) : Prop := (¬ (J o 8) = 0 → (v_X12_numbered_15 o a1 a2 post') J) ∧ ((J o 8) = 0 → ((J o 5) = 1 → ∀ y1, y1 = (J o 6) → v_X12_isIn y1 a1 a2 (fun b2 => (b2 = true → (v_X12_numbered_44 o a1 a2 post') J y1) ∧ (b2 = false → v_X12_also J o 2 (J o 4) (fun J3 => (v_X12_numbered_44 o a1 a2 post') J3 y1)))) ∧ (¬ (J o 5) = 1 → (v_X12_numbered_15 o a1 a2 post') J))
theorem vw_X12_numbered {J : mJ} {o : Nat} {xa1 : Int32} {a1 : Int} {xa2 : Int32} {a2 : Int} (hJ : irm J)   (ea1 : xa1 = zi a1) (ia1 : ir a1) (ea2 : xa2 = zi a2) (ia2 : ir a2) {post : Int32 → mI → Prop} {post' : Int → mJ → Prop} (hp : ∀ (x : Int32) (r : Int) (J1 : mJ), x = zi r → ir r → irm J1 → post' r J1 → post x (zz J1)) (hv : v_X12_numbered J o a1 a2 post') : w_X12_numbered (zz J) o xa1 xa2 post := by
  subst ea1
  subst ea2
  unfold v_X12_numbered at hv
  unfold w_X12_numbered
  refine ⟨fun cq => ?_, fun cq => ?_⟩
  · have hv := hv.1 (fun q => cq ((zeq zrf (by decide : (0 : Int32) = zi 0) (hJ _ _) (by decide : ir 0)).mpr q))
    exact vw_X12_numbered_15 ia1 ia2 hp hJ hv
  · have hv := hv.2 ((zeq zrf (by decide : (0 : Int32) = zi 0) (hJ _ _) (by decide : ir 0)).mp cq)
    refine ⟨fun cq => ?_, fun cq => ?_⟩
    · have hv := hv.1 ((zeq zrf (by decide : (1 : Int32) = zi 1) (hJ _ _) (by decide : ir 1)).mp cq)
      intro xy1 exy1
      obtain ⟨y1, eyy1⟩ : ∃ q9 : Int, q9 = (J o 6) := ⟨_, rfl⟩
      have hv := hv y1 eyy1
      have Ey1 : xy1 = zi y1 := exy1.trans ((zrf).trans (congrArg zi eyy1.symm))
      have Iy1 : ir y1 := by rw [eyy1]; exact (hJ _ _)
      clear exy1
      refine vw_X12_isIn Ey1 Iy1 (rfl : zi a1 = zi a1) ia1 (rfl : zi a2 = zi a2) ia2 (fun b2  hv => ?_) hv
      refine ⟨fun cq => ?_, fun cq => ?_⟩
      · have hv := hv.1 cq
        exact vw_X12_numbered_44 ia1 ia2 hp hJ Ey1 Iy1 hv
      · have hv := hv.2 cq
        refine vw_X12_also hJ (by decide : (2 : Int32) = zi 2) (by decide : ir 2) zrf (hJ _ _) (fun J3 hJ hv => ?_) hv
        exact vw_X12_numbered_44 ia1 ia2 hp hJ Ey1 Iy1 hv
    · have hv := hv.2 (fun q => cq ((zeq zrf (by decide : (1 : Int32) = zi 1) (hJ _ _) (by decide : ir 1)).mpr q))
      exact vw_X12_numbered_15 ia1 ia2 hp hJ hv
def v_X12_takes_27 (o : Nat) (a1 : Int) (a2 : Int) (post' : Int → mJ → Prop) (J : mJ) : Prop := v_X12_ends J o (fun J4 => post' 0 J4)
theorem vw_X12_takes_27 {o : Nat} {a1 : Int} {a2 : Int}  (ia1 : ir a1) (ia2 : ir a2) {post : Int32 → mI → Prop} {post' : Int → mJ → Prop} (hp : ∀ (x : Int32) (r : Int) (J1 : mJ), x = zi r → ir r → irm J1 → post' r J1 → post x (zz J1)) {J : mJ} (hJ : irm J) (hv : v_X12_takes_27 o a1 a2 post' J) : w_X12_takes_27 o (zi a1) (zi a2) post (zz J) := by
  unfold v_X12_takes_27 at hv
  unfold w_X12_takes_27
  refine vw_X12_ends hJ  (fun J4 hJ hv => ?_) hv
  exact hp _ _ _ (by decide : (0 : Int32) = zi 0) (by decide : ir 0) hJ hv
def v_X12_takes (J : mJ) (o : Nat) (a1 : Int) (a2 : Int) (post' : Int → mJ → Prop) : Prop := (¬ (J o 8) = 0 → (v_X12_takes_27 o a1 a2 post') J) ∧ ((J o 8) = 0 → (¬ (J o 5) = 3 → (v_X12_takes_27 o a1 a2 post') J) ∧ ((J o 5) = 3 → v_X12_isIn (J o 7) a1 a2 (fun b1 => (b1 = true → ∀ y2, y2 = (J o 7) → v_X12_advance J o (fun J3 => post' y2 J3)) ∧ (b1 = false → (v_X12_takes_27 o a1 a2 post') J))))
theorem vw_X12_takes {J : mJ} {o : Nat} {xa1 : Int32} {a1 : Int} {xa2 : Int32} {a2 : Int} (hJ : irm J)   (ea1 : xa1 = zi a1) (ia1 : ir a1) (ea2 : xa2 = zi a2) (ia2 : ir a2) {post : Int32 → mI → Prop} {post' : Int → mJ → Prop} (hp : ∀ (x : Int32) (r : Int) (J1 : mJ), x = zi r → ir r → irm J1 → post' r J1 → post x (zz J1)) (hv : v_X12_takes J o a1 a2 post') : w_X12_takes (zz J) o xa1 xa2 post := by
  subst ea1
  subst ea2
  unfold v_X12_takes at hv
  unfold w_X12_takes
  refine ⟨fun cq => ?_, fun cq => ?_⟩
  · have hv := hv.1 (fun q => cq ((zeq zrf (by decide : (0 : Int32) = zi 0) (hJ _ _) (by decide : ir 0)).mpr q))
    exact vw_X12_takes_27 ia1 ia2 hp hJ hv
  · have hv := hv.2 ((zeq zrf (by decide : (0 : Int32) = zi 0) (hJ _ _) (by decide : ir 0)).mp cq)
    refine ⟨fun cq => ?_, fun cq => ?_⟩
    · have hv := hv.1 (fun q => cq ((zeq zrf (by decide : (3 : Int32) = zi 3) (hJ _ _) (by decide : ir 3)).mpr q))
      exact vw_X12_takes_27 ia1 ia2 hp hJ hv
    · have hv := hv.2 ((zeq zrf (by decide : (3 : Int32) = zi 3) (hJ _ _) (by decide : ir 3)).mp cq)
      refine vw_X12_isIn zrf (hJ _ _) (rfl : zi a1 = zi a1) ia1 (rfl : zi a2 = zi a2) ia2 (fun b1  hv => ?_) hv
      refine ⟨fun cq => ?_, fun cq => ?_⟩
      · have hv := hv.1 cq
        intro xy2 exy2
        obtain ⟨y2, eyy2⟩ : ∃ q9 : Int, q9 = (J o 7) := ⟨_, rfl⟩
        have hv := hv y2 eyy2
        have Ey2 : xy2 = zi y2 := exy2.trans ((zrf).trans (congrArg zi eyy2.symm))
        have Iy2 : ir y2 := by rw [eyy2]; exact (hJ _ _)
        clear exy2
        refine vw_X12_advance hJ  (fun J3 hJ hv => ?_) hv
        exact hp _ _ _ Ey2 Iy2 hJ hv
      · have hv := hv.2 cq
        exact vw_X12_takes_27 ia1 ia2 hp hJ hv
def v_X12_endsLine_22 (o : Nat) (post' : mJ → Prop) (J : mJ) : Prop := v_X12_ends J o (fun J2 => post' J2)
theorem vw_X12_endsLine_22 {o : Nat}   {post : mI → Prop} {post' : mJ → Prop} (hp : ∀ (J1 : mJ), irm J1 → post' J1 → post (zz J1)) {J : mJ} (hJ : irm J) (hv : v_X12_endsLine_22 o post' J) : w_X12_endsLine_22 o post (zz J) := by
  unfold v_X12_endsLine_22 at hv
  unfold w_X12_endsLine_22
  refine vw_X12_ends hJ  (fun J2 hJ hv => ?_) hv
  exact hp _ hJ hv
def v_X12_endsLine (J : mJ) (o : Nat) (post' : mJ → Prop) : Prop := (¬ (J o 8) = 0 → (v_X12_endsLine_22 o post') J) ∧ ((J o 8) = 0 → (¬ (J o 5) = 2 → (v_X12_endsLine_22 o post') J) ∧ ((J o 5) = 2 → v_X12_advance J o (fun J1 => post' J1)))
theorem vw_X12_endsLine {J : mJ} {o : Nat} (hJ : irm J)   {post : mI → Prop} {post' : mJ → Prop} (hp : ∀ (J1 : mJ), irm J1 → post' J1 → post (zz J1)) (hv : v_X12_endsLine J o post') : w_X12_endsLine (zz J) o post := by
  unfold v_X12_endsLine at hv
  unfold w_X12_endsLine
  refine ⟨fun cq => ?_, fun cq => ?_⟩
  · have hv := hv.1 (fun q => cq ((zeq zrf (by decide : (0 : Int32) = zi 0) (hJ _ _) (by decide : ir 0)).mpr q))
    exact vw_X12_endsLine_22  hp hJ hv
  · have hv := hv.2 ((zeq zrf (by decide : (0 : Int32) = zi 0) (hJ _ _) (by decide : ir 0)).mp cq)
    refine ⟨fun cq => ?_, fun cq => ?_⟩
    · have hv := hv.1 (fun q => cq ((zeq zrf (by decide : (2 : Int32) = zi 2) (hJ _ _) (by decide : ir 2)).mpr q))
      exact vw_X12_endsLine_22  hp hJ hv
    · have hv := hv.2 ((zeq zrf (by decide : (2 : Int32) = zi 2) (hJ _ _) (by decide : ir 2)).mp cq)
      refine vw_X12_advance hJ  (fun J1 hJ hv => ?_) hv
      exact hp _ hJ hv
def v_X12_who_24 (o : Nat) (post' : Int → mJ → Prop) (J : mJ) (v1 : Int) (s1 : Int) : Prop := ∀ J3, J3 = up2 J o 9 s1 → post' v1 J3
theorem vw_X12_who_24 {o : Nat}   {post : Int32 → mI → Prop} {post' : Int → mJ → Prop} (hp : ∀ (x : Int32) (r : Int) (J1 : mJ), x = zi r → ir r → irm J1 → post' r J1 → post x (zz J1)) {J : mJ} {xv1 : Int32} {v1 : Int} {xs1 : Int32} {s1 : Int} (hJ : irm J) (ev1 : xv1 = zi v1) (iv1 : ir v1) (es1 : xs1 = zi s1) (is1 : ir s1) (hv : v_X12_who_24 o post' J v1 s1) : w_X12_who_24 o post (zz J) xv1 xs1 := by
  subst ev1
  subst es1
  unfold v_X12_who_24 at hv
  unfold w_X12_who_24
  intro I1 eI1
  obtain ⟨J3, eJ3⟩ : ∃ q9 : mJ, q9 = up2 J o 9 s1 := ⟨_, rfl⟩
  have eI1 : I1 = zz J3 := by rw [eI1, eJ3]; exact zup (rfl : zi s1 = zi s1)
  subst eI1
  have hv := hv J3 eJ3
  have hJ : irm J3 := by rw [eJ3]; exact irm_up hJ is1
  exact hp _ _ _ (rfl : zi v1 = zi v1) iv1 hJ hv
def v_X12_who (J : mJ) (o : Nat) (post' : Int → mJ → Prop) : Prop := v_X12_numbered J o 0 5 (fun r1 J2 => (r1 ≤ (J2 o 9) → (v_X12_who_24 o post') J2 r1 (J2 o 9)) ∧ (¬ r1 ≤ (J2 o 9) → (v_X12_who_24 o post') J2 r1 r1))
theorem vw_X12_who {J : mJ} {o : Nat} (hJ : irm J)   {post : Int32 → mI → Prop} {post' : Int → mJ → Prop} (hp : ∀ (x : Int32) (r : Int) (J1 : mJ), x = zi r → ir r → irm J1 → post' r J1 → post x (zz J1)) (hv : v_X12_who J o post') : w_X12_who (zz J) o post := by
  unfold v_X12_who at hv
  unfold w_X12_who
  refine vw_X12_numbered hJ (by decide : (0 : Int32) = zi 0) (by decide : ir 0) (by decide : (5 : Int32) = zi 5) (by decide : ir 5) (fun xr1 r1 J2 Er1 Ir1 hJ hv => ?_) hv
  refine ⟨fun cq => ?_, fun cq => ?_⟩
  · have hv := hv.1 ((zle Er1 zrf Ir1 (hJ _ _)).mp cq)
    exact vw_X12_who_24  hp hJ Er1 Ir1 zrf (hJ _ _) hv
  · have hv := hv.2 (fun q => cq ((zle Er1 zrf Ir1 (hJ _ _)).mpr q))
    exact vw_X12_who_24  hp hJ Er1 Ir1 Er1 Ir1 hv
def v_X12_stepTold_25 (o : Nat) (post' : Int → mJ → Prop) (J : mJ) (v1 : Int) (s1 : Int) : Prop := ∀ J3, J3 = up2 J o 10 s1 → post' v1 J3
theorem vw_X12_stepTold_25 {o : Nat}   {post : Int32 → mI → Prop} {post' : Int → mJ → Prop} (hp : ∀ (x : Int32) (r : Int) (J1 : mJ), x = zi r → ir r → irm J1 → post' r J1 → post x (zz J1)) {J : mJ} {xv1 : Int32} {v1 : Int} {xs1 : Int32} {s1 : Int} (hJ : irm J) (ev1 : xv1 = zi v1) (iv1 : ir v1) (es1 : xs1 = zi s1) (is1 : ir s1) (hv : v_X12_stepTold_25 o post' J v1 s1) : w_X12_stepTold_25 o post (zz J) xv1 xs1 := by
  subst ev1
  subst es1
  unfold v_X12_stepTold_25 at hv
  unfold w_X12_stepTold_25
  intro I1 eI1
  obtain ⟨J3, eJ3⟩ : ∃ q9 : mJ, q9 = up2 J o 10 s1 := ⟨_, rfl⟩
  have eI1 : I1 = zz J3 := by rw [eI1, eJ3]; exact zup (rfl : zi s1 = zi s1)
  subst eI1
  have hv := hv J3 eJ3
  have hJ : irm J3 := by rw [eJ3]; exact irm_up hJ is1
  exact hp _ _ _ (rfl : zi v1 = zi v1) iv1 hJ hv
def v_X12_stepTold (J : mJ) (o : Nat) (post' : Int → mJ → Prop) : Prop := v_X12_numbered J o 0 23 (fun r1 J2 => (r1 ≤ (J2 o 10) → (v_X12_stepTold_25 o post') J2 r1 (J2 o 10)) ∧ (¬ r1 ≤ (J2 o 10) → (v_X12_stepTold_25 o post') J2 r1 r1))
theorem vw_X12_stepTold {J : mJ} {o : Nat} (hJ : irm J)   {post : Int32 → mI → Prop} {post' : Int → mJ → Prop} (hp : ∀ (x : Int32) (r : Int) (J1 : mJ), x = zi r → ir r → irm J1 → post' r J1 → post x (zz J1)) (hv : v_X12_stepTold J o post') : w_X12_stepTold (zz J) o post := by
  unfold v_X12_stepTold at hv
  unfold w_X12_stepTold
  refine vw_X12_numbered hJ (by decide : (0 : Int32) = zi 0) (by decide : ir 0) (by decide : (23 : Int32) = zi 23) (by decide : ir 23) (fun xr1 r1 J2 Er1 Ir1 hJ hv => ?_) hv
  refine ⟨fun cq => ?_, fun cq => ?_⟩
  · have hv := hv.1 ((zle Er1 zrf Ir1 (hJ _ _)).mp cq)
    exact vw_X12_stepTold_25  hp hJ Er1 Ir1 zrf (hJ _ _) hv
  · have hv := hv.2 (fun q => cq ((zle Er1 zrf Ir1 (hJ _ _)).mpr q))
    exact vw_X12_stepTold_25  hp hJ Er1 Ir1 Er1 Ir1 hv
def v_X12_flatLine_27 (o : Nat) (a1 : Int) (post' : mJ → Prop) (J : mJ) (v2 : Int) : Prop := v_X12_stepTold J o (fun r3 J4 => v_X12_numbered J4 o 0 9 (fun r5 J6 => (¬ v2 = 0 → ir (2 * (J6 (o + 3) 2)) ∧ ir (29 + (2 * (J6 (o + 3) 2))) ∧ (0 ≤ (29 + (2 * (J6 (o + 3) 2))) ∧ (29 + (2 * (J6 (o + 3) 2))) < 149) ∧ ∀ J11, J11 = up2 J6 (o + 3) ((29 + (2 * (J6 (o + 3) 2))).toNat) r3 → ir (2 * (J11 (o + 3) 2)) ∧ ir (30 + (2 * (J11 (o + 3) 2))) ∧ (0 ≤ (30 + (2 * (J11 (o + 3) 2))) ∧ (30 + (2 * (J11 (o + 3) 2))) < 149) ∧ ∀ J16, J16 = up2 J11 (o + 3) ((30 + (2 * (J11 (o + 3) 2))).toNat) r5 → ir ((J16 (o + 3) 2) + 1) ∧ ∀ J20, J20 = up2 J16 (o + 3) 2 ((J16 (o + 3) 2) + 1) → post' J20) ∧ (v2 = 0 → post' J6)))
theorem vw_X12_flatLine_27 {o : Nat} {a1 : Int}  (ia1 : ir a1) {post : mI → Prop} {post' : mJ → Prop} (hp : ∀ (J1 : mJ), irm J1 → post' J1 → post (zz J1)) {J : mJ} {xv2 : Int32} {v2 : Int} (hJ : irm J) (ev2 : xv2 = zi v2) (iv2 : ir v2) (hv : v_X12_flatLine_27 o a1 post' J v2) : w_X12_flatLine_27 o (zi a1) post (zz J) xv2 := by
  subst ev2
  unfold v_X12_flatLine_27 at hv
  unfold w_X12_flatLine_27
  refine vw_X12_stepTold hJ  (fun xr3 r3 J4 Er3 Ir3 hJ hv => ?_) hv
  refine vw_X12_numbered hJ (by decide : (0 : Int32) = zi 0) (by decide : ir 0) (by decide : (9 : Int32) = zi 9) (by decide : ir 9) (fun xr5 r5 J6 Er5 Ir5 hJ hv => ?_) hv
  refine ⟨fun cq => ?_, fun cq => ?_⟩
  · have hv := hv.1 (fun q => cq ((zeq (rfl : zi v2 = zi v2) (by decide : (0 : Int32) = zi 0) iv2 (by decide : ir 0)).mpr q))
    obtain ⟨g8, hv⟩ := hv
    obtain ⟨g9, hv⟩ := hv
    obtain ⟨g10, hv⟩ := hv
    refine ⟨zvp (za (by decide : (29 : Int32) = zi 29) (zm (by decide : (2 : Int32) = zi 2) (zrd (by decide : (2 : Int32) = zi 2) (by decide : ir 2) (by decide)))) g9 g10.1 g10.2, ?_⟩
    intro I1 eI1
    obtain ⟨J11, eJ11⟩ : ∃ q9 : mJ, q9 = up2 J6 (o + 3) ((29 + (2 * (J6 (o + 3) 2))).toNat) r3 := ⟨_, rfl⟩
    have eI1 : I1 = zz J11 := by rw [eI1, eJ11]; exact zupa (za (by decide : (29 : Int32) = zi 29) (zm (by decide : (2 : Int32) = zi 2) (zrd (by decide : (2 : Int32) = zi 2) (by decide : ir 2) (by decide)))) g9 g10.1 Er3
    subst eI1
    have hv := hv J11 eJ11
    have hJ : irm J11 := by rw [eJ11]; exact irm_up hJ Ir3
    obtain ⟨g13, hv⟩ := hv
    obtain ⟨g14, hv⟩ := hv
    obtain ⟨g15, hv⟩ := hv
    refine ⟨zvp (za (by decide : (30 : Int32) = zi 30) (zm (by decide : (2 : Int32) = zi 2) (zrd (by decide : (2 : Int32) = zi 2) (by decide : ir 2) (by decide)))) g14 g15.1 g15.2, ?_⟩
    intro I1 eI1
    obtain ⟨J16, eJ16⟩ : ∃ q9 : mJ, q9 = up2 J11 (o + 3) ((30 + (2 * (J11 (o + 3) 2))).toNat) r5 := ⟨_, rfl⟩
    have eI1 : I1 = zz J16 := by rw [eI1, eJ16]; exact zupa (za (by decide : (30 : Int32) = zi 30) (zm (by decide : (2 : Int32) = zi 2) (zrd (by decide : (2 : Int32) = zi 2) (by decide : ir 2) (by decide)))) g14 g15.1 Er5
    subst eI1
    have hv := hv J16 eJ16
    have hJ : irm J16 := by rw [eJ16]; exact irm_up hJ Ir5
    obtain ⟨g18, hv⟩ := hv
    intro I1 eI1
    obtain ⟨J20, eJ20⟩ : ∃ q9 : mJ, q9 = up2 J16 (o + 3) 2 ((J16 (o + 3) 2) + 1) := ⟨_, rfl⟩
    have eI1 : I1 = zz J20 := by rw [eI1, eJ20]; exact zupa (by decide : (2 : Int32) = zi 2) (by decide : ir 2) (by decide) (za (zrd (by decide : (2 : Int32) = zi 2) (by decide : ir 2) (by decide)) (by decide : (1 : Int32) = zi 1))
    subst eI1
    have hv := hv J20 eJ20
    have hJ : irm J20 := by rw [eJ20]; exact irm_up hJ g18
    exact hp _ hJ hv
  · have hv := hv.2 ((zeq (rfl : zi v2 = zi v2) (by decide : (0 : Int32) = zi 0) iv2 (by decide : ir 0)).mp cq)
    exact hp _ hJ hv
def v_X12_flatLine_16 (o : Nat) (a1 : Int) (post' : mJ → Prop) (J : mJ) (s0 : Int) : Prop := (¬ s0 = 0 → (v_X12_flatLine_27 o a1 post') J s0) ∧ (s0 = 0 → v_X12_also J o 3 a1 (fun J2 => (v_X12_flatLine_27 o a1 post') J2 s0))
theorem vw_X12_flatLine_16 {o : Nat} {a1 : Int}  (ia1 : ir a1) {post : mI → Prop} {post' : mJ → Prop} (hp : ∀ (J1 : mJ), irm J1 → post' J1 → post (zz J1)) {J : mJ} {xs0 : Int32} {s0 : Int} (hJ : irm J) (es0 : xs0 = zi s0) (is0 : ir s0) (hv : v_X12_flatLine_16 o a1 post' J s0) : w_X12_flatLine_16 o (zi a1) post (zz J) xs0 := by
  subst es0
  unfold v_X12_flatLine_16 at hv
  unfold w_X12_flatLine_16
  refine ⟨fun cq => ?_, fun cq => ?_⟩
  · have hv := hv.1 (fun q => cq ((zeq (rfl : zi s0 = zi s0) (by decide : (0 : Int32) = zi 0) is0 (by decide : ir 0)).mpr q))
    exact vw_X12_flatLine_27 ia1 hp hJ (rfl : zi s0 = zi s0) is0 hv
  · have hv := hv.2 ((zeq (rfl : zi s0 = zi s0) (by decide : (0 : Int32) = zi 0) is0 (by decide : ir 0)).mp cq)
    refine vw_X12_also hJ (by decide : (3 : Int32) = zi 3) (by decide : ir 3) (rfl : zi a1 = zi a1) ia1 (fun J2 hJ hv => ?_) hv
    exact vw_X12_flatLine_27 ia1 hp hJ (rfl : zi s0 = zi s0) is0 hv
def v_X12_flatLine (J : mJ) (o : Nat) (a1 : Int) (post' : mJ → Prop) : Prop := (6 ≤ (J (o + 3) 2) → (v_X12_flatLine_16 o a1 post') J 0) ∧ (¬ 6 ≤ (J (o + 3) 2) → (v_X12_flatLine_16 o a1 post') J 1)
theorem vw_X12_flatLine {J : mJ} {o : Nat} {xa1 : Int32} {a1 : Int} (hJ : irm J)   (ea1 : xa1 = zi a1) (ia1 : ir a1) {post : mI → Prop} {post' : mJ → Prop} (hp : ∀ (J1 : mJ), irm J1 → post' J1 → post (zz J1)) (hv : v_X12_flatLine J o a1 post') : w_X12_flatLine (zz J) o xa1 post := by
  subst ea1
  unfold v_X12_flatLine at hv
  unfold w_X12_flatLine
  refine ⟨fun cq => ?_, fun cq => ?_⟩
  · have hv := hv.1 ((zle (by decide : (6 : Int32) = zi 6) (zrd (by decide : (2 : Int32) = zi 2) (by decide : ir 2) (by decide)) (by decide : ir 6) (hJ _ _)).mp cq)
    exact vw_X12_flatLine_16 ia1 hp hJ (by decide : (0 : Int32) = zi 0) (by decide : ir 0) hv
  · have hv := hv.2 (fun q => cq ((zle (by decide : (6 : Int32) = zi 6) (zrd (by decide : (2 : Int32) = zi 2) (by decide : ir 2) (by decide)) (by decide : ir 6) (hJ _ _)).mpr q))
    exact vw_X12_flatLine_16 ia1 hp hJ (by decide : (1 : Int32) = zi 1) (by decide : ir 1) hv
def v_X12_personLine_27 (o : Nat) (a1 : Int) (post' : mJ → Prop) (J : mJ) (v2 : Int) : Prop := v_X12_numbered J o 0 9 (fun r3 J4 => v_X12_numbered J4 o 1 9 (fun r5 J6 => v_X12_numbered J6 o 1 4 (fun r7 J8 => (¬ v2 = 0 → ir (14 * (J8 (o + 3) 3)) ∧ ir (41 + (14 * (J8 (o + 3) 3))) ∧ ∀ y12, y12 = (41 + (14 * (J8 (o + 3) 3))) → ir (y12 + 0) ∧ (0 ≤ (y12 + 0) ∧ (y12 + 0) < 149) ∧ ∀ J15, J15 = up2 J8 (o + 3) ((y12 + 0).toNat) r3 → ir (y12 + 1) ∧ (0 ≤ (y12 + 1) ∧ (y12 + 1) < 149) ∧ ∀ J18, J18 = up2 J15 (o + 3) ((y12 + 1).toNat) r5 → ir (y12 + 2) ∧ (0 ≤ (y12 + 2) ∧ (y12 + 2) < 149) ∧ ∀ J21, J21 = up2 J18 (o + 3) ((y12 + 2).toNat) r7 → ir ((J21 (o + 3) 3) + 1) ∧ ∀ J25, J25 = up2 J21 (o + 3) 3 ((J21 (o + 3) 3) + 1) → post' J25) ∧ (v2 = 0 → post' J8))))
theorem vw_X12_personLine_27 {o : Nat} {a1 : Int}  (ia1 : ir a1) {post : mI → Prop} {post' : mJ → Prop} (hp : ∀ (J1 : mJ), irm J1 → post' J1 → post (zz J1)) {J : mJ} {xv2 : Int32} {v2 : Int} (hJ : irm J) (ev2 : xv2 = zi v2) (iv2 : ir v2) (hv : v_X12_personLine_27 o a1 post' J v2) : w_X12_personLine_27 o (zi a1) post (zz J) xv2 := by
  subst ev2
  unfold v_X12_personLine_27 at hv
  unfold w_X12_personLine_27
  refine vw_X12_numbered hJ (by decide : (0 : Int32) = zi 0) (by decide : ir 0) (by decide : (9 : Int32) = zi 9) (by decide : ir 9) (fun xr3 r3 J4 Er3 Ir3 hJ hv => ?_) hv
  refine vw_X12_numbered hJ (by decide : (1 : Int32) = zi 1) (by decide : ir 1) (by decide : (9 : Int32) = zi 9) (by decide : ir 9) (fun xr5 r5 J6 Er5 Ir5 hJ hv => ?_) hv
  refine vw_X12_numbered hJ (by decide : (1 : Int32) = zi 1) (by decide : ir 1) (by decide : (4 : Int32) = zi 4) (by decide : ir 4) (fun xr7 r7 J8 Er7 Ir7 hJ hv => ?_) hv
  refine ⟨fun cq => ?_, fun cq => ?_⟩
  · have hv := hv.1 (fun q => cq ((zeq (rfl : zi v2 = zi v2) (by decide : (0 : Int32) = zi 0) iv2 (by decide : ir 0)).mpr q))
    obtain ⟨g10, hv⟩ := hv
    obtain ⟨g11, hv⟩ := hv
    intro xy12 exy12
    obtain ⟨y12, eyy12⟩ : ∃ q9 : Int, q9 = (41 + (14 * (J8 (o + 3) 3))) := ⟨_, rfl⟩
    have hv := hv y12 eyy12
    have Ey12 : xy12 = zi y12 := exy12.trans (((za (by decide : (41 : Int32) = zi 41) (zm (by decide : (14 : Int32) = zi 14) (zrd (by decide : (3 : Int32) = zi 3) (by decide : ir 3) (by decide))))).trans (congrArg zi eyy12.symm))
    have Iy12 : ir y12 := by rw [eyy12]; exact g11
    clear exy12
    obtain ⟨g13, hv⟩ := hv
    obtain ⟨g14, hv⟩ := hv
    refine ⟨zvp (za Ey12 (by decide : (0 : Int32) = zi 0)) g13 g14.1 g14.2, ?_⟩
    intro I1 eI1
    obtain ⟨J15, eJ15⟩ : ∃ q9 : mJ, q9 = up2 J8 (o + 3) ((y12 + 0).toNat) r3 := ⟨_, rfl⟩
    have eI1 : I1 = zz J15 := by rw [eI1, eJ15]; exact zupa (za Ey12 (by decide : (0 : Int32) = zi 0)) g13 g14.1 Er3
    subst eI1
    have hv := hv J15 eJ15
    have hJ : irm J15 := by rw [eJ15]; exact irm_up hJ Ir3
    obtain ⟨g16, hv⟩ := hv
    obtain ⟨g17, hv⟩ := hv
    refine ⟨zvp (za Ey12 (by decide : (1 : Int32) = zi 1)) g16 g17.1 g17.2, ?_⟩
    intro I1 eI1
    obtain ⟨J18, eJ18⟩ : ∃ q9 : mJ, q9 = up2 J15 (o + 3) ((y12 + 1).toNat) r5 := ⟨_, rfl⟩
    have eI1 : I1 = zz J18 := by rw [eI1, eJ18]; exact zupa (za Ey12 (by decide : (1 : Int32) = zi 1)) g16 g17.1 Er5
    subst eI1
    have hv := hv J18 eJ18
    have hJ : irm J18 := by rw [eJ18]; exact irm_up hJ Ir5
    obtain ⟨g19, hv⟩ := hv
    obtain ⟨g20, hv⟩ := hv
    refine ⟨zvp (za Ey12 (by decide : (2 : Int32) = zi 2)) g19 g20.1 g20.2, ?_⟩
    intro I1 eI1
    obtain ⟨J21, eJ21⟩ : ∃ q9 : mJ, q9 = up2 J18 (o + 3) ((y12 + 2).toNat) r7 := ⟨_, rfl⟩
    have eI1 : I1 = zz J21 := by rw [eI1, eJ21]; exact zupa (za Ey12 (by decide : (2 : Int32) = zi 2)) g19 g20.1 Er7
    subst eI1
    have hv := hv J21 eJ21
    have hJ : irm J21 := by rw [eJ21]; exact irm_up hJ Ir7
    obtain ⟨g23, hv⟩ := hv
    intro I1 eI1
    obtain ⟨J25, eJ25⟩ : ∃ q9 : mJ, q9 = up2 J21 (o + 3) 3 ((J21 (o + 3) 3) + 1) := ⟨_, rfl⟩
    have eI1 : I1 = zz J25 := by rw [eI1, eJ25]; exact zupa (by decide : (3 : Int32) = zi 3) (by decide : ir 3) (by decide) (za (zrd (by decide : (3 : Int32) = zi 3) (by decide : ir 3) (by decide)) (by decide : (1 : Int32) = zi 1))
    subst eI1
    have hv := hv J25 eJ25
    have hJ : irm J25 := by rw [eJ25]; exact irm_up hJ g23
    exact hp _ hJ hv
  · have hv := hv.2 ((zeq (rfl : zi v2 = zi v2) (by decide : (0 : Int32) = zi 0) iv2 (by decide : ir 0)).mp cq)
    exact hp _ hJ hv
def v_X12_personLine_16 (o : Nat) (a1 : Int) (post' : mJ → Prop) (J : mJ) (s0 : Int) : Prop := (¬ s0 = 0 → (v_X12_personLine_27 o a1 post') J s0) ∧ (s0 = 0 → v_X12_also J o 3 a1 (fun J2 => (v_X12_personLine_27 o a1 post') J2 s0))
theorem vw_X12_personLine_16 {o : Nat} {a1 : Int}  (ia1 : ir a1) {post : mI → Prop} {post' : mJ → Prop} (hp : ∀ (J1 : mJ), irm J1 → post' J1 → post (zz J1)) {J : mJ} {xs0 : Int32} {s0 : Int} (hJ : irm J) (es0 : xs0 = zi s0) (is0 : ir s0) (hv : v_X12_personLine_16 o a1 post' J s0) : w_X12_personLine_16 o (zi a1) post (zz J) xs0 := by
  subst es0
  unfold v_X12_personLine_16 at hv
  unfold w_X12_personLine_16
  refine ⟨fun cq => ?_, fun cq => ?_⟩
  · have hv := hv.1 (fun q => cq ((zeq (rfl : zi s0 = zi s0) (by decide : (0 : Int32) = zi 0) is0 (by decide : ir 0)).mpr q))
    exact vw_X12_personLine_27 ia1 hp hJ (rfl : zi s0 = zi s0) is0 hv
  · have hv := hv.2 ((zeq (rfl : zi s0 = zi s0) (by decide : (0 : Int32) = zi 0) is0 (by decide : ir 0)).mp cq)
    refine vw_X12_also hJ (by decide : (3 : Int32) = zi 3) (by decide : ir 3) (rfl : zi a1 = zi a1) ia1 (fun J2 hJ hv => ?_) hv
    exact vw_X12_personLine_27 ia1 hp hJ (rfl : zi s0 = zi s0) is0 hv
def v_X12_personLine (J : mJ) (o : Nat) (a1 : Int) (post' : mJ → Prop) : Prop := (6 ≤ (J (o + 3) 3) → (v_X12_personLine_16 o a1 post') J 0) ∧ (¬ 6 ≤ (J (o + 3) 3) → (v_X12_personLine_16 o a1 post') J 1)
theorem vw_X12_personLine {J : mJ} {o : Nat} {xa1 : Int32} {a1 : Int} (hJ : irm J)   (ea1 : xa1 = zi a1) (ia1 : ir a1) {post : mI → Prop} {post' : mJ → Prop} (hp : ∀ (J1 : mJ), irm J1 → post' J1 → post (zz J1)) (hv : v_X12_personLine J o a1 post') : w_X12_personLine (zz J) o xa1 post := by
  subst ea1
  unfold v_X12_personLine at hv
  unfold w_X12_personLine
  refine ⟨fun cq => ?_, fun cq => ?_⟩
  · have hv := hv.1 ((zle (by decide : (6 : Int32) = zi 6) (zrd (by decide : (3 : Int32) = zi 3) (by decide : ir 3) (by decide)) (by decide : ir 6) (hJ _ _)).mp cq)
    exact vw_X12_personLine_16 ia1 hp hJ (by decide : (0 : Int32) = zi 0) (by decide : ir 0) hv
  · have hv := hv.2 (fun q => cq ((zle (by decide : (6 : Int32) = zi 6) (zrd (by decide : (3 : Int32) = zi 3) (by decide : ir 3) (by decide)) (by decide : ir 6) (hJ _ _)).mpr q))
    exact vw_X12_personLine_16 ia1 hp hJ (by decide : (1 : Int32) = zi 1) (by decide : ir 1) hv
def v_X12_walkLine_74 (o : Nat) (post' : mJ → Prop) (k40' : mJ → Int → Int → Prop) (J : mJ) (v1 : Int) (v2 : Int) : Prop := v_X12_stepTold J o (fun r17 J18 => (8 ≤ v2 → ir (v2 + 1) ∧ ∀ y20, y20 = v2 + 1 → k40' J18 v1 y20) ∧ (¬ 8 ≤ v2 → ir (v1 + 5) ∧ ir ((v1 + 5) + 1) ∧ ir (((v1 + 5) + 1) + v2) ∧ (0 ≤ (((v1 + 5) + 1) + v2) ∧ (((v1 + 5) + 1) + v2) < 149) ∧ ∀ J25, J25 = up2 J18 (o + 3) ((((v1 + 5) + 1) + v2).toNat) r17 → ir (v2 + 1) ∧ ∀ y27, y27 = v2 + 1 → k40' J25 v1 y27))
theorem vw_X12_walkLine_74 {o : Nat}   {post : mI → Prop} {post' : mJ → Prop} {k40' : mJ → Int → Int → Prop} {k40 : mI → Int32 → Int32 → Prop} (hp : ∀ (J1 : mJ), irm J1 → post' J1 → post (zz J1)) (hk40 : ∀ (J : mJ) (xv1 : Int32) (v1 : Int) (xv2 : Int32) (v2 : Int), irm J → xv1 = zi v1 → ir v1 → xv2 = zi v2 → ir v2 → k40' J v1 v2 → k40 (zz J) xv1 xv2) {J : mJ} {xv1 : Int32} {v1 : Int} {xv2 : Int32} {v2 : Int} (hJ : irm J) (ev1 : xv1 = zi v1) (iv1 : ir v1) (ev2 : xv2 = zi v2) (iv2 : ir v2) (hv : v_X12_walkLine_74 o post' k40' J v1 v2) : w_X12_walkLine_74 o post k40 (zz J) xv1 xv2 := by
  subst ev1
  subst ev2
  unfold v_X12_walkLine_74 at hv
  unfold w_X12_walkLine_74
  refine vw_X12_stepTold hJ  (fun xr17 r17 J18 Er17 Ir17 hJ hv => ?_) hv
  refine ⟨fun cq => ?_, fun cq => ?_⟩
  · have hv := hv.1 ((zle (by decide : (8 : Int32) = zi 8) (rfl : zi v2 = zi v2) (by decide : ir 8) iv2).mp cq)
    obtain ⟨g19, hv⟩ := hv
    intro xy20 exy20
    obtain ⟨y20, eyy20⟩ : ∃ q9 : Int, q9 = v2 + 1 := ⟨_, rfl⟩
    have hv := hv y20 eyy20
    have Ey20 : xy20 = zi y20 := exy20.trans (((za (rfl : zi v2 = zi v2) (by decide : (1 : Int32) = zi 1))).trans (congrArg zi eyy20.symm))
    have Iy20 : ir y20 := by rw [eyy20]; exact g19
    clear exy20
    exact hk40 _ _ _ _ _ hJ (rfl : zi v1 = zi v1) iv1 Ey20 Iy20 hv
  · have hv := hv.2 (fun q => cq ((zle (by decide : (8 : Int32) = zi 8) (rfl : zi v2 = zi v2) (by decide : ir 8) iv2).mpr q))
    obtain ⟨g21, hv⟩ := hv
    obtain ⟨g22, hv⟩ := hv
    obtain ⟨g23, hv⟩ := hv
    obtain ⟨g24, hv⟩ := hv
    refine ⟨zvp (za (za (za (rfl : zi v1 = zi v1) (by decide : (5 : Int32) = zi 5)) (by decide : (1 : Int32) = zi 1)) (rfl : zi v2 = zi v2)) g23 g24.1 g24.2, ?_⟩
    intro I1 eI1
    obtain ⟨J25, eJ25⟩ : ∃ q9 : mJ, q9 = up2 J18 (o + 3) ((((v1 + 5) + 1) + v2).toNat) r17 := ⟨_, rfl⟩
    have eI1 : I1 = zz J25 := by rw [eI1, eJ25]; exact zupa (za (za (za (rfl : zi v1 = zi v1) (by decide : (5 : Int32) = zi 5)) (by decide : (1 : Int32) = zi 1)) (rfl : zi v2 = zi v2)) g23 g24.1 Er17
    subst eI1
    have hv := hv J25 eJ25
    have hJ : irm J25 := by rw [eJ25]; exact irm_up hJ Ir17
    obtain ⟨g26, hv⟩ := hv
    intro xy27 exy27
    obtain ⟨y27, eyy27⟩ : ∃ q9 : Int, q9 = v2 + 1 := ⟨_, rfl⟩
    have hv := hv y27 eyy27
    have Ey27 : xy27 = zi y27 := exy27.trans (((za (rfl : zi v2 = zi v2) (by decide : (1 : Int32) = zi 1))).trans (congrArg zi eyy27.symm))
    have Iy27 : ir y27 := by rw [eyy27]; exact g26
    clear exy27
    exact hk40 _ _ _ _ _ hJ (rfl : zi v1 = zi v1) iv1 Ey27 Iy27 hv
def v_X12_walkLine_59 (o : Nat) (post' : mJ → Prop) (k40' : mJ → Int → Int → Prop) (J : mJ) (v1 : Int) (v2 : Int) : Prop := (v2 < 8 → (v_X12_walkLine_74 o post' k40') J v1 v2) ∧ (¬ v2 < 8 → v_X12_also J o 3 (J o 4) (fun J16 => (v_X12_walkLine_74 o post' k40') J16 v1 v2))
theorem vw_X12_walkLine_59 {o : Nat}   {post : mI → Prop} {post' : mJ → Prop} {k40' : mJ → Int → Int → Prop} {k40 : mI → Int32 → Int32 → Prop} (hp : ∀ (J1 : mJ), irm J1 → post' J1 → post (zz J1)) (hk40 : ∀ (J : mJ) (xv1 : Int32) (v1 : Int) (xv2 : Int32) (v2 : Int), irm J → xv1 = zi v1 → ir v1 → xv2 = zi v2 → ir v2 → k40' J v1 v2 → k40 (zz J) xv1 xv2) {J : mJ} {xv1 : Int32} {v1 : Int} {xv2 : Int32} {v2 : Int} (hJ : irm J) (ev1 : xv1 = zi v1) (iv1 : ir v1) (ev2 : xv2 = zi v2) (iv2 : ir v2) (hv : v_X12_walkLine_59 o post' k40' J v1 v2) : w_X12_walkLine_59 o post k40 (zz J) xv1 xv2 := by
  subst ev1
  subst ev2
  unfold v_X12_walkLine_59 at hv
  unfold w_X12_walkLine_59
  refine ⟨fun cq => ?_, fun cq => ?_⟩
  · have hv := hv.1 ((zlt (rfl : zi v2 = zi v2) (by decide : (8 : Int32) = zi 8) iv2 (by decide : ir 8)).mp cq)
    refine vw_X12_walkLine_74  hp hk40 hJ (rfl : zi v1 = zi v1) iv1 (rfl : zi v2 = zi v2) iv2 hv
  · have hv := hv.2 (fun q => cq ((zlt (rfl : zi v2 = zi v2) (by decide : (8 : Int32) = zi 8) iv2 (by decide : ir 8)).mpr q))
    refine vw_X12_also hJ (by decide : (3 : Int32) = zi 3) (by decide : ir 3) zrf (hJ _ _) (fun J16 hJ hv => ?_) hv
    refine vw_X12_walkLine_74  hp hk40 hJ (rfl : zi v1 = zi v1) iv1 (rfl : zi v2 = zi v2) iv2 hv
def v_X12_walkLine_40 (o : Nat) (post' : mJ → Prop) (k104' : mJ → Int → Int → Prop) (J : mJ) (v1 : Int) (v2 : Int) : Prop := ∀ ZZ : (mJ → Int → Int → Prop), (∀ (J : mJ) (v1 : Int) (v2 : Int), ((¬ (J o 8) = 0 → k104' J v1 v2) ∧ ((J o 8) = 0 → (v2 = 0 → (v_X12_walkLine_59 o post' ZZ) J v1 v2) ∧ (¬ v2 = 0 → (¬ (J o 5) = 1 → k104' J v1 v2) ∧ ((J o 5) = 1 → (v_X12_walkLine_59 o post' ZZ) J v1 v2)))) → ZZ J v1 v2) → ZZ J v1 v2
theorem vw_X12_walkLine_40 {o : Nat}   {post : mI → Prop} {post' : mJ → Prop} {k104' : mJ → Int → Int → Prop} {k104 : mI → Int32 → Int32 → Prop} (hp : ∀ (J1 : mJ), irm J1 → post' J1 → post (zz J1)) (hk104 : ∀ (J : mJ) (xv1 : Int32) (v1 : Int) (xv2 : Int32) (v2 : Int), irm J → xv1 = zi v1 → ir v1 → xv2 = zi v2 → ir v2 → k104' J v1 v2 → k104 (zz J) xv1 xv2) {J : mJ} {xv1 : Int32} {v1 : Int} {xv2 : Int32} {v2 : Int} (hJ : irm J) (ev1 : xv1 = zi v1) (iv1 : ir v1) (ev2 : xv2 = zi v2) (iv2 : ir v2) (hv : v_X12_walkLine_40 o post' k104' J v1 v2) : w_X12_walkLine_40 o post k104 (zz J) xv1 xv2 := by
  subst ev1
  subst ev2
  unfold v_X12_walkLine_40 at hv
  unfold w_X12_walkLine_40
  intro ZZ hZ
  refine hv (fun J v1 v2 => ∀ (xv1 : Int32) (xv2 : Int32), irm J → xv1 = zi v1 → ir v1 → xv2 = zi v2 → ir v2 → ZZ (zz J) xv1 xv2) ?_ _ _ hJ rfl iv1 rfl iv2
  clear hv hJ iv1 iv2
  intro J v1 v2 hv xv1 xv2 hJ ev1 iv1 ev2 iv2
  subst ev1
  subst ev2
  refine hZ _ _ _ ?_
  refine ⟨fun cq => ?_, fun cq => ?_⟩
  · have hv := hv.1 (fun q => cq ((zeq zrf (by decide : (0 : Int32) = zi 0) (hJ _ _) (by decide : ir 0)).mpr q))
    exact hk104 _ _ _ _ _ hJ (rfl : zi v1 = zi v1) iv1 (rfl : zi v2 = zi v2) iv2 hv
  · have hv := hv.2 ((zeq zrf (by decide : (0 : Int32) = zi 0) (hJ _ _) (by decide : ir 0)).mp cq)
    refine ⟨fun cq => ?_, fun cq => ?_⟩
    · have hv := hv.1 ((zeq (rfl : zi v2 = zi v2) (by decide : (0 : Int32) = zi 0) iv2 (by decide : ir 0)).mp cq)
      refine vw_X12_walkLine_59  hp ?_ hJ (rfl : zi v1 = zi v1) iv1 (rfl : zi v2 = zi v2) iv2 hv
      · intro qq xx vv xx vv hJ ev1 iv1 ev2 iv2 hv
        exact hv _ _ hJ ev1 iv1 ev2 iv2
    · have hv := hv.2 (fun q => cq ((zeq (rfl : zi v2 = zi v2) (by decide : (0 : Int32) = zi 0) iv2 (by decide : ir 0)).mpr q))
      refine ⟨fun cq => ?_, fun cq => ?_⟩
      · have hv := hv.1 (fun q => cq ((zeq zrf (by decide : (1 : Int32) = zi 1) (hJ _ _) (by decide : ir 1)).mpr q))
        exact hk104 _ _ _ _ _ hJ (rfl : zi v1 = zi v1) iv1 (rfl : zi v2 = zi v2) iv2 hv
      · have hv := hv.2 ((zeq zrf (by decide : (1 : Int32) = zi 1) (hJ _ _) (by decide : ir 1)).mp cq)
        refine vw_X12_walkLine_59  hp ?_ hJ (rfl : zi v1 = zi v1) iv1 (rfl : zi v2 = zi v2) iv2 hv
        · intro qq xx vv xx vv hJ ev1 iv1 ev2 iv2 hv
          exact hv _ _ hJ ev1 iv1 ev2 iv2
def v_X12_walkLine_123 (o : Nat) (post' : mJ → Prop) (J : mJ) (s1 : Int) (s2 : Int) : Prop := (0 ≤ s1 ∧ s1 < 149) ∧ ∀ J30, J30 = up2 J (o + 3) s1.toNat s2 → post' J30
theorem vw_X12_walkLine_123 {o : Nat}   {post : mI → Prop} {post' : mJ → Prop} (hp : ∀ (J1 : mJ), irm J1 → post' J1 → post (zz J1)) {J : mJ} {xs1 : Int32} {s1 : Int} {xs2 : Int32} {s2 : Int} (hJ : irm J) (es1 : xs1 = zi s1) (is1 : ir s1) (es2 : xs2 = zi s2) (is2 : ir s2) (hv : v_X12_walkLine_123 o post' J s1 s2) : w_X12_walkLine_123 o post (zz J) xs1 xs2 := by
  subst es1
  subst es2
  unfold v_X12_walkLine_123 at hv
  unfold w_X12_walkLine_123
  obtain ⟨g29, hv⟩ := hv
  refine ⟨zvp (rfl : zi s1 = zi s1) is1 g29.1 g29.2, ?_⟩
  intro I1 eI1
  obtain ⟨J30, eJ30⟩ : ∃ q9 : mJ, q9 = up2 J (o + 3) s1.toNat s2 := ⟨_, rfl⟩
  have eI1 : I1 = zz J30 := by rw [eI1, eJ30]; exact zupa (rfl : zi s1 = zi s1) is1 g29.1 (rfl : zi s2 = zi s2)
  subst eI1
  have hv := hv J30 eJ30
  have hJ : irm J30 := by rw [eJ30]; exact irm_up hJ is2
  exact hp _ hJ hv
def v_X12_walkLine_104 (o : Nat) (post' : mJ → Prop) (J : mJ) (v1 : Int) (v2 : Int) : Prop := ir (v1 + 5) ∧ (v2 ≤ 8 → (v_X12_walkLine_123 o post') J (v1 + 5) v2) ∧ (¬ v2 ≤ 8 → (v_X12_walkLine_123 o post') J (v1 + 5) 8)
theorem vw_X12_walkLine_104 {o : Nat}   {post : mI → Prop} {post' : mJ → Prop} (hp : ∀ (J1 : mJ), irm J1 → post' J1 → post (zz J1)) {J : mJ} {xv1 : Int32} {v1 : Int} {xv2 : Int32} {v2 : Int} (hJ : irm J) (ev1 : xv1 = zi v1) (iv1 : ir v1) (ev2 : xv2 = zi v2) (iv2 : ir v2) (hv : v_X12_walkLine_104 o post' J v1 v2) : w_X12_walkLine_104 o post (zz J) xv1 xv2 := by
  subst ev1
  subst ev2
  unfold v_X12_walkLine_104 at hv
  unfold w_X12_walkLine_104
  obtain ⟨g28, hv⟩ := hv
  refine ⟨fun cq => ?_, fun cq => ?_⟩
  · have hv := hv.1 ((zle (rfl : zi v2 = zi v2) (by decide : (8 : Int32) = zi 8) iv2 (by decide : ir 8)).mp cq)
    exact vw_X12_walkLine_123  hp hJ (za (rfl : zi v1 = zi v1) (by decide : (5 : Int32) = zi 5)) g28 (rfl : zi v2 = zi v2) iv2 hv
  · have hv := hv.2 (fun q => cq ((zle (rfl : zi v2 = zi v2) (by decide : (8 : Int32) = zi 8) iv2 (by decide : ir 8)).mpr q))
    exact vw_X12_walkLine_123  hp hJ (za (rfl : zi v1 = zi v1) (by decide : (5 : Int32) = zi 5)) g28 (by decide : (8 : Int32) = zi 8) (by decide : ir 8) hv
def v_X12_walkLine (J : mJ) (o : Nat) (post' : mJ → Prop) : Prop := v_X12_who J o (fun r1 J2 => ir (14 * r1) ∧ ir (41 + (14 * r1)) ∧ ∀ y5, y5 = (41 + (14 * r1)) → ir (y5 + 3) ∧ v_X12_numbered J2 o 0 60 (fun r7 J8 => (0 ≤ (y5 + 3) ∧ (y5 + 3) < 149) ∧ ∀ J10, J10 = up2 J8 (o + 3) ((y5 + 3).toNat) r7 → ir (y5 + 4) ∧ v_X12_stepTold J10 o (fun r12 J13 => (0 ≤ (y5 + 4) ∧ (y5 + 4) < 149) ∧ ∀ J15, J15 = up2 J13 (o + 3) ((y5 + 4).toNat) r12 → (v_X12_walkLine_40 o post' (v_X12_walkLine_104 o post')) J15 y5 0)))
theorem vw_X12_walkLine {J : mJ} {o : Nat} (hJ : irm J)   {post : mI → Prop} {post' : mJ → Prop} (hp : ∀ (J1 : mJ), irm J1 → post' J1 → post (zz J1)) (hv : v_X12_walkLine J o post') : w_X12_walkLine (zz J) o post := by
  unfold v_X12_walkLine at hv
  unfold w_X12_walkLine
  refine vw_X12_who hJ  (fun xr1 r1 J2 Er1 Ir1 hJ hv => ?_) hv
  obtain ⟨g3, hv⟩ := hv
  obtain ⟨g4, hv⟩ := hv
  intro xy5 exy5
  obtain ⟨y5, eyy5⟩ : ∃ q9 : Int, q9 = (41 + (14 * r1)) := ⟨_, rfl⟩
  have hv := hv y5 eyy5
  have Ey5 : xy5 = zi y5 := exy5.trans (((za (by decide : (41 : Int32) = zi 41) (zm (by decide : (14 : Int32) = zi 14) Er1))).trans (congrArg zi eyy5.symm))
  have Iy5 : ir y5 := by rw [eyy5]; exact g4
  clear exy5
  obtain ⟨g6, hv⟩ := hv
  refine vw_X12_numbered hJ (by decide : (0 : Int32) = zi 0) (by decide : ir 0) (by decide : (60 : Int32) = zi 60) (by decide : ir 60) (fun xr7 r7 J8 Er7 Ir7 hJ hv => ?_) hv
  obtain ⟨g9, hv⟩ := hv
  refine ⟨zvp (za Ey5 (by decide : (3 : Int32) = zi 3)) g6 g9.1 g9.2, ?_⟩
  intro I1 eI1
  obtain ⟨J10, eJ10⟩ : ∃ q9 : mJ, q9 = up2 J8 (o + 3) ((y5 + 3).toNat) r7 := ⟨_, rfl⟩
  have eI1 : I1 = zz J10 := by rw [eI1, eJ10]; exact zupa (za Ey5 (by decide : (3 : Int32) = zi 3)) g6 g9.1 Er7
  subst eI1
  have hv := hv J10 eJ10
  have hJ : irm J10 := by rw [eJ10]; exact irm_up hJ Ir7
  obtain ⟨g11, hv⟩ := hv
  refine vw_X12_stepTold hJ  (fun xr12 r12 J13 Er12 Ir12 hJ hv => ?_) hv
  obtain ⟨g14, hv⟩ := hv
  refine ⟨zvp (za Ey5 (by decide : (4 : Int32) = zi 4)) g11 g14.1 g14.2, ?_⟩
  intro I1 eI1
  obtain ⟨J15, eJ15⟩ : ∃ q9 : mJ, q9 = up2 J13 (o + 3) ((y5 + 4).toNat) r12 := ⟨_, rfl⟩
  have eI1 : I1 = zz J15 := by rw [eI1, eJ15]; exact zupa (za Ey5 (by decide : (4 : Int32) = zi 4)) g11 g14.1 Er12
  subst eI1
  have hv := hv J15 eJ15
  have hJ : irm J15 := by rw [eJ15]; exact irm_up hJ Ir12
  refine vw_X12_walkLine_40  hp ?_ hJ Ey5 Iy5 (by decide : (0 : Int32) = zi 0) (by decide : ir 0) hv
  · intro qq xx vv xx vv hJ ev1 iv1 ev2 iv2 hv
    exact vw_X12_walkLine_104  hp hJ ev1 iv1 ev2 iv2 hv
def v_X12_changeLine_27 (o : Nat) (a1 : Int) (post' : mJ → Prop) (J : mJ) (v2 : Int) : Prop := v_X12_who J o (fun r3 J4 => v_X12_numbered J4 o 0 99 (fun r5 J6 => v_X12_numbered J6 o 0 9 (fun r7 J8 => (¬ v2 = 0 → ir (3 * (J8 (o + 3) 4)) ∧ ir (125 + (3 * (J8 (o + 3) 4))) ∧ ∀ y12, y12 = (125 + (3 * (J8 (o + 3) 4))) → (0 ≤ y12 ∧ y12 < 149) ∧ ∀ J14, J14 = up2 J8 (o + 3) y12.toNat r3 → ir (y12 + 1) ∧ (0 ≤ (y12 + 1) ∧ (y12 + 1) < 149) ∧ ∀ J17, J17 = up2 J14 (o + 3) ((y12 + 1).toNat) r5 → ir (y12 + 2) ∧ (0 ≤ (y12 + 2) ∧ (y12 + 2) < 149) ∧ ∀ J20, J20 = up2 J17 (o + 3) ((y12 + 2).toNat) r7 → ir ((J20 (o + 3) 4) + 1) ∧ ∀ J24, J24 = up2 J20 (o + 3) 4 ((J20 (o + 3) 4) + 1) → post' J24) ∧ (v2 = 0 → post' J8))))
theorem vw_X12_changeLine_27 {o : Nat} {a1 : Int}  (ia1 : ir a1) {post : mI → Prop} {post' : mJ → Prop} (hp : ∀ (J1 : mJ), irm J1 → post' J1 → post (zz J1)) {J : mJ} {xv2 : Int32} {v2 : Int} (hJ : irm J) (ev2 : xv2 = zi v2) (iv2 : ir v2) (hv : v_X12_changeLine_27 o a1 post' J v2) : w_X12_changeLine_27 o (zi a1) post (zz J) xv2 := by
  subst ev2
  unfold v_X12_changeLine_27 at hv
  unfold w_X12_changeLine_27
  refine vw_X12_who hJ  (fun xr3 r3 J4 Er3 Ir3 hJ hv => ?_) hv
  refine vw_X12_numbered hJ (by decide : (0 : Int32) = zi 0) (by decide : ir 0) (by decide : (99 : Int32) = zi 99) (by decide : ir 99) (fun xr5 r5 J6 Er5 Ir5 hJ hv => ?_) hv
  refine vw_X12_numbered hJ (by decide : (0 : Int32) = zi 0) (by decide : ir 0) (by decide : (9 : Int32) = zi 9) (by decide : ir 9) (fun xr7 r7 J8 Er7 Ir7 hJ hv => ?_) hv
  refine ⟨fun cq => ?_, fun cq => ?_⟩
  · have hv := hv.1 (fun q => cq ((zeq (rfl : zi v2 = zi v2) (by decide : (0 : Int32) = zi 0) iv2 (by decide : ir 0)).mpr q))
    obtain ⟨g10, hv⟩ := hv
    obtain ⟨g11, hv⟩ := hv
    intro xy12 exy12
    obtain ⟨y12, eyy12⟩ : ∃ q9 : Int, q9 = (125 + (3 * (J8 (o + 3) 4))) := ⟨_, rfl⟩
    have hv := hv y12 eyy12
    have Ey12 : xy12 = zi y12 := exy12.trans (((za (by decide : (125 : Int32) = zi 125) (zm (by decide : (3 : Int32) = zi 3) (zrd (by decide : (4 : Int32) = zi 4) (by decide : ir 4) (by decide))))).trans (congrArg zi eyy12.symm))
    have Iy12 : ir y12 := by rw [eyy12]; exact g11
    clear exy12
    obtain ⟨g13, hv⟩ := hv
    refine ⟨zvp Ey12 Iy12 g13.1 g13.2, ?_⟩
    intro I1 eI1
    obtain ⟨J14, eJ14⟩ : ∃ q9 : mJ, q9 = up2 J8 (o + 3) y12.toNat r3 := ⟨_, rfl⟩
    have eI1 : I1 = zz J14 := by rw [eI1, eJ14]; exact zupa Ey12 Iy12 g13.1 Er3
    subst eI1
    have hv := hv J14 eJ14
    have hJ : irm J14 := by rw [eJ14]; exact irm_up hJ Ir3
    obtain ⟨g15, hv⟩ := hv
    obtain ⟨g16, hv⟩ := hv
    refine ⟨zvp (za Ey12 (by decide : (1 : Int32) = zi 1)) g15 g16.1 g16.2, ?_⟩
    intro I1 eI1
    obtain ⟨J17, eJ17⟩ : ∃ q9 : mJ, q9 = up2 J14 (o + 3) ((y12 + 1).toNat) r5 := ⟨_, rfl⟩
    have eI1 : I1 = zz J17 := by rw [eI1, eJ17]; exact zupa (za Ey12 (by decide : (1 : Int32) = zi 1)) g15 g16.1 Er5
    subst eI1
    have hv := hv J17 eJ17
    have hJ : irm J17 := by rw [eJ17]; exact irm_up hJ Ir5
    obtain ⟨g18, hv⟩ := hv
    obtain ⟨g19, hv⟩ := hv
    refine ⟨zvp (za Ey12 (by decide : (2 : Int32) = zi 2)) g18 g19.1 g19.2, ?_⟩
    intro I1 eI1
    obtain ⟨J20, eJ20⟩ : ∃ q9 : mJ, q9 = up2 J17 (o + 3) ((y12 + 2).toNat) r7 := ⟨_, rfl⟩
    have eI1 : I1 = zz J20 := by rw [eI1, eJ20]; exact zupa (za Ey12 (by decide : (2 : Int32) = zi 2)) g18 g19.1 Er7
    subst eI1
    have hv := hv J20 eJ20
    have hJ : irm J20 := by rw [eJ20]; exact irm_up hJ Ir7
    obtain ⟨g22, hv⟩ := hv
    intro I1 eI1
    obtain ⟨J24, eJ24⟩ : ∃ q9 : mJ, q9 = up2 J20 (o + 3) 4 ((J20 (o + 3) 4) + 1) := ⟨_, rfl⟩
    have eI1 : I1 = zz J24 := by rw [eI1, eJ24]; exact zupa (by decide : (4 : Int32) = zi 4) (by decide : ir 4) (by decide) (za (zrd (by decide : (4 : Int32) = zi 4) (by decide : ir 4) (by decide)) (by decide : (1 : Int32) = zi 1))
    subst eI1
    have hv := hv J24 eJ24
    have hJ : irm J24 := by rw [eJ24]; exact irm_up hJ g22
    exact hp _ hJ hv
  · have hv := hv.2 ((zeq (rfl : zi v2 = zi v2) (by decide : (0 : Int32) = zi 0) iv2 (by decide : ir 0)).mp cq)
    exact hp _ hJ hv
def v_X12_changeLine_16 (o : Nat) (a1 : Int) (post' : mJ → Prop) (J : mJ) (s0 : Int) : Prop := (¬ s0 = 0 → (v_X12_changeLine_27 o a1 post') J s0) ∧ (s0 = 0 → v_X12_also J o 3 a1 (fun J2 => (v_X12_changeLine_27 o a1 post') J2 s0))
theorem vw_X12_changeLine_16 {o : Nat} {a1 : Int}  (ia1 : ir a1) {post : mI → Prop} {post' : mJ → Prop} (hp : ∀ (J1 : mJ), irm J1 → post' J1 → post (zz J1)) {J : mJ} {xs0 : Int32} {s0 : Int} (hJ : irm J) (es0 : xs0 = zi s0) (is0 : ir s0) (hv : v_X12_changeLine_16 o a1 post' J s0) : w_X12_changeLine_16 o (zi a1) post (zz J) xs0 := by
  subst es0
  unfold v_X12_changeLine_16 at hv
  unfold w_X12_changeLine_16
  refine ⟨fun cq => ?_, fun cq => ?_⟩
  · have hv := hv.1 (fun q => cq ((zeq (rfl : zi s0 = zi s0) (by decide : (0 : Int32) = zi 0) is0 (by decide : ir 0)).mpr q))
    exact vw_X12_changeLine_27 ia1 hp hJ (rfl : zi s0 = zi s0) is0 hv
  · have hv := hv.2 ((zeq (rfl : zi s0 = zi s0) (by decide : (0 : Int32) = zi 0) is0 (by decide : ir 0)).mp cq)
    refine vw_X12_also hJ (by decide : (3 : Int32) = zi 3) (by decide : ir 3) (rfl : zi a1 = zi a1) ia1 (fun J2 hJ hv => ?_) hv
    exact vw_X12_changeLine_27 ia1 hp hJ (rfl : zi s0 = zi s0) is0 hv
def v_X12_changeLine (J : mJ) (o : Nat) (a1 : Int) (post' : mJ → Prop) : Prop := (8 ≤ (J (o + 3) 4) → (v_X12_changeLine_16 o a1 post') J 0) ∧ (¬ 8 ≤ (J (o + 3) 4) → (v_X12_changeLine_16 o a1 post') J 1)
theorem vw_X12_changeLine {J : mJ} {o : Nat} {xa1 : Int32} {a1 : Int} (hJ : irm J)   (ea1 : xa1 = zi a1) (ia1 : ir a1) {post : mI → Prop} {post' : mJ → Prop} (hp : ∀ (J1 : mJ), irm J1 → post' J1 → post (zz J1)) (hv : v_X12_changeLine J o a1 post') : w_X12_changeLine (zz J) o xa1 post := by
  subst ea1
  unfold v_X12_changeLine at hv
  unfold w_X12_changeLine
  refine ⟨fun cq => ?_, fun cq => ?_⟩
  · have hv := hv.1 ((zle (by decide : (8 : Int32) = zi 8) (zrd (by decide : (4 : Int32) = zi 4) (by decide : ir 4) (by decide)) (by decide : ir 8) (hJ _ _)).mp cq)
    exact vw_X12_changeLine_16 ia1 hp hJ (by decide : (0 : Int32) = zi 0) (by decide : ir 0) hv
  · have hv := hv.2 (fun q => cq ((zle (by decide : (8 : Int32) = zi 8) (zrd (by decide : (4 : Int32) = zi 4) (by decide : ir 4) (by decide)) (by decide : ir 8) (hJ _ _)).mpr q))
    exact vw_X12_changeLine_16 ia1 hp hJ (by decide : (1 : Int32) = zi 1) (by decide : ir 1) hv
def v_X12_houseLine_115 (o : Nat) (post' : mJ → Prop) (J : mJ) : Prop := v_X12_endsLine J o (fun J23 => post' J23)
theorem vw_X12_houseLine_115 {o : Nat}   {post : mI → Prop} {post' : mJ → Prop} (hp : ∀ (J1 : mJ), irm J1 → post' J1 → post (zz J1)) {J : mJ} (hJ : irm J) (hv : v_X12_houseLine_115 o post' J) : w_X12_houseLine_115 o post (zz J) := by
  unfold v_X12_houseLine_115 at hv
  unfold w_X12_houseLine_115
  refine vw_X12_endsLine hJ  (fun J23 hJ hv => ?_) hv
  exact hp _ hJ hv
def v_X12_houseLine_104 (o : Nat) (post' : mJ → Prop) (J : mJ) (v1 : Int) (v2 : Int) : Prop := (¬ v2 = 7 → (v_X12_houseLine_115 o post') J) ∧ (v2 = 7 → v_X12_changeLine J o v1 (fun J22 => (v_X12_houseLine_115 o post') J22))
theorem vw_X12_houseLine_104 {o : Nat}   {post : mI → Prop} {post' : mJ → Prop} (hp : ∀ (J1 : mJ), irm J1 → post' J1 → post (zz J1)) {J : mJ} {xv1 : Int32} {v1 : Int} {xv2 : Int32} {v2 : Int} (hJ : irm J) (ev1 : xv1 = zi v1) (iv1 : ir v1) (ev2 : xv2 = zi v2) (iv2 : ir v2) (hv : v_X12_houseLine_104 o post' J v1 v2) : w_X12_houseLine_104 o post (zz J) xv1 xv2 := by
  subst ev1
  subst ev2
  unfold v_X12_houseLine_104 at hv
  unfold w_X12_houseLine_104
  refine ⟨fun cq => ?_, fun cq => ?_⟩
  · have hv := hv.1 (fun q => cq ((zeq (rfl : zi v2 = zi v2) (by decide : (7 : Int32) = zi 7) iv2 (by decide : ir 7)).mpr q))
    exact vw_X12_houseLine_115  hp hJ hv
  · have hv := hv.2 ((zeq (rfl : zi v2 = zi v2) (by decide : (7 : Int32) = zi 7) iv2 (by decide : ir 7)).mp cq)
    refine vw_X12_changeLine hJ (rfl : zi v1 = zi v1) iv1 (fun J22 hJ hv => ?_) hv
    exact vw_X12_houseLine_115  hp hJ hv
def v_X12_houseLine_94 (o : Nat) (post' : mJ → Prop) (J : mJ) (v1 : Int) (v2 : Int) : Prop := (¬ v2 = 6 → (v_X12_houseLine_104 o post') J v1 v2) ∧ (v2 = 6 → v_X12_walkLine J o (fun J21 => (v_X12_houseLine_104 o post') J21 v1 v2))
theorem vw_X12_houseLine_94 {o : Nat}   {post : mI → Prop} {post' : mJ → Prop} (hp : ∀ (J1 : mJ), irm J1 → post' J1 → post (zz J1)) {J : mJ} {xv1 : Int32} {v1 : Int} {xv2 : Int32} {v2 : Int} (hJ : irm J) (ev1 : xv1 = zi v1) (iv1 : ir v1) (ev2 : xv2 = zi v2) (iv2 : ir v2) (hv : v_X12_houseLine_94 o post' J v1 v2) : w_X12_houseLine_94 o post (zz J) xv1 xv2 := by
  subst ev1
  subst ev2
  unfold v_X12_houseLine_94 at hv
  unfold w_X12_houseLine_94
  refine ⟨fun cq => ?_, fun cq => ?_⟩
  · have hv := hv.1 (fun q => cq ((zeq (rfl : zi v2 = zi v2) (by decide : (6 : Int32) = zi 6) iv2 (by decide : ir 6)).mpr q))
    exact vw_X12_houseLine_104  hp hJ (rfl : zi v1 = zi v1) iv1 (rfl : zi v2 = zi v2) iv2 hv
  · have hv := hv.2 ((zeq (rfl : zi v2 = zi v2) (by decide : (6 : Int32) = zi 6) iv2 (by decide : ir 6)).mp cq)
    refine vw_X12_walkLine hJ  (fun J21 hJ hv => ?_) hv
    exact vw_X12_houseLine_104  hp hJ (rfl : zi v1 = zi v1) iv1 (rfl : zi v2 = zi v2) iv2 hv
def v_X12_houseLine_84 (o : Nat) (post' : mJ → Prop) (J : mJ) (v1 : Int) (v2 : Int) : Prop := (¬ v2 = 5 → (v_X12_houseLine_94 o post') J v1 v2) ∧ (v2 = 5 → v_X12_personLine J o v1 (fun J20 => (v_X12_houseLine_94 o post') J20 v1 v2))
theorem vw_X12_houseLine_84 {o : Nat}   {post : mI → Prop} {post' : mJ → Prop} (hp : ∀ (J1 : mJ), irm J1 → post' J1 → post (zz J1)) {J : mJ} {xv1 : Int32} {v1 : Int} {xv2 : Int32} {v2 : Int} (hJ : irm J) (ev1 : xv1 = zi v1) (iv1 : ir v1) (ev2 : xv2 = zi v2) (iv2 : ir v2) (hv : v_X12_houseLine_84 o post' J v1 v2) : w_X12_houseLine_84 o post (zz J) xv1 xv2 := by
  subst ev1
  subst ev2
  unfold v_X12_houseLine_84 at hv
  unfold w_X12_houseLine_84
  refine ⟨fun cq => ?_, fun cq => ?_⟩
  · have hv := hv.1 (fun q => cq ((zeq (rfl : zi v2 = zi v2) (by decide : (5 : Int32) = zi 5) iv2 (by decide : ir 5)).mpr q))
    exact vw_X12_houseLine_94  hp hJ (rfl : zi v1 = zi v1) iv1 (rfl : zi v2 = zi v2) iv2 hv
  · have hv := hv.2 ((zeq (rfl : zi v2 = zi v2) (by decide : (5 : Int32) = zi 5) iv2 (by decide : ir 5)).mp cq)
    refine vw_X12_personLine hJ (rfl : zi v1 = zi v1) iv1 (fun J20 hJ hv => ?_) hv
    exact vw_X12_houseLine_94  hp hJ (rfl : zi v1 = zi v1) iv1 (rfl : zi v2 = zi v2) iv2 hv
def v_X12_houseLine_74 (o : Nat) (post' : mJ → Prop) (J : mJ) (v1 : Int) (v2 : Int) : Prop := (¬ v2 = 4 → (v_X12_houseLine_84 o post') J v1 v2) ∧ (v2 = 4 → v_X12_flatLine J o v1 (fun J19 => (v_X12_houseLine_84 o post') J19 v1 v2))
theorem vw_X12_houseLine_74 {o : Nat}   {post : mI → Prop} {post' : mJ → Prop} (hp : ∀ (J1 : mJ), irm J1 → post' J1 → post (zz J1)) {J : mJ} {xv1 : Int32} {v1 : Int} {xv2 : Int32} {v2 : Int} (hJ : irm J) (ev1 : xv1 = zi v1) (iv1 : ir v1) (ev2 : xv2 = zi v2) (iv2 : ir v2) (hv : v_X12_houseLine_74 o post' J v1 v2) : w_X12_houseLine_74 o post (zz J) xv1 xv2 := by
  subst ev1
  subst ev2
  unfold v_X12_houseLine_74 at hv
  unfold w_X12_houseLine_74
  refine ⟨fun cq => ?_, fun cq => ?_⟩
  · have hv := hv.1 (fun q => cq ((zeq (rfl : zi v2 = zi v2) (by decide : (4 : Int32) = zi 4) iv2 (by decide : ir 4)).mpr q))
    exact vw_X12_houseLine_84  hp hJ (rfl : zi v1 = zi v1) iv1 (rfl : zi v2 = zi v2) iv2 hv
  · have hv := hv.2 ((zeq (rfl : zi v2 = zi v2) (by decide : (4 : Int32) = zi 4) iv2 (by decide : ir 4)).mp cq)
    refine vw_X12_flatLine hJ (rfl : zi v1 = zi v1) iv1 (fun J19 hJ hv => ?_) hv
    exact vw_X12_houseLine_84  hp hJ (rfl : zi v1 = zi v1) iv1 (rfl : zi v2 = zi v2) iv2 hv
def v_X12_houseLine_49 (o : Nat) (post' : mJ → Prop) (J : mJ) (v1 : Int) (v2 : Int) : Prop := (¬ v2 = 3 → (v_X12_houseLine_74 o post') J v1 v2) ∧ (v2 = 3 → v_X12_stepTold J o (fun r12 J13 => ir (5 + r12) ∧ v_X12_numbered J13 o 0 9 (fun r15 J16 => (0 ≤ (5 + r12) ∧ (5 + r12) < 149) ∧ ∀ J18, J18 = up2 J16 (o + 3) ((5 + r12).toNat) r15 → (v_X12_houseLine_74 o post') J18 v1 v2)))
theorem vw_X12_houseLine_49 {o : Nat}   {post : mI → Prop} {post' : mJ → Prop} (hp : ∀ (J1 : mJ), irm J1 → post' J1 → post (zz J1)) {J : mJ} {xv1 : Int32} {v1 : Int} {xv2 : Int32} {v2 : Int} (hJ : irm J) (ev1 : xv1 = zi v1) (iv1 : ir v1) (ev2 : xv2 = zi v2) (iv2 : ir v2) (hv : v_X12_houseLine_49 o post' J v1 v2) : w_X12_houseLine_49 o post (zz J) xv1 xv2 := by
  subst ev1
  subst ev2
  unfold v_X12_houseLine_49 at hv
  unfold w_X12_houseLine_49
  refine ⟨fun cq => ?_, fun cq => ?_⟩
  · have hv := hv.1 (fun q => cq ((zeq (rfl : zi v2 = zi v2) (by decide : (3 : Int32) = zi 3) iv2 (by decide : ir 3)).mpr q))
    exact vw_X12_houseLine_74  hp hJ (rfl : zi v1 = zi v1) iv1 (rfl : zi v2 = zi v2) iv2 hv
  · have hv := hv.2 ((zeq (rfl : zi v2 = zi v2) (by decide : (3 : Int32) = zi 3) iv2 (by decide : ir 3)).mp cq)
    refine vw_X12_stepTold hJ  (fun xr12 r12 J13 Er12 Ir12 hJ hv => ?_) hv
    obtain ⟨g14, hv⟩ := hv
    refine vw_X12_numbered hJ (by decide : (0 : Int32) = zi 0) (by decide : ir 0) (by decide : (9 : Int32) = zi 9) (by decide : ir 9) (fun xr15 r15 J16 Er15 Ir15 hJ hv => ?_) hv
    obtain ⟨g17, hv⟩ := hv
    refine ⟨zvp (za (by decide : (5 : Int32) = zi 5) Er12) g14 g17.1 g17.2, ?_⟩
    intro I1 eI1
    obtain ⟨J18, eJ18⟩ : ∃ q9 : mJ, q9 = up2 J16 (o + 3) ((5 + r12).toNat) r15 := ⟨_, rfl⟩
    have eI1 : I1 = zz J18 := by rw [eI1, eJ18]; exact zupa (za (by decide : (5 : Int32) = zi 5) Er12) g14 g17.1 Er15
    subst eI1
    have hv := hv J18 eJ18
    have hJ : irm J18 := by rw [eJ18]; exact irm_up hJ Ir15
    exact vw_X12_houseLine_74  hp hJ (rfl : zi v1 = zi v1) iv1 (rfl : zi v2 = zi v2) iv2 hv
def v_X12_houseLine_31 (o : Nat) (post' : mJ → Prop) (J : mJ) (v1 : Int) (v2 : Int) : Prop := (¬ v2 = 2 → (v_X12_houseLine_49 o post') J v1 v2) ∧ (v2 = 2 → v_X12_numbered J o 0 99 (fun r8 J9 => ∀ J11, J11 = up2 J9 (o + 3) 1 r8 → (v_X12_houseLine_49 o post') J11 v1 v2))
theorem vw_X12_houseLine_31 {o : Nat}   {post : mI → Prop} {post' : mJ → Prop} (hp : ∀ (J1 : mJ), irm J1 → post' J1 → post (zz J1)) {J : mJ} {xv1 : Int32} {v1 : Int} {xv2 : Int32} {v2 : Int} (hJ : irm J) (ev1 : xv1 = zi v1) (iv1 : ir v1) (ev2 : xv2 = zi v2) (iv2 : ir v2) (hv : v_X12_houseLine_31 o post' J v1 v2) : w_X12_houseLine_31 o post (zz J) xv1 xv2 := by
  subst ev1
  subst ev2
  unfold v_X12_houseLine_31 at hv
  unfold w_X12_houseLine_31
  refine ⟨fun cq => ?_, fun cq => ?_⟩
  · have hv := hv.1 (fun q => cq ((zeq (rfl : zi v2 = zi v2) (by decide : (2 : Int32) = zi 2) iv2 (by decide : ir 2)).mpr q))
    exact vw_X12_houseLine_49  hp hJ (rfl : zi v1 = zi v1) iv1 (rfl : zi v2 = zi v2) iv2 hv
  · have hv := hv.2 ((zeq (rfl : zi v2 = zi v2) (by decide : (2 : Int32) = zi 2) iv2 (by decide : ir 2)).mp cq)
    refine vw_X12_numbered hJ (by decide : (0 : Int32) = zi 0) (by decide : ir 0) (by decide : (99 : Int32) = zi 99) (by decide : ir 99) (fun xr8 r8 J9 Er8 Ir8 hJ hv => ?_) hv
    intro I1 eI1
    obtain ⟨J11, eJ11⟩ : ∃ q9 : mJ, q9 = up2 J9 (o + 3) 1 r8 := ⟨_, rfl⟩
    have eI1 : I1 = zz J11 := by rw [eI1, eJ11]; exact zupa (by decide : (1 : Int32) = zi 1) (by decide : ir 1) (by decide) Er8
    subst eI1
    have hv := hv J11 eJ11
    have hJ : irm J11 := by rw [eJ11]; exact irm_up hJ Ir8
    exact vw_X12_houseLine_49  hp hJ (rfl : zi v1 = zi v1) iv1 (rfl : zi v2 = zi v2) iv2 hv
def v_X12_houseLine (J : mJ) (o : Nat) (post' : mJ → Prop) : Prop := ∀ y1, y1 = (J o 4) → v_X12_takes J o 1 7 (fun r2 J3 => (¬ r2 = 1 → (v_X12_houseLine_31 o post') J3 y1 r2) ∧ (r2 = 1 → v_X12_numbered J3 o 2 24 (fun r4 J5 => ∀ J7, J7 = up2 J5 (o + 3) 0 r4 → (v_X12_houseLine_31 o post') J7 y1 r2)))
theorem vw_X12_houseLine {J : mJ} {o : Nat} (hJ : irm J)   {post : mI → Prop} {post' : mJ → Prop} (hp : ∀ (J1 : mJ), irm J1 → post' J1 → post (zz J1)) (hv : v_X12_houseLine J o post') : w_X12_houseLine (zz J) o post := by
  unfold v_X12_houseLine at hv
  unfold w_X12_houseLine
  intro xy1 exy1
  obtain ⟨y1, eyy1⟩ : ∃ q9 : Int, q9 = (J o 4) := ⟨_, rfl⟩
  have hv := hv y1 eyy1
  have Ey1 : xy1 = zi y1 := exy1.trans ((zrf).trans (congrArg zi eyy1.symm))
  have Iy1 : ir y1 := by rw [eyy1]; exact (hJ _ _)
  clear exy1
  refine vw_X12_takes hJ (by decide : (1 : Int32) = zi 1) (by decide : ir 1) (by decide : (7 : Int32) = zi 7) (by decide : ir 7) (fun xr2 r2 J3 Er2 Ir2 hJ hv => ?_) hv
  refine ⟨fun cq => ?_, fun cq => ?_⟩
  · have hv := hv.1 (fun q => cq ((zeq Er2 (by decide : (1 : Int32) = zi 1) Ir2 (by decide : ir 1)).mpr q))
    exact vw_X12_houseLine_31  hp hJ Ey1 Iy1 Er2 Ir2 hv
  · have hv := hv.2 ((zeq Er2 (by decide : (1 : Int32) = zi 1) Ir2 (by decide : ir 1)).mp cq)
    refine vw_X12_numbered hJ (by decide : (2 : Int32) = zi 2) (by decide : ir 2) (by decide : (24 : Int32) = zi 24) (by decide : ir 24) (fun xr4 r4 J5 Er4 Ir4 hJ hv => ?_) hv
    intro I1 eI1
    obtain ⟨J7, eJ7⟩ : ∃ q9 : mJ, q9 = up2 J5 (o + 3) 0 r4 := ⟨_, rfl⟩
    have eI1 : I1 = zz J7 := by rw [eI1, eJ7]; exact zupa (by decide : (0 : Int32) = zi 0) (by decide : ir 0) (by decide) Er4
    subst eI1
    have hv := hv J7 eJ7
    have hJ : irm J7 := by rw [eJ7]; exact irm_up hJ Ir4
    exact vw_X12_houseLine_31  hp hJ Ey1 Iy1 Er2 Ir2 hv
def v_X12_shoeOrNone_15 (o : Nat) (post' : Int → mJ → Prop) (J : mJ) : Prop := v_X12_numbered J o 0 9 (fun r2 J3 => post' r2 J3)
theorem vw_X12_shoeOrNone_15 {o : Nat}   {post : Int32 → mI → Prop} {post' : Int → mJ → Prop} (hp : ∀ (x : Int32) (r : Int) (J1 : mJ), x = zi r → ir r → irm J1 → post' r J1 → post x (zz J1)) {J : mJ} (hJ : irm J) (hv : v_X12_shoeOrNone_15 o post' J) : w_X12_shoeOrNone_15 o post (zz J) := by
  unfold v_X12_shoeOrNone_15 at hv
  unfold w_X12_shoeOrNone_15
  refine vw_X12_numbered hJ (by decide : (0 : Int32) = zi 0) (by decide : ir 0) (by decide : (9 : Int32) = zi 9) (by decide : ir 9) (fun xr2 r2 J3 Er2 Ir2 hJ hv => ?_) hv
  exact hp _ _ _ Er2 Ir2 hJ hv
def v_X12_shoeOrNone (J : mJ) (o : Nat) (post' : Int → mJ → Prop) : Prop := (¬ (J o 8) = 0 → (v_X12_shoeOrNone_15 o post') J) ∧ ((J o 8) = 0 → ((J o 5) = 5 → v_X12_advance J o (fun J1 => post' (-1) J1)) ∧ (¬ (J o 5) = 5 → (v_X12_shoeOrNone_15 o post') J))
theorem vw_X12_shoeOrNone {J : mJ} {o : Nat} (hJ : irm J)   {post : Int32 → mI → Prop} {post' : Int → mJ → Prop} (hp : ∀ (x : Int32) (r : Int) (J1 : mJ), x = zi r → ir r → irm J1 → post' r J1 → post x (zz J1)) (hv : v_X12_shoeOrNone J o post') : w_X12_shoeOrNone (zz J) o post := by
  unfold v_X12_shoeOrNone at hv
  unfold w_X12_shoeOrNone
  refine ⟨fun cq => ?_, fun cq => ?_⟩
  · have hv := hv.1 (fun q => cq ((zeq zrf (by decide : (0 : Int32) = zi 0) (hJ _ _) (by decide : ir 0)).mpr q))
    exact vw_X12_shoeOrNone_15  hp hJ hv
  · have hv := hv.2 ((zeq zrf (by decide : (0 : Int32) = zi 0) (hJ _ _) (by decide : ir 0)).mp cq)
    refine ⟨fun cq => ?_, fun cq => ?_⟩
    · have hv := hv.1 ((zeq zrf (by decide : (5 : Int32) = zi 5) (hJ _ _) (by decide : ir 5)).mp cq)
      refine vw_X12_advance hJ  (fun J1 hJ hv => ?_) hv
      exact hp _ _ _ (by decide : ((-1) : Int32) = zi (-1)) (by decide : ir (-1)) hJ hv
    · have hv := hv.2 (fun q => cq ((zeq zrf (by decide : (5 : Int32) = zi 5) (hJ _ _) (by decide : ir 5)).mpr q))
      exact vw_X12_shoeOrNone_15  hp hJ hv
def v_X12_soundLine_143 (o : Nat) (post' : mJ → Prop) (J : mJ) : Prop := v_X12_endsLine J o (fun J33 => post' J33)
theorem vw_X12_soundLine_143 {o : Nat}   {post : mI → Prop} {post' : mJ → Prop} (hp : ∀ (J1 : mJ), irm J1 → post' J1 → post (zz J1)) {J : mJ} (hJ : irm J) (hv : v_X12_soundLine_143 o post' J) : w_X12_soundLine_143 o post (zz J) := by
  unfold v_X12_soundLine_143 at hv
  unfold w_X12_soundLine_143
  refine vw_X12_endsLine hJ  (fun J33 hJ hv => ?_) hv
  exact hp _ hJ hv
def v_X12_soundLine_45 (o : Nat) (post' : mJ → Prop) (J : mJ) (v2 : Int) : Prop := v_X12_numbered J o 0 5 (fun r6 J7 => v_X12_numbered J7 o 0 99 (fun r8 J9 => v_X12_numbered J9 o 0 9 (fun r10 J11 => v_X12_shoeOrNone J11 o (fun r12 J13 => (v2 = 0 → (v_X12_soundLine_143 o post') J13) ∧ (¬ v2 = 0 → ir (4 * (J13 (o + 3) 0)) ∧ ir (1 + (4 * (J13 (o + 3) 0))) ∧ ∀ y17, y17 = (1 + (4 * (J13 (o + 3) 0))) → (0 ≤ y17 ∧ y17 < 149) ∧ ∀ J19, J19 = up2 J13 (o + 3) y17.toNat r6 → ir (y17 + 1) ∧ (0 ≤ (y17 + 1) ∧ (y17 + 1) < 149) ∧ ∀ J22, J22 = up2 J19 (o + 3) ((y17 + 1).toNat) r8 → ir (y17 + 2) ∧ (0 ≤ (y17 + 2) ∧ (y17 + 2) < 149) ∧ ∀ J25, J25 = up2 J22 (o + 3) ((y17 + 2).toNat) r10 → ir (y17 + 3) ∧ (0 ≤ (y17 + 3) ∧ (y17 + 3) < 149) ∧ ∀ J28, J28 = up2 J25 (o + 3) ((y17 + 3).toNat) r12 → ir ((J28 (o + 3) 0) + 1) ∧ ∀ J32, J32 = up2 J28 (o + 3) 0 ((J28 (o + 3) 0) + 1) → (v_X12_soundLine_143 o post') J32)))))
theorem vw_X12_soundLine_45 {o : Nat}   {post : mI → Prop} {post' : mJ → Prop} (hp : ∀ (J1 : mJ), irm J1 → post' J1 → post (zz J1)) {J : mJ} {xv2 : Int32} {v2 : Int} (hJ : irm J) (ev2 : xv2 = zi v2) (iv2 : ir v2) (hv : v_X12_soundLine_45 o post' J v2) : w_X12_soundLine_45 o post (zz J) xv2 := by
  subst ev2
  unfold v_X12_soundLine_45 at hv
  unfold w_X12_soundLine_45
  refine vw_X12_numbered hJ (by decide : (0 : Int32) = zi 0) (by decide : ir 0) (by decide : (5 : Int32) = zi 5) (by decide : ir 5) (fun xr6 r6 J7 Er6 Ir6 hJ hv => ?_) hv
  refine vw_X12_numbered hJ (by decide : (0 : Int32) = zi 0) (by decide : ir 0) (by decide : (99 : Int32) = zi 99) (by decide : ir 99) (fun xr8 r8 J9 Er8 Ir8 hJ hv => ?_) hv
  refine vw_X12_numbered hJ (by decide : (0 : Int32) = zi 0) (by decide : ir 0) (by decide : (9 : Int32) = zi 9) (by decide : ir 9) (fun xr10 r10 J11 Er10 Ir10 hJ hv => ?_) hv
  refine vw_X12_shoeOrNone hJ  (fun xr12 r12 J13 Er12 Ir12 hJ hv => ?_) hv
  refine ⟨fun cq => ?_, fun cq => ?_⟩
  · have hv := hv.1 ((zeq (rfl : zi v2 = zi v2) (by decide : (0 : Int32) = zi 0) iv2 (by decide : ir 0)).mp cq)
    exact vw_X12_soundLine_143  hp hJ hv
  · have hv := hv.2 (fun q => cq ((zeq (rfl : zi v2 = zi v2) (by decide : (0 : Int32) = zi 0) iv2 (by decide : ir 0)).mpr q))
    obtain ⟨g15, hv⟩ := hv
    obtain ⟨g16, hv⟩ := hv
    intro xy17 exy17
    obtain ⟨y17, eyy17⟩ : ∃ q9 : Int, q9 = (1 + (4 * (J13 (o + 3) 0))) := ⟨_, rfl⟩
    have hv := hv y17 eyy17
    have Ey17 : xy17 = zi y17 := exy17.trans (((za (by decide : (1 : Int32) = zi 1) (zm (by decide : (4 : Int32) = zi 4) (zrd (by decide : (0 : Int32) = zi 0) (by decide : ir 0) (by decide))))).trans (congrArg zi eyy17.symm))
    have Iy17 : ir y17 := by rw [eyy17]; exact g16
    clear exy17
    obtain ⟨g18, hv⟩ := hv
    refine ⟨zvp Ey17 Iy17 g18.1 g18.2, ?_⟩
    intro I1 eI1
    obtain ⟨J19, eJ19⟩ : ∃ q9 : mJ, q9 = up2 J13 (o + 3) y17.toNat r6 := ⟨_, rfl⟩
    have eI1 : I1 = zz J19 := by rw [eI1, eJ19]; exact zupa Ey17 Iy17 g18.1 Er6
    subst eI1
    have hv := hv J19 eJ19
    have hJ : irm J19 := by rw [eJ19]; exact irm_up hJ Ir6
    obtain ⟨g20, hv⟩ := hv
    obtain ⟨g21, hv⟩ := hv
    refine ⟨zvp (za Ey17 (by decide : (1 : Int32) = zi 1)) g20 g21.1 g21.2, ?_⟩
    intro I1 eI1
    obtain ⟨J22, eJ22⟩ : ∃ q9 : mJ, q9 = up2 J19 (o + 3) ((y17 + 1).toNat) r8 := ⟨_, rfl⟩
    have eI1 : I1 = zz J22 := by rw [eI1, eJ22]; exact zupa (za Ey17 (by decide : (1 : Int32) = zi 1)) g20 g21.1 Er8
    subst eI1
    have hv := hv J22 eJ22
    have hJ : irm J22 := by rw [eJ22]; exact irm_up hJ Ir8
    obtain ⟨g23, hv⟩ := hv
    obtain ⟨g24, hv⟩ := hv
    refine ⟨zvp (za Ey17 (by decide : (2 : Int32) = zi 2)) g23 g24.1 g24.2, ?_⟩
    intro I1 eI1
    obtain ⟨J25, eJ25⟩ : ∃ q9 : mJ, q9 = up2 J22 (o + 3) ((y17 + 2).toNat) r10 := ⟨_, rfl⟩
    have eI1 : I1 = zz J25 := by rw [eI1, eJ25]; exact zupa (za Ey17 (by decide : (2 : Int32) = zi 2)) g23 g24.1 Er10
    subst eI1
    have hv := hv J25 eJ25
    have hJ : irm J25 := by rw [eJ25]; exact irm_up hJ Ir10
    obtain ⟨g26, hv⟩ := hv
    obtain ⟨g27, hv⟩ := hv
    refine ⟨zvp (za Ey17 (by decide : (3 : Int32) = zi 3)) g26 g27.1 g27.2, ?_⟩
    intro I1 eI1
    obtain ⟨J28, eJ28⟩ : ∃ q9 : mJ, q9 = up2 J25 (o + 3) ((y17 + 3).toNat) r12 := ⟨_, rfl⟩
    have eI1 : I1 = zz J28 := by rw [eI1, eJ28]; exact zupa (za Ey17 (by decide : (3 : Int32) = zi 3)) g26 g27.1 Er12
    subst eI1
    have hv := hv J28 eJ28
    have hJ : irm J28 := by rw [eJ28]; exact irm_up hJ Ir12
    obtain ⟨g30, hv⟩ := hv
    intro I1 eI1
    obtain ⟨J32, eJ32⟩ : ∃ q9 : mJ, q9 = up2 J28 (o + 3) 0 ((J28 (o + 3) 0) + 1) := ⟨_, rfl⟩
    have eI1 : I1 = zz J32 := by rw [eI1, eJ32]; exact zupa (by decide : (0 : Int32) = zi 0) (by decide : ir 0) (by decide) (za (zrd (by decide : (0 : Int32) = zi 0) (by decide : ir 0) (by decide)) (by decide : (1 : Int32) = zi 1))
    subst eI1
    have hv := hv J32 eJ32
    have hJ : irm J32 := by rw [eJ32]; exact irm_up hJ g30
    exact vw_X12_soundLine_143  hp hJ hv
def v_X12_soundLine_21 (o : Nat) (post' : mJ → Prop) (J : mJ) (v1 : Int) (s0 : Int) : Prop := v_X12_takes J o 8 8 (fun r3 J4 => (¬ r3 = 8 → (v_X12_soundLine_143 o post') J4) ∧ (r3 = 8 → (¬ s0 = 0 → (v_X12_soundLine_45 o post') J4 s0) ∧ (s0 = 0 → v_X12_also J4 o 3 v1 (fun J5 => (v_X12_soundLine_45 o post') J5 s0))))
theorem vw_X12_soundLine_21 {o : Nat}   {post : mI → Prop} {post' : mJ → Prop} (hp : ∀ (J1 : mJ), irm J1 → post' J1 → post (zz J1)) {J : mJ} {xv1 : Int32} {v1 : Int} {xs0 : Int32} {s0 : Int} (hJ : irm J) (ev1 : xv1 = zi v1) (iv1 : ir v1) (es0 : xs0 = zi s0) (is0 : ir s0) (hv : v_X12_soundLine_21 o post' J v1 s0) : w_X12_soundLine_21 o post (zz J) xv1 xs0 := by
  subst ev1
  subst es0
  unfold v_X12_soundLine_21 at hv
  unfold w_X12_soundLine_21
  refine vw_X12_takes hJ (by decide : (8 : Int32) = zi 8) (by decide : ir 8) (by decide : (8 : Int32) = zi 8) (by decide : ir 8) (fun xr3 r3 J4 Er3 Ir3 hJ hv => ?_) hv
  refine ⟨fun cq => ?_, fun cq => ?_⟩
  · have hv := hv.1 (fun q => cq ((zeq Er3 (by decide : (8 : Int32) = zi 8) Ir3 (by decide : ir 8)).mpr q))
    exact vw_X12_soundLine_143  hp hJ hv
  · have hv := hv.2 ((zeq Er3 (by decide : (8 : Int32) = zi 8) Ir3 (by decide : ir 8)).mp cq)
    refine ⟨fun cq => ?_, fun cq => ?_⟩
    · have hv := hv.1 (fun q => cq ((zeq (rfl : zi s0 = zi s0) (by decide : (0 : Int32) = zi 0) is0 (by decide : ir 0)).mpr q))
      exact vw_X12_soundLine_45  hp hJ (rfl : zi s0 = zi s0) is0 hv
    · have hv := hv.2 ((zeq (rfl : zi s0 = zi s0) (by decide : (0 : Int32) = zi 0) is0 (by decide : ir 0)).mp cq)
      refine vw_X12_also hJ (by decide : (3 : Int32) = zi 3) (by decide : ir 3) (rfl : zi v1 = zi v1) iv1 (fun J5 hJ hv => ?_) hv
      exact vw_X12_soundLine_45  hp hJ (rfl : zi s0 = zi s0) is0 hv
def v_X12_soundLine (J : mJ) (o : Nat) (post' : mJ → Prop) : Prop := ∀ y1, y1 = (J o 4) → (10 ≤ (J (o + 3) 0) → (v_X12_soundLine_21 o post') J y1 0) ∧ (¬ 10 ≤ (J (o + 3) 0) → (v_X12_soundLine_21 o post') J y1 1)
theorem vw_X12_soundLine {J : mJ} {o : Nat} (hJ : irm J)   {post : mI → Prop} {post' : mJ → Prop} (hp : ∀ (J1 : mJ), irm J1 → post' J1 → post (zz J1)) (hv : v_X12_soundLine J o post') : w_X12_soundLine (zz J) o post := by
  unfold v_X12_soundLine at hv
  unfold w_X12_soundLine
  intro xy1 exy1
  obtain ⟨y1, eyy1⟩ : ∃ q9 : Int, q9 = (J o 4) := ⟨_, rfl⟩
  have hv := hv y1 eyy1
  have Ey1 : xy1 = zi y1 := exy1.trans ((zrf).trans (congrArg zi eyy1.symm))
  have Iy1 : ir y1 := by rw [eyy1]; exact (hJ _ _)
  clear exy1
  refine ⟨fun cq => ?_, fun cq => ?_⟩
  · have hv := hv.1 ((zle (by decide : (10 : Int32) = zi 10) (zrd (by decide : (0 : Int32) = zi 0) (by decide : ir 0) (by decide)) (by decide : ir 10) (hJ _ _)).mp cq)
    exact vw_X12_soundLine_21  hp hJ Ey1 Iy1 (by decide : (0 : Int32) = zi 0) (by decide : ir 0) hv
  · have hv := hv.2 (fun q => cq ((zle (by decide : (10 : Int32) = zi 10) (zrd (by decide : (0 : Int32) = zi 0) (by decide : ir 0) (by decide)) (by decide : ir 10) (hJ _ _)).mpr q))
    exact vw_X12_soundLine_21  hp hJ Ey1 Iy1 (by decide : (1 : Int32) = zi 1) (by decide : ir 1) hv
def v_X12_placeOf (a1 : Int) (a2 : Int) (post' : Int → Prop) : Prop := (¬ a1 = 0 → ir (41 * a2) ∧ ir (908 + (41 * a2)) ∧ post' (908 + (41 * a2))) ∧ (a1 = 0 → ir (149 * a2) ∧ ir (610 + (149 * a2)) ∧ post' (610 + (149 * a2)))
theorem vw_X12_placeOf {xa1 : Int32} {a1 : Int} {xa2 : Int32} {a2 : Int}  (ea1 : xa1 = zi a1) (ia1 : ir a1) (ea2 : xa2 = zi a2) (ia2 : ir a2) {post : Int32 → Prop} {post' : Int → Prop} (hp : ∀ (x : Int32) (r : Int), x = zi r → ir r → post' r → post x) (hv : v_X12_placeOf a1 a2 post') : w_X12_placeOf xa1 xa2 post := by
  subst ea1
  subst ea2
  unfold v_X12_placeOf at hv
  unfold w_X12_placeOf
  refine ⟨fun cq => ?_, fun cq => ?_⟩
  · have hv := hv.1 (fun q => cq ((zeq (rfl : zi a1 = zi a1) (by decide : (0 : Int32) = zi 0) ia1 (by decide : ir 0)).mpr q))
    obtain ⟨g1, hv⟩ := hv
    obtain ⟨g2, hv⟩ := hv
    exact hp _ _ (za (by decide : (908 : Int32) = zi 908) (zm (by decide : (41 : Int32) = zi 41) (rfl : zi a2 = zi a2))) g2 hv
  · have hv := hv.2 ((zeq (rfl : zi a1 = zi a1) (by decide : (0 : Int32) = zi 0) ia1 (by decide : ir 0)).mp cq)
    obtain ⟨g3, hv⟩ := hv
    obtain ⟨g4, hv⟩ := hv
    exact hp _ _ (za (by decide : (610 : Int32) = zi 610) (zm (by decide : (149 : Int32) = zi 149) (rfl : zi a2 = zi a2))) g4 hv
def v_X12_isOf (J : mJ) (o : Nat) (a1 : Int) (a2 : Int) (post' : Bool → Prop) : Prop := (0 ≤ a1 ∧ a1 < 3960) ∧ ir ((J (o + 1) a1.toNat) - 1) ∧ v_X12_isIn a2 0 ((J (o + 1) a1.toNat) - 1) (fun b3 => post' b3)
theorem vw_X12_isOf {J : mJ} {o : Nat} {xa1 : Int32} {a1 : Int} {xa2 : Int32} {a2 : Int} (hJ : irm J)   (ea1 : xa1 = zi a1) (ia1 : ir a1) (ea2 : xa2 = zi a2) (ia2 : ir a2) {post : Bool → Prop} {post' : Bool → Prop} (hp : ∀ (r : Bool), post' r → post r) (hv : v_X12_isOf J o a1 a2 post') : w_X12_isOf (zz J) o xa1 xa2 post := by
  subst ea1
  subst ea2
  unfold v_X12_isOf at hv
  unfold w_X12_isOf
  obtain ⟨g1, hv⟩ := hv
  refine ⟨zvp (rfl : zi a1 = zi a1) ia1 g1.1 g1.2, ?_⟩
  obtain ⟨g2, hv⟩ := hv
  refine vw_X12_isIn (rfl : zi a2 = zi a2) ia2 (by decide : (0 : Int32) = zi 0) (by decide : ir 0) (zs (zrd (rfl : zi a1 = zi a1) ia1 g1.1) (by decide : (1 : Int32) = zi 1)) g2 (fun b3  hv => ?_) hv
  exact hp _ hv
def v_X12_clears_2 (o : Nat) (a1 : Int) (post' : mJ → Prop) (k22' : mJ → Prop) (J : mJ) (v2 : Int) : Prop := ∀ ZZ : (mJ → Int → Prop), (∀ (J : mJ) (v2 : Int), ((149 ≤ v2 → k22' J) ∧ (¬ 149 ≤ v2 → (0 ≤ v2 ∧ v2 < 149) ∧ ∀ J2, J2 = up2 J (o + 3) v2.toNat 0 → ir (v2 + 1) ∧ ∀ y4, y4 = v2 + 1 → ZZ J2 y4)) → ZZ J v2) → ZZ J v2
theorem vw_X12_clears_2 {o : Nat} {a1 : Int}  (ia1 : ir a1) {post : mI → Prop} {post' : mJ → Prop} {k22' : mJ → Prop} {k22 : mI → Prop} (hp : ∀ (J1 : mJ), irm J1 → post' J1 → post (zz J1)) (hk22 : ∀ (J : mJ), irm J → k22' J → k22 (zz J)) {J : mJ} {xv2 : Int32} {v2 : Int} (hJ : irm J) (ev2 : xv2 = zi v2) (iv2 : ir v2) (hv : v_X12_clears_2 o a1 post' k22' J v2) : w_X12_clears_2 o (zi a1) post k22 (zz J) xv2 := by
  subst ev2
  unfold v_X12_clears_2 at hv
  unfold w_X12_clears_2
  intro ZZ hZ
  refine hv (fun J v2 => ∀ (xv2 : Int32), irm J → xv2 = zi v2 → ir v2 → ZZ (zz J) xv2) ?_ _ hJ rfl iv2
  clear hv hJ iv2
  intro J v2 hv xv2 hJ ev2 iv2
  subst ev2
  refine hZ _ _ ?_
  refine ⟨fun cq => ?_, fun cq => ?_⟩
  · have hv := hv.1 ((zle (by decide : (149 : Int32) = zi 149) (rfl : zi v2 = zi v2) (by decide : ir 149) iv2).mp cq)
    exact hk22 _ hJ hv
  · have hv := hv.2 (fun q => cq ((zle (by decide : (149 : Int32) = zi 149) (rfl : zi v2 = zi v2) (by decide : ir 149) iv2).mpr q))
    obtain ⟨g1, hv⟩ := hv
    refine ⟨zvp (rfl : zi v2 = zi v2) iv2 g1.1 g1.2, ?_⟩
    intro I1 eI1
    obtain ⟨J2, eJ2⟩ : ∃ q9 : mJ, q9 = up2 J (o + 3) v2.toNat 0 := ⟨_, rfl⟩
    have eI1 : I1 = zz J2 := by rw [eI1, eJ2]; exact zupa (rfl : zi v2 = zi v2) iv2 g1.1 (by decide : (0 : Int32) = zi 0)
    subst eI1
    have hv := hv J2 eJ2
    have hJ : irm J2 := by rw [eJ2]; exact irm_up hJ (by decide : ir 0)
    obtain ⟨g3, hv⟩ := hv
    intro xy4 exy4
    obtain ⟨y4, eyy4⟩ : ∃ q9 : Int, q9 = v2 + 1 := ⟨_, rfl⟩
    have hv := hv y4 eyy4
    have Ey4 : xy4 = zi y4 := exy4.trans (((za (rfl : zi v2 = zi v2) (by decide : (1 : Int32) = zi 1))).trans (congrArg zi eyy4.symm))
    have Iy4 : ir y4 := by rw [eyy4]; exact g3
    clear exy4
    exact hv _ hJ Ey4 Iy4
def v_X12_clears_46 (o : Nat) (a1 : Int) (post' : mJ → Prop) (J : mJ) (v2 : Int) : Prop := ∀ ZZ : (mJ → Int → Prop), (∀ (J : mJ) (v2 : Int), ((6 ≤ v2 → post' J) ∧ (¬ 6 ≤ v2 → ir (14 * v2) ∧ ir (41 + (14 * v2)) ∧ ir ((41 + (14 * v2)) + 3) ∧ (0 ≤ ((41 + (14 * v2)) + 3) ∧ ((41 + (14 * v2)) + 3) < 149) ∧ ∀ J13, J13 = up2 J (o + 3) (((41 + (14 * v2)) + 3).toNat) (-1) → ir (14 * v2) ∧ ir (41 + (14 * v2)) ∧ ir ((41 + (14 * v2)) + 4) ∧ (0 ≤ ((41 + (14 * v2)) + 4) ∧ ((41 + (14 * v2)) + 4) < 149) ∧ ∀ J18, J18 = up2 J13 (o + 3) (((41 + (14 * v2)) + 4).toNat) (-1) → ir (v2 + 1) ∧ ∀ y20, y20 = v2 + 1 → ZZ J18 y20)) → ZZ J v2) → ZZ J v2
theorem vw_X12_clears_46 {o : Nat} {a1 : Int}  (ia1 : ir a1) {post : mI → Prop} {post' : mJ → Prop} (hp : ∀ (J1 : mJ), irm J1 → post' J1 → post (zz J1)) {J : mJ} {xv2 : Int32} {v2 : Int} (hJ : irm J) (ev2 : xv2 = zi v2) (iv2 : ir v2) (hv : v_X12_clears_46 o a1 post' J v2) : w_X12_clears_46 o (zi a1) post (zz J) xv2 := by
  subst ev2
  unfold v_X12_clears_46 at hv
  unfold w_X12_clears_46
  intro ZZ hZ
  refine hv (fun J v2 => ∀ (xv2 : Int32), irm J → xv2 = zi v2 → ir v2 → ZZ (zz J) xv2) ?_ _ hJ rfl iv2
  clear hv hJ iv2
  intro J v2 hv xv2 hJ ev2 iv2
  subst ev2
  refine hZ _ _ ?_
  refine ⟨fun cq => ?_, fun cq => ?_⟩
  · have hv := hv.1 ((zle (by decide : (6 : Int32) = zi 6) (rfl : zi v2 = zi v2) (by decide : ir 6) iv2).mp cq)
    exact hp _ hJ hv
  · have hv := hv.2 (fun q => cq ((zle (by decide : (6 : Int32) = zi 6) (rfl : zi v2 = zi v2) (by decide : ir 6) iv2).mpr q))
    obtain ⟨g9, hv⟩ := hv
    obtain ⟨g10, hv⟩ := hv
    obtain ⟨g11, hv⟩ := hv
    obtain ⟨g12, hv⟩ := hv
    refine ⟨zvp (za (za (by decide : (41 : Int32) = zi 41) (zm (by decide : (14 : Int32) = zi 14) (rfl : zi v2 = zi v2))) (by decide : (3 : Int32) = zi 3)) g11 g12.1 g12.2, ?_⟩
    intro I1 eI1
    obtain ⟨J13, eJ13⟩ : ∃ q9 : mJ, q9 = up2 J (o + 3) (((41 + (14 * v2)) + 3).toNat) (-1) := ⟨_, rfl⟩
    have eI1 : I1 = zz J13 := by rw [eI1, eJ13]; exact zupa (za (za (by decide : (41 : Int32) = zi 41) (zm (by decide : (14 : Int32) = zi 14) (rfl : zi v2 = zi v2))) (by decide : (3 : Int32) = zi 3)) g11 g12.1 (by decide : ((-1) : Int32) = zi (-1))
    subst eI1
    have hv := hv J13 eJ13
    have hJ : irm J13 := by rw [eJ13]; exact irm_up hJ (by decide : ir (-1))
    obtain ⟨g14, hv⟩ := hv
    obtain ⟨g15, hv⟩ := hv
    obtain ⟨g16, hv⟩ := hv
    obtain ⟨g17, hv⟩ := hv
    refine ⟨zvp (za (za (by decide : (41 : Int32) = zi 41) (zm (by decide : (14 : Int32) = zi 14) (rfl : zi v2 = zi v2))) (by decide : (4 : Int32) = zi 4)) g16 g17.1 g17.2, ?_⟩
    intro I1 eI1
    obtain ⟨J18, eJ18⟩ : ∃ q9 : mJ, q9 = up2 J13 (o + 3) (((41 + (14 * v2)) + 4).toNat) (-1) := ⟨_, rfl⟩
    have eI1 : I1 = zz J18 := by rw [eI1, eJ18]; exact zupa (za (za (by decide : (41 : Int32) = zi 41) (zm (by decide : (14 : Int32) = zi 14) (rfl : zi v2 = zi v2))) (by decide : (4 : Int32) = zi 4)) g16 g17.1 (by decide : ((-1) : Int32) = zi (-1))
    subst eI1
    have hv := hv J18 eJ18
    have hJ : irm J18 := by rw [eJ18]; exact irm_up hJ (by decide : ir (-1))
    obtain ⟨g19, hv⟩ := hv
    intro xy20 exy20
    obtain ⟨y20, eyy20⟩ : ∃ q9 : Int, q9 = v2 + 1 := ⟨_, rfl⟩
    have hv := hv y20 eyy20
    have Ey20 : xy20 = zi y20 := exy20.trans (((za (rfl : zi v2 = zi v2) (by decide : (1 : Int32) = zi 1))).trans (congrArg zi eyy20.symm))
    have Iy20 : ir y20 := by rw [eyy20]; exact g19
    clear exy20
    exact hv _ hJ Ey20 Iy20
def v_X12_clears_22 (o : Nat) (a1 : Int) (post' : mJ → Prop) (J : mJ) : Prop := (¬ a1 = 1 → ∀ J6, J6 = up2 J (o + 3) 0 12 → ∀ J8, J8 = up2 J6 (o + 3) 1 60 → (v_X12_clears_46 o a1 post') J8 0) ∧ (a1 = 1 → post' J)
theorem vw_X12_clears_22 {o : Nat} {a1 : Int}  (ia1 : ir a1) {post : mI → Prop} {post' : mJ → Prop} (hp : ∀ (J1 : mJ), irm J1 → post' J1 → post (zz J1)) {J : mJ} (hJ : irm J) (hv : v_X12_clears_22 o a1 post' J) : w_X12_clears_22 o (zi a1) post (zz J) := by
  unfold v_X12_clears_22 at hv
  unfold w_X12_clears_22
  refine ⟨fun cq => ?_, fun cq => ?_⟩
  · have hv := hv.1 (fun q => cq ((zeq (rfl : zi a1 = zi a1) (by decide : (1 : Int32) = zi 1) ia1 (by decide : ir 1)).mpr q))
    intro I1 eI1
    obtain ⟨J6, eJ6⟩ : ∃ q9 : mJ, q9 = up2 J (o + 3) 0 12 := ⟨_, rfl⟩
    have eI1 : I1 = zz J6 := by rw [eI1, eJ6]; exact zupa (by decide : (0 : Int32) = zi 0) (by decide : ir 0) (by decide) (by decide : (12 : Int32) = zi 12)
    subst eI1
    have hv := hv J6 eJ6
    have hJ : irm J6 := by rw [eJ6]; exact irm_up hJ (by decide : ir 12)
    intro I1 eI1
    obtain ⟨J8, eJ8⟩ : ∃ q9 : mJ, q9 = up2 J6 (o + 3) 1 60 := ⟨_, rfl⟩
    have eI1 : I1 = zz J8 := by rw [eI1, eJ8]; exact zupa (by decide : (1 : Int32) = zi 1) (by decide : ir 1) (by decide) (by decide : (60 : Int32) = zi 60)
    subst eI1
    have hv := hv J8 eJ8
    have hJ : irm J8 := by rw [eJ8]; exact irm_up hJ (by decide : ir 60)
    exact vw_X12_clears_46 ia1 hp hJ (by decide : (0 : Int32) = zi 0) (by decide : ir 0) hv
  · have hv := hv.2 ((zeq (rfl : zi a1 = zi a1) (by decide : (1 : Int32) = zi 1) ia1 (by decide : ir 1)).mp cq)
    exact hp _ hJ hv
def v_X12_clears (J : mJ) (o : Nat) (a1 : Int) (post' : mJ → Prop) : Prop := (v_X12_clears_2 o a1 post' (v_X12_clears_22 o a1 post')) J 0
theorem vw_X12_clears {J : mJ} {o : Nat} {xa1 : Int32} {a1 : Int} (hJ : irm J)   (ea1 : xa1 = zi a1) (ia1 : ir a1) {post : mI → Prop} {post' : mJ → Prop} (hp : ∀ (J1 : mJ), irm J1 → post' J1 → post (zz J1)) (hv : v_X12_clears J o a1 post') : w_X12_clears (zz J) o xa1 post := by
  subst ea1
  unfold v_X12_clears at hv
  unfold w_X12_clears
  refine vw_X12_clears_2 ia1 hp ?_ hJ (by decide : (0 : Int32) = zi 0) (by decide : ir 0) hv
  · intro qq hJ hv
    exact vw_X12_clears_22 ia1 hp hJ hv
def v_X12_text_99 (o : Nat) (a1 : Int) (a2 : Int) (post' : Int → mJ → Prop) (k131' : mJ → Prop) (J : mJ) : Prop := ∀ ZZ : (mJ → Prop), (∀ (J : mJ), ((¬ (J o 8) = 0 → k131' J) ∧ ((J o 8) = 0 → ((J o 5) = 0 → k131' J) ∧ (¬ (J o 5) = 0 → (¬ a1 = 0 → v_X12_soundLine J o (fun J18 => ZZ J18)) ∧ (a1 = 0 → v_X12_houseLine J o (fun J19 => ZZ J19))))) → ZZ J) → ZZ J
theorem vw_X12_text_99 {o : Nat} {a1 : Int} {a2 : Int}  (ia1 : ir a1) (ia2 : ir a2) {post : Int32 → mI → Prop} {post' : Int → mJ → Prop} {k131' : mJ → Prop} {k131 : mI → Prop} (hp : ∀ (x : Int32) (r : Int) (J1 : mJ), x = zi r → ir r → irm J1 → post' r J1 → post x (zz J1)) (hk131 : ∀ (J : mJ), irm J → k131' J → k131 (zz J)) {J : mJ} (hJ : irm J) (hv : v_X12_text_99 o a1 a2 post' k131' J) : w_X12_text_99 o (zi a1) (zi a2) post k131 (zz J) := by
  unfold v_X12_text_99 at hv
  unfold w_X12_text_99
  intro ZZ hZ
  refine hv (fun J => irm J → ZZ (zz J)) ?_ hJ
  clear hv hJ
  intro J hv hJ
  refine hZ _ ?_
  refine ⟨fun cq => ?_, fun cq => ?_⟩
  · have hv := hv.1 (fun q => cq ((zeq zrf (by decide : (0 : Int32) = zi 0) (hJ _ _) (by decide : ir 0)).mpr q))
    exact hk131 _ hJ hv
  · have hv := hv.2 ((zeq zrf (by decide : (0 : Int32) = zi 0) (hJ _ _) (by decide : ir 0)).mp cq)
    refine ⟨fun cq => ?_, fun cq => ?_⟩
    · have hv := hv.1 ((zeq zrf (by decide : (0 : Int32) = zi 0) (hJ _ _) (by decide : ir 0)).mp cq)
      exact hk131 _ hJ hv
    · have hv := hv.2 (fun q => cq ((zeq zrf (by decide : (0 : Int32) = zi 0) (hJ _ _) (by decide : ir 0)).mpr q))
      refine ⟨fun cq => ?_, fun cq => ?_⟩
      · have hv := hv.1 (fun q => cq ((zeq (rfl : zi a1 = zi a1) (by decide : (0 : Int32) = zi 0) ia1 (by decide : ir 0)).mpr q))
        refine vw_X12_soundLine hJ  (fun J18 hJ hv => ?_) hv
        exact hv  hJ
      · have hv := hv.2 ((zeq (rfl : zi a1 = zi a1) (by decide : (0 : Int32) = zi 0) ia1 (by decide : ir 0)).mp cq)
        refine vw_X12_houseLine hJ  (fun J19 hJ hv => ?_) hv
        exact hv  hJ
def v_X12_text_238 (o : Nat) (a1 : Int) (a2 : Int) (post' : Int → mJ → Prop) (k224' : mJ → Int → Int → Prop) (J : mJ) (v3 : Int) (v4 : Int) (s0 : Int) (s1 : Int) : Prop := (s1 ≤ s0 → post' v3 J) ∧ (¬ s1 ≤ s0 → v_X12_placeOf a1 v3 (fun r30 => ir (r30 + v4) ∧ (0 ≤ v4 ∧ v4 < 149) ∧ (0 ≤ (r30 + v4) ∧ (r30 + v4) < 3960) ∧ ∀ J34, J34 = up2 J (o + 1) ((r30 + v4).toNat) (J (o + 3) v4.toNat) → ir (v4 + 1) ∧ ∀ y36, y36 = v4 + 1 → k224' J34 v3 y36))
theorem vw_X12_text_238 {o : Nat} {a1 : Int} {a2 : Int}  (ia1 : ir a1) (ia2 : ir a2) {post : Int32 → mI → Prop} {post' : Int → mJ → Prop} {k224' : mJ → Int → Int → Prop} {k224 : mI → Int32 → Int32 → Prop} (hp : ∀ (x : Int32) (r : Int) (J1 : mJ), x = zi r → ir r → irm J1 → post' r J1 → post x (zz J1)) (hk224 : ∀ (J : mJ) (xv3 : Int32) (v3 : Int) (xv4 : Int32) (v4 : Int), irm J → xv3 = zi v3 → ir v3 → xv4 = zi v4 → ir v4 → k224' J v3 v4 → k224 (zz J) xv3 xv4) {J : mJ} {xv3 : Int32} {v3 : Int} {xv4 : Int32} {v4 : Int} {xs0 : Int32} {s0 : Int} {xs1 : Int32} {s1 : Int} (hJ : irm J) (ev3 : xv3 = zi v3) (iv3 : ir v3) (ev4 : xv4 = zi v4) (iv4 : ir v4) (es0 : xs0 = zi s0) (is0 : ir s0) (es1 : xs1 = zi s1) (is1 : ir s1) (hv : v_X12_text_238 o a1 a2 post' k224' J v3 v4 s0 s1) : w_X12_text_238 o (zi a1) (zi a2) post k224 (zz J) xv3 xv4 xs0 xs1 := by
  subst ev3
  subst ev4
  subst es0
  subst es1
  unfold v_X12_text_238 at hv
  unfold w_X12_text_238
  refine ⟨fun cq => ?_, fun cq => ?_⟩
  · have hv := hv.1 ((zle (rfl : zi s1 = zi s1) (rfl : zi s0 = zi s0) is1 is0).mp cq)
    exact hp _ _ _ (rfl : zi v3 = zi v3) iv3 hJ hv
  · have hv := hv.2 (fun q => cq ((zle (rfl : zi s1 = zi s1) (rfl : zi s0 = zi s0) is1 is0).mpr q))
    refine vw_X12_placeOf (rfl : zi a1 = zi a1) ia1 (rfl : zi v3 = zi v3) iv3 (fun xr30 r30 Er30 Ir30 hv => ?_) hv
    obtain ⟨g31, hv⟩ := hv
    obtain ⟨g32, hv⟩ := hv
    refine ⟨zvp (rfl : zi v4 = zi v4) iv4 g32.1 g32.2, ?_⟩
    obtain ⟨g33, hv⟩ := hv
    refine ⟨zvp (za Er30 (rfl : zi v4 = zi v4)) g31 g33.1 g33.2, ?_⟩
    intro I1 eI1
    obtain ⟨J34, eJ34⟩ : ∃ q9 : mJ, q9 = up2 J (o + 1) ((r30 + v4).toNat) (J (o + 3) v4.toNat) := ⟨_, rfl⟩
    have eI1 : I1 = zz J34 := by rw [eI1, eJ34]; exact zupa (za Er30 (rfl : zi v4 = zi v4)) g31 g33.1 (zrd (rfl : zi v4 = zi v4) iv4 g32.1)
    subst eI1
    have hv := hv J34 eJ34
    have hJ : irm J34 := by rw [eJ34]; exact irm_up hJ (hJ _ _)
    obtain ⟨g35, hv⟩ := hv
    intro xy36 exy36
    obtain ⟨y36, eyy36⟩ : ∃ q9 : Int, q9 = v4 + 1 := ⟨_, rfl⟩
    have hv := hv y36 eyy36
    have Ey36 : xy36 = zi y36 := exy36.trans (((za (rfl : zi v4 = zi v4) (by decide : (1 : Int32) = zi 1))).trans (congrArg zi eyy36.symm))
    have Iy36 : ir y36 := by rw [eyy36]; exact g35
    clear exy36
    exact hk224 _ _ _ _ _ hJ (rfl : zi v3 = zi v3) iv3 Ey36 Iy36 hv
def v_X12_text_224 (o : Nat) (a1 : Int) (a2 : Int) (post' : Int → mJ → Prop) (J : mJ) (v3 : Int) (v4 : Int) : Prop := ∀ ZZ : (mJ → Int → Int → Prop), (∀ (J : mJ) (v3 : Int) (v4 : Int), ((¬ a1 = 0 → (v_X12_text_238 o a1 a2 post' ZZ) J v3 v4 v4 41) ∧ (a1 = 0 → (v_X12_text_238 o a1 a2 post' ZZ) J v3 v4 v4 149)) → ZZ J v3 v4) → ZZ J v3 v4
theorem vw_X12_text_224 {o : Nat} {a1 : Int} {a2 : Int}  (ia1 : ir a1) (ia2 : ir a2) {post : Int32 → mI → Prop} {post' : Int → mJ → Prop} (hp : ∀ (x : Int32) (r : Int) (J1 : mJ), x = zi r → ir r → irm J1 → post' r J1 → post x (zz J1)) {J : mJ} {xv3 : Int32} {v3 : Int} {xv4 : Int32} {v4 : Int} (hJ : irm J) (ev3 : xv3 = zi v3) (iv3 : ir v3) (ev4 : xv4 = zi v4) (iv4 : ir v4) (hv : v_X12_text_224 o a1 a2 post' J v3 v4) : w_X12_text_224 o (zi a1) (zi a2) post (zz J) xv3 xv4 := by
  subst ev3
  subst ev4
  unfold v_X12_text_224 at hv
  unfold w_X12_text_224
  intro ZZ hZ
  refine hv (fun J v3 v4 => ∀ (xv3 : Int32) (xv4 : Int32), irm J → xv3 = zi v3 → ir v3 → xv4 = zi v4 → ir v4 → ZZ (zz J) xv3 xv4) ?_ _ _ hJ rfl iv3 rfl iv4
  clear hv hJ iv3 iv4
  intro J v3 v4 hv xv3 xv4 hJ ev3 iv3 ev4 iv4
  subst ev3
  subst ev4
  refine hZ _ _ _ ?_
  refine ⟨fun cq => ?_, fun cq => ?_⟩
  · have hv := hv.1 (fun q => cq ((zeq (rfl : zi a1 = zi a1) (by decide : (0 : Int32) = zi 0) ia1 (by decide : ir 0)).mpr q))
    refine vw_X12_text_238 ia1 ia2 hp ?_ hJ (rfl : zi v3 = zi v3) iv3 (rfl : zi v4 = zi v4) iv4 (rfl : zi v4 = zi v4) iv4 (by decide : (41 : Int32) = zi 41) (by decide : ir 41) hv
    · intro qq xx vv xx vv hJ ev3 iv3 ev4 iv4 hv
      exact hv _ _ hJ ev3 iv3 ev4 iv4
  · have hv := hv.2 ((zeq (rfl : zi a1 = zi a1) (by decide : (0 : Int32) = zi 0) ia1 (by decide : ir 0)).mp cq)
    refine vw_X12_text_238 ia1 ia2 hp ?_ hJ (rfl : zi v3 = zi v3) iv3 (rfl : zi v4 = zi v4) iv4 (rfl : zi v4 = zi v4) iv4 (by decide : (149 : Int32) = zi 149) (by decide : ir 149) hv
    · intro qq xx vv xx vv hJ ev3 iv3 ev4 iv4 hv
      exact hv _ _ hJ ev3 iv3 ev4 iv4
def v_X12_text_205 (o : Nat) (a1 : Int) (a2 : Int) (post' : Int → mJ → Prop) (J : mJ) (s0 : Int) : Prop := (¬ a2 = (-1) → (v_X12_text_224 o a1 a2 post') J s0 0) ∧ (a2 = (-1) → (0 ≤ a1 ∧ a1 < 3960) ∧ ir ((J (o + 1) a1.toNat) + 1) ∧ (0 ≤ a1 ∧ a1 < 3960) ∧ ∀ J29, J29 = up2 J (o + 1) a1.toNat ((J (o + 1) a1.toNat) + 1) → (v_X12_text_224 o a1 a2 post') J29 s0 0)
theorem vw_X12_text_205 {o : Nat} {a1 : Int} {a2 : Int}  (ia1 : ir a1) (ia2 : ir a2) {post : Int32 → mI → Prop} {post' : Int → mJ → Prop} (hp : ∀ (x : Int32) (r : Int) (J1 : mJ), x = zi r → ir r → irm J1 → post' r J1 → post x (zz J1)) {J : mJ} {xs0 : Int32} {s0 : Int} (hJ : irm J) (es0 : xs0 = zi s0) (is0 : ir s0) (hv : v_X12_text_205 o a1 a2 post' J s0) : w_X12_text_205 o (zi a1) (zi a2) post (zz J) xs0 := by
  subst es0
  unfold v_X12_text_205 at hv
  unfold w_X12_text_205
  refine ⟨fun cq => ?_, fun cq => ?_⟩
  · have hv := hv.1 (fun q => cq ((zeq (rfl : zi a2 = zi a2) (by decide : ((-1) : Int32) = zi (-1)) ia2 (by decide : ir (-1))).mpr q))
    exact vw_X12_text_224 ia1 ia2 hp hJ (rfl : zi s0 = zi s0) is0 (by decide : (0 : Int32) = zi 0) (by decide : ir 0) hv
  · have hv := hv.2 ((zeq (rfl : zi a2 = zi a2) (by decide : ((-1) : Int32) = zi (-1)) ia2 (by decide : ir (-1))).mp cq)
    obtain ⟨g26, hv⟩ := hv
    refine ⟨zvp (rfl : zi a1 = zi a1) ia1 g26.1 g26.2, ?_⟩
    obtain ⟨g27, hv⟩ := hv
    obtain ⟨g28, hv⟩ := hv
    refine ⟨zvp (rfl : zi a1 = zi a1) ia1 g28.1 g28.2, ?_⟩
    intro I1 eI1
    obtain ⟨J29, eJ29⟩ : ∃ q9 : mJ, q9 = up2 J (o + 1) a1.toNat ((J (o + 1) a1.toNat) + 1) := ⟨_, rfl⟩
    have eI1 : I1 = zz J29 := by rw [eI1, eJ29]; exact zupa (rfl : zi a1 = zi a1) ia1 g28.1 (za (zrd (rfl : zi a1 = zi a1) ia1 g26.1) (by decide : (1 : Int32) = zi 1))
    subst eI1
    have hv := hv J29 eJ29
    have hJ : irm J29 := by rw [eJ29]; exact irm_up hJ g27
    exact vw_X12_text_224 ia1 ia2 hp hJ (rfl : zi s0 = zi s0) is0 (by decide : (0 : Int32) = zi 0) (by decide : ir 0) hv
def v_X12_text_179 (o : Nat) (a1 : Int) (a2 : Int) (post' : Int → mJ → Prop) (J : mJ) : Prop := ((J (o + 1) 3) = 0 → (¬ a2 = (-1) → (v_X12_text_205 o a1 a2 post') J a2) ∧ (a2 = (-1) → (0 ≤ a1 ∧ a1 < 3960) ∧ (v_X12_text_205 o a1 a2 post') J (J (o + 1) a1.toNat))) ∧ (¬ (J (o + 1) 3) = 0 → post' (-1) J)
theorem vw_X12_text_179 {o : Nat} {a1 : Int} {a2 : Int}  (ia1 : ir a1) (ia2 : ir a2) {post : Int32 → mI → Prop} {post' : Int → mJ → Prop} (hp : ∀ (x : Int32) (r : Int) (J1 : mJ), x = zi r → ir r → irm J1 → post' r J1 → post x (zz J1)) {J : mJ} (hJ : irm J) (hv : v_X12_text_179 o a1 a2 post' J) : w_X12_text_179 o (zi a1) (zi a2) post (zz J) := by
  unfold v_X12_text_179 at hv
  unfold w_X12_text_179
  refine ⟨fun cq => ?_, fun cq => ?_⟩
  · have hv := hv.1 ((zeq (zrd (by decide : (3 : Int32) = zi 3) (by decide : ir 3) (by decide)) (by decide : (0 : Int32) = zi 0) (hJ _ _) (by decide : ir 0)).mp cq)
    refine ⟨fun cq => ?_, fun cq => ?_⟩
    · have hv := hv.1 (fun q => cq ((zeq (rfl : zi a2 = zi a2) (by decide : ((-1) : Int32) = zi (-1)) ia2 (by decide : ir (-1))).mpr q))
      exact vw_X12_text_205 ia1 ia2 hp hJ (rfl : zi a2 = zi a2) ia2 hv
    · have hv := hv.2 ((zeq (rfl : zi a2 = zi a2) (by decide : ((-1) : Int32) = zi (-1)) ia2 (by decide : ir (-1))).mp cq)
      obtain ⟨g25, hv⟩ := hv
      refine ⟨zvp (rfl : zi a1 = zi a1) ia1 g25.1 g25.2, ?_⟩
      exact vw_X12_text_205 ia1 ia2 hp hJ (zrd (rfl : zi a1 = zi a1) ia1 g25.1) (hJ _ _) hv
  · have hv := hv.2 (fun q => cq ((zeq (zrd (by decide : (3 : Int32) = zi 3) (by decide : ir 3) (by decide)) (by decide : (0 : Int32) = zi 0) (hJ _ _) (by decide : ir 0)).mpr q))
    exact hp _ _ _ (by decide : ((-1) : Int32) = zi (-1)) (by decide : ir (-1)) hJ hv
def v_X12_text_170 (o : Nat) (a1 : Int) (a2 : Int) (post' : Int → mJ → Prop) (J : mJ) : Prop := v_X12_also J o 4 (J o 4) (fun J23 => (v_X12_text_179 o a1 a2 post') J23)
theorem vw_X12_text_170 {o : Nat} {a1 : Int} {a2 : Int}  (ia1 : ir a1) (ia2 : ir a2) {post : Int32 → mI → Prop} {post' : Int → mJ → Prop} (hp : ∀ (x : Int32) (r : Int) (J1 : mJ), x = zi r → ir r → irm J1 → post' r J1 → post x (zz J1)) {J : mJ} (hJ : irm J) (hv : v_X12_text_170 o a1 a2 post' J) : w_X12_text_170 o (zi a1) (zi a2) post (zz J) := by
  unfold v_X12_text_170 at hv
  unfold w_X12_text_170
  refine vw_X12_also hJ (by decide : (4 : Int32) = zi 4) (by decide : ir 4) zrf (hJ _ _) (fun J23 hJ hv => ?_) hv
  exact vw_X12_text_179 ia1 ia2 hp hJ hv
def v_X12_text_131 (o : Nat) (a1 : Int) (a2 : Int) (post' : Int → mJ → Prop) (J : mJ) : Prop := (¬ (J (o + 1) 3) = 0 → (v_X12_text_179 o a1 a2 post') J) ∧ ((J (o + 1) 3) = 0 → (¬ a1 = 0 → (v_X12_text_179 o a1 a2 post') J) ∧ (a1 = 0 → ((J (o + 3) 3) ≤ (J o 9) → (v_X12_text_170 o a1 a2 post') J) ∧ (¬ (J (o + 3) 3) ≤ (J o 9) → ((J o 10) < (J (o + 3) 0) → (v_X12_text_179 o a1 a2 post') J) ∧ (¬ (J o 10) < (J (o + 3) 0) → (v_X12_text_170 o a1 a2 post') J))))
theorem vw_X12_text_131 {o : Nat} {a1 : Int} {a2 : Int}  (ia1 : ir a1) (ia2 : ir a2) {post : Int32 → mI → Prop} {post' : Int → mJ → Prop} (hp : ∀ (x : Int32) (r : Int) (J1 : mJ), x = zi r → ir r → irm J1 → post' r J1 → post x (zz J1)) {J : mJ} (hJ : irm J) (hv : v_X12_text_131 o a1 a2 post' J) : w_X12_text_131 o (zi a1) (zi a2) post (zz J) := by
  unfold v_X12_text_131 at hv
  unfold w_X12_text_131
  refine ⟨fun cq => ?_, fun cq => ?_⟩
  · have hv := hv.1 (fun q => cq ((zeq (zrd (by decide : (3 : Int32) = zi 3) (by decide : ir 3) (by decide)) (by decide : (0 : Int32) = zi 0) (hJ _ _) (by decide : ir 0)).mpr q))
    exact vw_X12_text_179 ia1 ia2 hp hJ hv
  · have hv := hv.2 ((zeq (zrd (by decide : (3 : Int32) = zi 3) (by decide : ir 3) (by decide)) (by decide : (0 : Int32) = zi 0) (hJ _ _) (by decide : ir 0)).mp cq)
    refine ⟨fun cq => ?_, fun cq => ?_⟩
    · have hv := hv.1 (fun q => cq ((zeq (rfl : zi a1 = zi a1) (by decide : (0 : Int32) = zi 0) ia1 (by decide : ir 0)).mpr q))
      exact vw_X12_text_179 ia1 ia2 hp hJ hv
    · have hv := hv.2 ((zeq (rfl : zi a1 = zi a1) (by decide : (0 : Int32) = zi 0) ia1 (by decide : ir 0)).mp cq)
      refine ⟨fun cq => ?_, fun cq => ?_⟩
      · have hv := hv.1 ((zle (zrd (by decide : (3 : Int32) = zi 3) (by decide : ir 3) (by decide)) zrf (hJ _ _) (hJ _ _)).mp cq)
        exact vw_X12_text_170 ia1 ia2 hp hJ hv
      · have hv := hv.2 (fun q => cq ((zle (zrd (by decide : (3 : Int32) = zi 3) (by decide : ir 3) (by decide)) zrf (hJ _ _) (hJ _ _)).mpr q))
        refine ⟨fun cq => ?_, fun cq => ?_⟩
        · have hv := hv.1 ((zlt zrf (zrd (by decide : (0 : Int32) = zi 0) (by decide : ir 0) (by decide)) (hJ _ _) (hJ _ _)).mp cq)
          exact vw_X12_text_179 ia1 ia2 hp hJ hv
        · have hv := hv.2 (fun q => cq ((zlt zrf (zrd (by decide : (0 : Int32) = zi 0) (by decide : ir 0) (by decide)) (hJ _ _) (hJ _ _)).mpr q))
          exact vw_X12_text_170 ia1 ia2 hp hJ hv
def v_X12_text_70 (o : Nat) (a1 : Int) (a2 : Int) (post' : Int → mJ → Prop) (J : mJ) : Prop := ∀ J12, J12 = up2 J o 3 0 → ∀ J13, J13 = up2 J12 o 8 0 → ∀ J14, J14 = up2 J13 o 9 (-1) → ∀ J15, J15 = up2 J14 o 10 (-1) → v_X12_clears J15 o a1 (fun J16 => v_X12_advance J16 o (fun J17 => (v_X12_text_99 o a1 a2 post' (v_X12_text_131 o a1 a2 post')) J17))
theorem vw_X12_text_70 {o : Nat} {a1 : Int} {a2 : Int}  (ia1 : ir a1) (ia2 : ir a2) {post : Int32 → mI → Prop} {post' : Int → mJ → Prop} (hp : ∀ (x : Int32) (r : Int) (J1 : mJ), x = zi r → ir r → irm J1 → post' r J1 → post x (zz J1)) {J : mJ} (hJ : irm J) (hv : v_X12_text_70 o a1 a2 post' J) : w_X12_text_70 o (zi a1) (zi a2) post (zz J) := by
  unfold v_X12_text_70 at hv
  unfold w_X12_text_70
  intro I1 eI1
  obtain ⟨J12, eJ12⟩ : ∃ q9 : mJ, q9 = up2 J o 3 0 := ⟨_, rfl⟩
  have eI1 : I1 = zz J12 := by rw [eI1, eJ12]; exact zup (by decide : (0 : Int32) = zi 0)
  subst eI1
  have hv := hv J12 eJ12
  have hJ : irm J12 := by rw [eJ12]; exact irm_up hJ (by decide : ir 0)
  intro I1 eI1
  obtain ⟨J13, eJ13⟩ : ∃ q9 : mJ, q9 = up2 J12 o 8 0 := ⟨_, rfl⟩
  have eI1 : I1 = zz J13 := by rw [eI1, eJ13]; exact zup (by decide : (0 : Int32) = zi 0)
  subst eI1
  have hv := hv J13 eJ13
  have hJ : irm J13 := by rw [eJ13]; exact irm_up hJ (by decide : ir 0)
  intro I1 eI1
  obtain ⟨J14, eJ14⟩ : ∃ q9 : mJ, q9 = up2 J13 o 9 (-1) := ⟨_, rfl⟩
  have eI1 : I1 = zz J14 := by rw [eI1, eJ14]; exact zup (by decide : ((-1) : Int32) = zi (-1))
  subst eI1
  have hv := hv J14 eJ14
  have hJ : irm J14 := by rw [eJ14]; exact irm_up hJ (by decide : ir (-1))
  intro I1 eI1
  obtain ⟨J15, eJ15⟩ : ∃ q9 : mJ, q9 = up2 J14 o 10 (-1) := ⟨_, rfl⟩
  have eI1 : I1 = zz J15 := by rw [eI1, eJ15]; exact zup (by decide : ((-1) : Int32) = zi (-1))
  subst eI1
  have hv := hv J15 eJ15
  have hJ : irm J15 := by rw [eJ15]; exact irm_up hJ (by decide : ir (-1))
  refine vw_X12_clears hJ (rfl : zi a1 = zi a1) ia1 (fun J16 hJ hv => ?_) hv
  refine vw_X12_advance hJ  (fun J17 hJ hv => ?_) hv
  refine vw_X12_text_99 ia1 ia2 hp ?_ hJ hv
  · intro qq hJ hv
    exact vw_X12_text_131 ia1 ia2 hp hJ hv
def v_X12_text (J : mJ) (o : Nat) (a1 : Int) (a2 : Int) (post' : Int → mJ → Prop) : Prop := ∀ J2, J2 = up2 J o 2 (J (o + 1) 2) → ∀ J4, J4 = up2 J2 (o + 1) 2 0 → ∀ J6, J6 = up2 J4 (o + 1) 3 0 → ∀ J8, J8 = up2 J6 (o + 1) 4 (-1) → v_X12_isIn a1 0 1 (fun b9 => (b9 = false → post' (-2) J8) ∧ (b9 = true → (¬ a2 = (-1) → v_X12_isOf J8 o a1 a2 (fun b10 => (b10 = true → (v_X12_text_70 o a1 a2 post') J8) ∧ (b10 = false → post' (-2) J8))) ∧ (a2 = (-1) → (0 ≤ a1 ∧ a1 < 3960) ∧ ((J8 (o + 1) a1.toNat) < 2 → (v_X12_text_70 o a1 a2 post') J8) ∧ (¬ (J8 (o + 1) a1.toNat) < 2 → post' (-2) J8))))
theorem vw_X12_text {J : mJ} {o : Nat} {xa1 : Int32} {a1 : Int} {xa2 : Int32} {a2 : Int} (hJ : irm J)   (ea1 : xa1 = zi a1) (ia1 : ir a1) (ea2 : xa2 = zi a2) (ia2 : ir a2) {post : Int32 → mI → Prop} {post' : Int → mJ → Prop} (hp : ∀ (x : Int32) (r : Int) (J1 : mJ), x = zi r → ir r → irm J1 → post' r J1 → post x (zz J1)) (hv : v_X12_text J o a1 a2 post') : w_X12_text (zz J) o xa1 xa2 post := by
  subst ea1
  subst ea2
  unfold v_X12_text at hv
  unfold w_X12_text
  intro I1 eI1
  obtain ⟨J2, eJ2⟩ : ∃ q9 : mJ, q9 = up2 J o 2 (J (o + 1) 2) := ⟨_, rfl⟩
  have eI1 : I1 = zz J2 := by rw [eI1, eJ2]; exact zup (zrd (by decide : (2 : Int32) = zi 2) (by decide : ir 2) (by decide))
  subst eI1
  have hv := hv J2 eJ2
  have hJ : irm J2 := by rw [eJ2]; exact irm_up hJ (hJ _ _)
  intro I1 eI1
  obtain ⟨J4, eJ4⟩ : ∃ q9 : mJ, q9 = up2 J2 (o + 1) 2 0 := ⟨_, rfl⟩
  have eI1 : I1 = zz J4 := by rw [eI1, eJ4]; exact zupa (by decide : (2 : Int32) = zi 2) (by decide : ir 2) (by decide) (by decide : (0 : Int32) = zi 0)
  subst eI1
  have hv := hv J4 eJ4
  have hJ : irm J4 := by rw [eJ4]; exact irm_up hJ (by decide : ir 0)
  intro I1 eI1
  obtain ⟨J6, eJ6⟩ : ∃ q9 : mJ, q9 = up2 J4 (o + 1) 3 0 := ⟨_, rfl⟩
  have eI1 : I1 = zz J6 := by rw [eI1, eJ6]; exact zupa (by decide : (3 : Int32) = zi 3) (by decide : ir 3) (by decide) (by decide : (0 : Int32) = zi 0)
  subst eI1
  have hv := hv J6 eJ6
  have hJ : irm J6 := by rw [eJ6]; exact irm_up hJ (by decide : ir 0)
  intro I1 eI1
  obtain ⟨J8, eJ8⟩ : ∃ q9 : mJ, q9 = up2 J6 (o + 1) 4 (-1) := ⟨_, rfl⟩
  have eI1 : I1 = zz J8 := by rw [eI1, eJ8]; exact zupa (by decide : (4 : Int32) = zi 4) (by decide : ir 4) (by decide) (by decide : ((-1) : Int32) = zi (-1))
  subst eI1
  have hv := hv J8 eJ8
  have hJ : irm J8 := by rw [eJ8]; exact irm_up hJ (by decide : ir (-1))
  refine vw_X12_isIn (rfl : zi a1 = zi a1) ia1 (by decide : (0 : Int32) = zi 0) (by decide : ir 0) (by decide : (1 : Int32) = zi 1) (by decide : ir 1) (fun b9  hv => ?_) hv
  refine ⟨fun cq => ?_, fun cq => ?_⟩
  · have hv := hv.1 cq
    exact hp _ _ _ (by decide : ((-2) : Int32) = zi (-2)) (by decide : ir (-2)) hJ hv
  · have hv := hv.2 cq
    refine ⟨fun cq => ?_, fun cq => ?_⟩
    · have hv := hv.1 (fun q => cq ((zeq (rfl : zi a2 = zi a2) (by decide : ((-1) : Int32) = zi (-1)) ia2 (by decide : ir (-1))).mpr q))
      refine vw_X12_isOf hJ (rfl : zi a1 = zi a1) ia1 (rfl : zi a2 = zi a2) ia2 (fun b10  hv => ?_) hv
      refine ⟨fun cq => ?_, fun cq => ?_⟩
      · have hv := hv.1 cq
        exact vw_X12_text_70 ia1 ia2 hp hJ hv
      · have hv := hv.2 cq
        exact hp _ _ _ (by decide : ((-2) : Int32) = zi (-2)) (by decide : ir (-2)) hJ hv
    · have hv := hv.2 ((zeq (rfl : zi a2 = zi a2) (by decide : ((-1) : Int32) = zi (-1)) ia2 (by decide : ir (-1))).mp cq)
      obtain ⟨g11, hv⟩ := hv
      refine ⟨zvp (rfl : zi a1 = zi a1) ia1 g11.1 g11.2, ?_⟩
      refine ⟨fun cq => ?_, fun cq => ?_⟩
      · have hv := hv.1 ((zlt (zrd (rfl : zi a1 = zi a1) ia1 g11.1) (by decide : (2 : Int32) = zi 2) (hJ _ _) (by decide : ir 2)).mp cq)
        exact vw_X12_text_70 ia1 ia2 hp hJ hv
      · have hv := hv.2 (fun q => cq ((zlt (zrd (rfl : zi a1 = zi a1) ia1 g11.1) (by decide : (2 : Int32) = zi 2) (hJ _ _) (by decide : ir 2)).mpr q))
        exact hp _ _ _ (by decide : ((-2) : Int32) = zi (-2)) (by decide : ir (-2)) hJ hv
def v_X12_fault (J : mJ) (o : Nat) (a1 : Int) (post' : Int → Prop) : Prop := (¬ a1 = 0 → (¬ a1 = 1 → post' (-1)) ∧ (a1 = 1 → post' (J (o + 1) 4))) ∧ (a1 = 0 → post' (J (o + 1) 3))
theorem vw_X12_fault {J : mJ} {o : Nat} {xa1 : Int32} {a1 : Int} (hJ : irm J)   (ea1 : xa1 = zi a1) (ia1 : ir a1) {post : Int32 → Prop} {post' : Int → Prop} (hp : ∀ (x : Int32) (r : Int), x = zi r → ir r → post' r → post x) (hv : v_X12_fault J o a1 post') : w_X12_fault (zz J) o xa1 post := by
  subst ea1
  unfold v_X12_fault at hv
  unfold w_X12_fault
  refine ⟨fun cq => ?_, fun cq => ?_⟩
  · have hv := hv.1 (fun q => cq ((zeq (rfl : zi a1 = zi a1) (by decide : (0 : Int32) = zi 0) ia1 (by decide : ir 0)).mpr q))
    refine ⟨fun cq => ?_, fun cq => ?_⟩
    · have hv := hv.1 (fun q => cq ((zeq (rfl : zi a1 = zi a1) (by decide : (1 : Int32) = zi 1) ia1 (by decide : ir 1)).mpr q))
      exact hp _ _ (by decide : ((-1) : Int32) = zi (-1)) (by decide : ir (-1)) hv
    · have hv := hv.2 ((zeq (rfl : zi a1 = zi a1) (by decide : (1 : Int32) = zi 1) ia1 (by decide : ir 1)).mp cq)
      exact hp _ _ (zrd (by decide : (4 : Int32) = zi 4) (by decide : ir 4) (by decide)) (hJ _ _) hv
  · have hv := hv.2 ((zeq (rfl : zi a1 = zi a1) (by decide : (0 : Int32) = zi 0) ia1 (by decide : ir 0)).mp cq)
    exact hp _ _ (zrd (by decide : (3 : Int32) = zi 3) (by decide : ir 3) (by decide)) (hJ _ _) hv
def v_X12_plain (J : mJ) (o : Nat) (post' : mJ → Prop) : Prop := ∀ J1, J1 = up2 J o 13 (-1) → ∀ J2, J2 = up2 J1 o 15 (-1) → ∀ J3, J3 = up2 J2 o 17 (-1) → ∀ J4, J4 = up2 J3 o 18 (-1) → ∀ J5, J5 = up2 J4 o 20 (-1) → ∀ J6, J6 = up2 J5 o 22 0 → post' J6
theorem vw_X12_plain {J : mJ} {o : Nat} (hJ : irm J)   {post : mI → Prop} {post' : mJ → Prop} (hp : ∀ (J1 : mJ), irm J1 → post' J1 → post (zz J1)) (hv : v_X12_plain J o post') : w_X12_plain (zz J) o post := by
  unfold v_X12_plain at hv
  unfold w_X12_plain
  intro I1 eI1
  obtain ⟨J1, eJ1⟩ : ∃ q9 : mJ, q9 = up2 J o 13 (-1) := ⟨_, rfl⟩
  have eI1 : I1 = zz J1 := by rw [eI1, eJ1]; exact zup (by decide : ((-1) : Int32) = zi (-1))
  subst eI1
  have hv := hv J1 eJ1
  have hJ : irm J1 := by rw [eJ1]; exact irm_up hJ (by decide : ir (-1))
  intro I1 eI1
  obtain ⟨J2, eJ2⟩ : ∃ q9 : mJ, q9 = up2 J1 o 15 (-1) := ⟨_, rfl⟩
  have eI1 : I1 = zz J2 := by rw [eI1, eJ2]; exact zup (by decide : ((-1) : Int32) = zi (-1))
  subst eI1
  have hv := hv J2 eJ2
  have hJ : irm J2 := by rw [eJ2]; exact irm_up hJ (by decide : ir (-1))
  intro I1 eI1
  obtain ⟨J3, eJ3⟩ : ∃ q9 : mJ, q9 = up2 J2 o 17 (-1) := ⟨_, rfl⟩
  have eI1 : I1 = zz J3 := by rw [eI1, eJ3]; exact zup (by decide : ((-1) : Int32) = zi (-1))
  subst eI1
  have hv := hv J3 eJ3
  have hJ : irm J3 := by rw [eJ3]; exact irm_up hJ (by decide : ir (-1))
  intro I1 eI1
  obtain ⟨J4, eJ4⟩ : ∃ q9 : mJ, q9 = up2 J3 o 18 (-1) := ⟨_, rfl⟩
  have eI1 : I1 = zz J4 := by rw [eI1, eJ4]; exact zup (by decide : ((-1) : Int32) = zi (-1))
  subst eI1
  have hv := hv J4 eJ4
  have hJ : irm J4 := by rw [eJ4]; exact irm_up hJ (by decide : ir (-1))
  intro I1 eI1
  obtain ⟨J5, eJ5⟩ : ∃ q9 : mJ, q9 = up2 J4 o 20 (-1) := ⟨_, rfl⟩
  have eI1 : I1 = zz J5 := by rw [eI1, eJ5]; exact zup (by decide : ((-1) : Int32) = zi (-1))
  subst eI1
  have hv := hv J5 eJ5
  have hJ : irm J5 := by rw [eJ5]; exact irm_up hJ (by decide : ir (-1))
  intro I1 eI1
  obtain ⟨J6, eJ6⟩ : ∃ q9 : mJ, q9 = up2 J5 o 22 0 := ⟨_, rfl⟩
  have eI1 : I1 = zz J6 := by rw [eI1, eJ6]; exact zup (by decide : (0 : Int32) = zi 0)
  subst eI1
  have hv := hv J6 eJ6
  have hJ : irm J6 := by rw [eJ6]; exact irm_up hJ (by decide : ir 0)
  exact hp _ hJ hv
def v_X12_isHouse (J : mJ) (o : Nat) (a1 : Int) (post' : Bool → mJ → Prop) : Prop := v_X12_isOf J o 0 a1 (fun b1 => (b1 = true → v_X12_placeOf 0 a1 (fun r2 => ∀ J3, J3 = up2 J o 12 r2 → v_X12_plain J3 o (fun J4 => post' true J4))) ∧ (b1 = false → post' false J))
theorem vw_X12_isHouse {J : mJ} {o : Nat} {xa1 : Int32} {a1 : Int} (hJ : irm J)   (ea1 : xa1 = zi a1) (ia1 : ir a1) {post : Bool → mI → Prop} {post' : Bool → mJ → Prop} (hp : ∀ (r : Bool) (J1 : mJ), irm J1 → post' r J1 → post r (zz J1)) (hv : v_X12_isHouse J o a1 post') : w_X12_isHouse (zz J) o xa1 post := by
  subst ea1
  unfold v_X12_isHouse at hv
  unfold w_X12_isHouse
  refine vw_X12_isOf hJ (by decide : (0 : Int32) = zi 0) (by decide : ir 0) (rfl : zi a1 = zi a1) ia1 (fun b1  hv => ?_) hv
  refine ⟨fun cq => ?_, fun cq => ?_⟩
  · have hv := hv.1 cq
    refine vw_X12_placeOf (by decide : (0 : Int32) = zi 0) (by decide : ir 0) (rfl : zi a1 = zi a1) ia1 (fun xr2 r2 Er2 Ir2 hv => ?_) hv
    intro I1 eI1
    obtain ⟨J3, eJ3⟩ : ∃ q9 : mJ, q9 = up2 J o 12 r2 := ⟨_, rfl⟩
    have eI1 : I1 = zz J3 := by rw [eI1, eJ3]; exact zup Er2
    subst eI1
    have hv := hv J3 eJ3
    have hJ : irm J3 := by rw [eJ3]; exact irm_up hJ Ir2
    refine vw_X12_plain hJ  (fun J4 hJ hv => ?_) hv
    exact hp _ _ hJ hv
  · have hv := hv.2 cq
    exact hp _ _ hJ hv
def v_X12_of (J : mJ) (o : Nat) (a1 : Int) (post' : Int → Prop) : Prop := ir ((J o 12) + a1) ∧ (0 ≤ ((J o 12) + a1) ∧ ((J o 12) + a1) < 3960) ∧ post' (J (o + 1) ((J o 12) + a1).toNat)
theorem vw_X12_of {J : mJ} {o : Nat} {xa1 : Int32} {a1 : Int} (hJ : irm J)   (ea1 : xa1 = zi a1) (ia1 : ir a1) {post : Int32 → Prop} {post' : Int → Prop} (hp : ∀ (x : Int32) (r : Int), x = zi r → ir r → post' r → post x) (hv : v_X12_of J o a1 post') : w_X12_of (zz J) o xa1 post := by
  subst ea1
  unfold v_X12_of at hv
  unfold w_X12_of
  obtain ⟨g1, hv⟩ := hv
  obtain ⟨g2, hv⟩ := hv
  refine ⟨zvp (za zrf (rfl : zi a1 = zi a1)) g1 g2.1 g2.2, ?_⟩
  exact hp _ _ (zrd (za zrf (rfl : zi a1 = zi a1)) g1 g2.1) (hJ _ _) hv
def v_X12_people (J : mJ) (o : Nat) (post' : Int → Prop) : Prop := v_X12_of J o 3 (fun r1 => post' r1)
theorem vw_X12_people {J : mJ} {o : Nat} (hJ : irm J)   {post : Int32 → Prop} {post' : Int → Prop} (hp : ∀ (x : Int32) (r : Int), x = zi r → ir r → post' r → post x) (hv : v_X12_people J o post') : w_X12_people (zz J) o post := by
  unfold v_X12_people at hv
  unfold w_X12_people
  refine vw_X12_of hJ (by decide : (3 : Int32) = zi 3) (by decide : ir 3) (fun xr1 r1 Er1 Ir1 hv => ?_) hv
  exact hp _ _ Er1 Ir1 hv
def v_X12_flats (J : mJ) (o : Nat) (post' : Int → Prop) : Prop := v_X12_of J o 2 (fun r1 => post' r1)
theorem vw_X12_flats {J : mJ} {o : Nat} (hJ : irm J)   {post : Int32 → Prop} {post' : Int → Prop} (hp : ∀ (x : Int32) (r : Int), x = zi r → ir r → post' r → post x) (hv : v_X12_flats J o post') : w_X12_flats (zz J) o post := by
  unfold v_X12_flats at hv
  unfold w_X12_flats
  refine vw_X12_of hJ (by decide : (2 : Int32) = zi 2) (by decide : ir 2) (fun xr1 r1 Er1 Ir1 hv => ?_) hv
  exact hp _ _ Er1 Ir1 hv
def v_X12_told (J : mJ) (o : Nat) (a1 : Int) (a2 : Int) (post' : Int → Prop) : Prop := ir ((J o 12) + 41) ∧ ir (14 * a1) ∧ ir (((J o 12) + 41) + (14 * a1)) ∧ ir ((((J o 12) + 41) + (14 * a1)) + a2) ∧ (0 ≤ ((((J o 12) + 41) + (14 * a1)) + a2) ∧ ((((J o 12) + 41) + (14 * a1)) + a2) < 3960) ∧ post' (J (o + 1) ((((J o 12) + 41) + (14 * a1)) + a2).toNat)
theorem vw_X12_told {J : mJ} {o : Nat} {xa1 : Int32} {a1 : Int} {xa2 : Int32} {a2 : Int} (hJ : irm J)   (ea1 : xa1 = zi a1) (ia1 : ir a1) (ea2 : xa2 = zi a2) (ia2 : ir a2) {post : Int32 → Prop} {post' : Int → Prop} (hp : ∀ (x : Int32) (r : Int), x = zi r → ir r → post' r → post x) (hv : v_X12_told J o a1 a2 post') : w_X12_told (zz J) o xa1 xa2 post := by
  subst ea1
  subst ea2
  unfold v_X12_told at hv
  unfold w_X12_told
  obtain ⟨g1, hv⟩ := hv
  obtain ⟨g2, hv⟩ := hv
  obtain ⟨g3, hv⟩ := hv
  obtain ⟨g4, hv⟩ := hv
  obtain ⟨g5, hv⟩ := hv
  refine ⟨zvp (za (za (za zrf (by decide : (41 : Int32) = zi 41)) (zm (by decide : (14 : Int32) = zi 14) (rfl : zi a1 = zi a1))) (rfl : zi a2 = zi a2)) g4 g5.1 g5.2, ?_⟩
  exact hp _ _ (zrd (za (za (za zrf (by decide : (41 : Int32) = zi 41)) (zm (by decide : (14 : Int32) = zi 14) (rfl : zi a1 = zi a1))) (rfl : zi a2 = zi a2)) g4 g5.1) (hJ _ _) hv
def v_X12_isPerson (J : mJ) (o : Nat) (a1 : Int) (post' : Bool → Prop) : Prop := v_X12_people J o (fun r1 => ir (r1 - 1) ∧ v_X12_isIn a1 0 (r1 - 1) (fun b3 => post' b3))
theorem vw_X12_isPerson {J : mJ} {o : Nat} {xa1 : Int32} {a1 : Int} (hJ : irm J)   (ea1 : xa1 = zi a1) (ia1 : ir a1) {post : Bool → Prop} {post' : Bool → Prop} (hp : ∀ (r : Bool), post' r → post r) (hv : v_X12_isPerson J o a1 post') : w_X12_isPerson (zz J) o xa1 post := by
  subst ea1
  unfold v_X12_isPerson at hv
  unfold w_X12_isPerson
  refine vw_X12_people hJ  (fun xr1 r1 Er1 Ir1 hv => ?_) hv
  obtain ⟨g2, hv⟩ := hv
  refine vw_X12_isIn (rfl : zi a1 = zi a1) ia1 (by decide : (0 : Int32) = zi 0) (by decide : ir 0) (zs Er1 (by decide : (1 : Int32) = zi 1)) g2 (fun b3  hv => ?_) hv
  exact hp _ hv
def v_X12_isStep (J : mJ) (o : Nat) (a1 : Int) (post' : Bool → Prop) : Prop := v_X12_of J o 0 (fun r1 => ir (r1 - 1) ∧ v_X12_isIn a1 0 (r1 - 1) (fun b3 => post' b3))
theorem vw_X12_isStep {J : mJ} {o : Nat} {xa1 : Int32} {a1 : Int} (hJ : irm J)   (ea1 : xa1 = zi a1) (ia1 : ir a1) {post : Bool → Prop} {post' : Bool → Prop} (hp : ∀ (r : Bool), post' r → post r) (hv : v_X12_isStep J o a1 post') : w_X12_isStep (zz J) o xa1 post := by
  subst ea1
  unfold v_X12_isStep at hv
  unfold w_X12_isStep
  refine vw_X12_of hJ (by decide : (0 : Int32) = zi 0) (by decide : ir 0) (fun xr1 r1 Er1 Ir1 hv => ?_) hv
  obtain ⟨g2, hv⟩ := hv
  refine vw_X12_isIn (rfl : zi a1 = zi a1) ia1 (by decide : (0 : Int32) = zi 0) (by decide : ir 0) (zs Er1 (by decide : (1 : Int32) = zi 1)) g2 (fun b3  hv => ?_) hv
  exact hp _ hv
def v_X12_isFlat (J : mJ) (o : Nat) (a1 : Int) (post' : Bool → Prop) : Prop := v_X12_flats J o (fun r1 => ir (r1 - 1) ∧ v_X12_isIn a1 0 (r1 - 1) (fun b3 => post' b3))
theorem vw_X12_isFlat {J : mJ} {o : Nat} {xa1 : Int32} {a1 : Int} (hJ : irm J)   (ea1 : xa1 = zi a1) (ia1 : ir a1) {post : Bool → Prop} {post' : Bool → Prop} (hp : ∀ (r : Bool), post' r → post r) (hv : v_X12_isFlat J o a1 post') : w_X12_isFlat (zz J) o xa1 post := by
  subst ea1
  unfold v_X12_isFlat at hv
  unfold w_X12_isFlat
  refine vw_X12_flats hJ  (fun xr1 r1 Er1 Ir1 hv => ?_) hv
  obtain ⟨g2, hv⟩ := hv
  refine vw_X12_isIn (rfl : zi a1 = zi a1) ia1 (by decide : (0 : Int32) = zi 0) (by decide : ir 0) (zs Er1 (by decide : (1 : Int32) = zi 1)) g2 (fun b3  hv => ?_) hv
  exact hp _ hv
def v_X12_isMinute (o : Nat) (a1 : Int) (post' : Bool → Prop) : Prop := v_X12_isIn a1 0 99 (fun b1 => post' b1)
theorem vw_X12_isMinute {o : Nat} {xa1 : Int32} {a1 : Int}   (ea1 : xa1 = zi a1) (ia1 : ir a1) {post : Bool → Prop} {post' : Bool → Prop} (hp : ∀ (r : Bool), post' r → post r) (hv : v_X12_isMinute o a1 post') : w_X12_isMinute o xa1 post := by
  subst ea1
  unfold v_X12_isMinute at hv
  unfold w_X12_isMinute
  refine vw_X12_isIn (rfl : zi a1 = zi a1) ia1 (by decide : (0 : Int32) = zi 0) (by decide : ir 0) (by decide : (99 : Int32) = zi 99) (by decide : ir 99) (fun b1  hv => ?_) hv
  exact hp _ hv
