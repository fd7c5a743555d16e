def v_X11_tread (J : mJ) (a1 : Int) (a2 : Int) (a3 : Int) (post' : Int → mJ → Prop) : Prop := v_X11_eveningAt J a1 (fun r1 J2 => (r1 = none → post' (-2) J2) ∧ (∀ q3 : Nat, r1 = some q3 → (¬ a2 = (-1) → (a3 = 0 → v_X11_pick J2 (q3 + 1) 600 a2 (J2 q3 2) (-2) (fun r4 => post' r4 J2)) ∧ (a3 = 1 → v_X11_pick J2 (q3 + 2) 600 a2 (J2 q3 2) (-2) (fun r5 => post' r5 J2)) ∧ (a3 = 2 → v_X11_pick J2 (q3 + 3) 600 a2 (J2 q3 2) (-2) (fun r6 => post' r6 J2)) ∧ (a3 = 3 → v_X11_pick J2 (q3 + 4) 600 a2 (J2 q3 2) (-2) (fun r7 => post' r7 J2)) ∧ (a3 = 4 → v_X11_pick J2 (q3 + 5) 600 a2 (J2 q3 2) (-2) (fun r8 => post' r8 J2)) ∧ (a3 = 5 → v_X11_pick J2 (q3 + 6) 600 a2 (J2 q3 2) (-2) (fun r9 => post' r9 J2)) ∧ (a3 = 6 → v_X11_pick J2 (q3 + 7) 600 a2 (J2 q3 2) (-2) (fun r10 => post' r10 J2)) ∧ (a3 = 7 → v_X11_pick J2 (q3 + 8) 600 a2 (J2 q3 2) (-2) (fun r11 => post' r11 J2)) ∧ (¬ a3 = 0 → ¬ a3 = 1 → ¬ a3 = 2 → ¬ a3 = 3 → ¬ a3 = 4 → ¬ a3 = 5 → ¬ a3 = 6 → ¬ a3 = 7 → post' (-2) J2)) ∧ (a2 = (-1) → (¬ a3 = 0 → post' (-2) J2) ∧ (a3 = 0 → post' (J2 q3 2) J2))))
theorem vw_X11_tread {J : mJ} {xa1 : Int32} {a1 : Int} {xa2 : Int32} {a2 : Int} {xa3 : Int32} {a3 : Int} (hJ : irm J)  (ea1 : xa1 = zi a1) (ia1 : ir a1) (ea2 : xa2 = zi a2) (ia2 : ir a2) (ea3 : xa3 = zi a3) (ia3 : ir a3) {post : Int32 → mI → Prop} {post' : Int → mJ → Prop} (hp : ∀ (x : Int32) (r : Int) (J1 : mJ), x = zi r → ir r → irm J1 → post' r J1 → post x (zz J1)) (hv : v_X11_tread J a1 a2 a3 post') : w_X11_tread (zz J) xa1 xa2 xa3 post := by
  subst ea1
  subst ea2
  subst ea3
  unfold v_X11_tread at hv
  unfold w_X11_tread
  refine vw_X11_eveningAt hJ (rfl : zi a1 = zi a1) ia1 (fun r1 J2 hJ hv => ?_) hv
  refine ⟨fun cq => ?_, fun q3 cq => ?_⟩
  · have hv := hv.1 cq
    exact hp _ _ _ (by decide : ((-2) : Int32) = zi (-2)) (by decide : ir (-2)) hJ hv
  · have hv := hv.2 q3 cq
    refine ⟨fun cq => ?_, fun cq => ?_⟩
    · have hv := hv.1 (fun q => cq ((zeq (rfl : zi a2 = zi a2) (by decide : ((-1) : Int32) = zi (-1)) ia2 (by decide : ir (-1))).mpr q))
      refine ⟨fun cq => ?_, fun cq => ?_, fun cq => ?_, fun cq => ?_, fun cq => ?_, fun cq => ?_, fun cq => ?_, fun cq => ?_, fun c0 c1 c2 c3 c4 c5 c6 c7 => ?_⟩
      · have hv := hv.1 ((zeq (rfl : zi a3 = zi a3) (by decide : (0 : Int32) = zi 0) ia3 (by decide : ir 0)).mp cq)
        refine vw_X11_pick hJ (rfl : zi a2 = zi a2) ia2 zrf (hJ _ _) (by decide : ((-2) : Int32) = zi (-2)) (by decide : ir (-2)) (fun xr4 r4 Er4 Ir4 hv => ?_) hv
        exact hp _ _ _ Er4 Ir4 hJ hv
      · have hv := hv.2.1 ((zeq (rfl : zi a3 = zi a3) (by decide : (1 : Int32) = zi 1) ia3 (by decide : ir 1)).mp cq)
        refine vw_X11_pick hJ (rfl : zi a2 = zi a2) ia2 zrf (hJ _ _) (by decide : ((-2) : Int32) = zi (-2)) (by decide : ir (-2)) (fun xr5 r5 Er5 Ir5 hv => ?_) hv
        exact hp _ _ _ Er5 Ir5 hJ hv
      · have hv := hv.2.2.1 ((zeq (rfl : zi a3 = zi a3) (by decide : (2 : Int32) = zi 2) ia3 (by decide : ir 2)).mp cq)
        refine vw_X11_pick hJ (rfl : zi a2 = zi a2) ia2 zrf (hJ _ _) (by decide : ((-2) : Int32) = zi (-2)) (by decide : ir (-2)) (fun xr6 r6 Er6 Ir6 hv => ?_) hv
        exact hp _ _ _ Er6 Ir6 hJ hv
      · have hv := hv.2.2.2.1 ((zeq (rfl : zi a3 = zi a3) (by decide : (3 : Int32) = zi 3) ia3 (by decide : ir 3)).mp cq)
        refine vw_X11_pick hJ (rfl : zi a2 = zi a2) ia2 zrf (hJ _ _) (by decide : ((-2) : Int32) = zi (-2)) (by decide : ir (-2)) (fun xr7 r7 Er7 Ir7 hv => ?_) hv
        exact hp _ _ _ Er7 Ir7 hJ hv
      · have hv := hv.2.2.2.2.1 ((zeq (rfl : zi a3 = zi a3) (by decide : (4 : Int32) = zi 4) ia3 (by decide : ir 4)).mp cq)
        refine vw_X11_pick hJ (rfl : zi a2 = zi a2) ia2 zrf (hJ _ _) (by decide : ((-2) : Int32) = zi (-2)) (by decide : ir (-2)) (fun xr8 r8 Er8 Ir8 hv => ?_) hv
        exact hp _ _ _ Er8 Ir8 hJ hv
      · have hv := hv.2.2.2.2.2.1 ((zeq (rfl : zi a3 = zi a3) (by decide : (5 : Int32) = zi 5) ia3 (by decide : ir 5)).mp cq)
        refine vw_X11_pick hJ (rfl : zi a2 = zi a2) ia2 zrf (hJ _ _) (by decide : ((-2) : Int32) = zi (-2)) (by decide : ir (-2)) (fun xr9 r9 Er9 Ir9 hv => ?_) hv
        exact hp _ _ _ Er9 Ir9 hJ hv
      · have hv := hv.2.2.2.2.2.2.1 ((zeq (rfl : zi a3 = zi a3) (by decide : (6 : Int32) = zi 6) ia3 (by decide : ir 6)).mp cq)
        refine vw_X11_pick hJ (rfl : zi a2 = zi a2) ia2 zrf (hJ _ _) (by decide : ((-2) : Int32) = zi (-2)) (by decide : ir (-2)) (fun xr10 r10 Er10 Ir10 hv => ?_) hv
        exact hp _ _ _ Er10 Ir10 hJ hv
      · have hv := hv.2.2.2.2.2.2.2.1 ((zeq (rfl : zi a3 = zi a3) (by decide : (7 : Int32) = zi 7) ia3 (by decide : ir 7)).mp cq)
        refine vw_X11_pick hJ (rfl : zi a2 = zi a2) ia2 zrf (hJ _ _) (by decide : ((-2) : Int32) = zi (-2)) (by decide : ir (-2)) (fun xr11 r11 Er11 Ir11 hv => ?_) hv
        exact hp _ _ _ Er11 Ir11 hJ hv
      · have hv := hv.2.2.2.2.2.2.2.2 (fun q => c0 ((zeq (rfl : zi a3 = zi a3) (by decide : (0 : Int32) = zi 0) ia3 (by decide : ir 0)).mpr q)) (fun q => c1 ((zeq (rfl : zi a3 = zi a3) (by decide : (1 : Int32) = zi 1) ia3 (by decide : ir 1)).mpr q)) (fun q => c2 ((zeq (rfl : zi a3 = zi a3) (by decide : (2 : Int32) = zi 2) ia3 (by decide : ir 2)).mpr q)) (fun q => c3 ((zeq (rfl : zi a3 = zi a3) (by decide : (3 : Int32) = zi 3) ia3 (by decide : ir 3)).mpr q)) (fun q => c4 ((zeq (rfl : zi a3 = zi a3) (by decide : (4 : Int32) = zi 4) ia3 (by decide : ir 4)).mpr q)) (fun q => c5 ((zeq (rfl : zi a3 = zi a3) (by decide : (5 : Int32) = zi 5) ia3 (by decide : ir 5)).mpr q)) (fun q => c6 ((zeq (rfl : zi a3 = zi a3) (by decide : (6 : Int32) = zi 6) ia3 (by decide : ir 6)).mpr q)) (fun q => c7 ((zeq (rfl : zi a3 = zi a3) (by decide : (7 : Int32) = zi 7) ia3 (by decide : ir 7)).mpr q))
        exact hp _ _ _ (by decide : ((-2) : Int32) = zi (-2)) (by decide : ir (-2)) hJ hv
    · have hv := hv.2 ((zeq (rfl : zi a2 = zi a2) (by decide : ((-1) : Int32) = zi (-1)) ia2 (by decide : ir (-1))).mp cq)
      refine ⟨fun cq => ?_, fun cq => ?_⟩
      · have hv := hv.1 (fun q => cq ((zeq (rfl : zi a3 = zi a3) (by decide : (0 : Int32) = zi 0) ia3 (by decide : ir 0)).mpr q))
        exact hp _ _ _ (by decide : ((-2) : Int32) = zi (-2)) (by decide : ir (-2)) hJ hv
      · have hv := hv.2 ((zeq (rfl : zi a3 = zi a3) (by decide : (0 : Int32) = zi 0) ia3 (by decide : ir 0)).mp cq)
        exact hp _ _ _ zrf (hJ _ _) hJ hv
def v_X11_where (J : mJ) (a1 : Int) (a2 : Int) (a3 : Int) (post' : Int → mJ → Prop) : Prop := v_X11_eveningAt J a1 (fun r1 J2 => (r1 = none → post' (-2) J2) ∧ (∀ q3 : Nat, r1 = some q3 → v_X3_hasPerson J2 (hE q3) a2 (fun b4 => (b4 = false → post' (-2) J2) ∧ (b4 = true → (a3 < 0 → post' (-2) J2) ∧ (¬ a3 < 0 → (a3 < 100 → v_X2_spotAt J2 q3 (hE q3) a2 a3 (fun r5 => post' r5 J2)) ∧ (¬ a3 < 100 → post' (-2) J2))))))
theorem vw_X11_where {J : mJ} {xa1 : Int32} {a1 : Int} {xa2 : Int32} {a2 : Int} {xa3 : Int32} {a3 : Int} (hJ : irm J)  (ea1 : xa1 = zi a1) (ia1 : ir a1) (ea2 : xa2 = zi a2) (ia2 : ir a2) (ea3 : xa3 = zi a3) (ia3 : ir a3) {post : Int32 → mI → Prop} {post' : Int → mJ → Prop} (hp : ∀ (x : Int32) (r : Int) (J1 : mJ), x = zi r → ir r → irm J1 → post' r J1 → post x (zz J1)) (hv : v_X11_where J a1 a2 a3 post') : w_X11_where (zz J) xa1 xa2 xa3 post := by
  subst ea1
  subst ea2
  subst ea3
  unfold v_X11_where at hv
  unfold w_X11_where
  refine vw_X11_eveningAt hJ (rfl : zi a1 = zi a1) ia1 (fun r1 J2 hJ hv => ?_) hv
  refine ⟨fun cq => ?_, fun q3 cq => ?_⟩
  · have hv := hv.1 cq
    exact hp _ _ _ (by decide : ((-2) : Int32) = zi (-2)) (by decide : ir (-2)) hJ hv
  · have hv := hv.2 q3 cq
    refine vw_X3_hasPerson hJ (rfl : zi a2 = zi a2) ia2 (fun b4  hv => ?_) hv
    refine ⟨fun cq => ?_, fun cq => ?_⟩
    · have hv := hv.1 cq
      exact hp _ _ _ (by decide : ((-2) : Int32) = zi (-2)) (by decide : ir (-2)) hJ hv
    · have hv := hv.2 cq
      refine ⟨fun cq => ?_, fun cq => ?_⟩
      · have hv := hv.1 ((zlt (rfl : zi a3 = zi a3) (by decide : (0 : Int32) = zi 0) ia3 (by decide : ir 0)).mp cq)
        exact hp _ _ _ (by decide : ((-2) : Int32) = zi (-2)) (by decide : ir (-2)) hJ hv
      · have hv := hv.2 (fun q => cq ((zlt (rfl : zi a3 = zi a3) (by decide : (0 : Int32) = zi 0) ia3 (by decide : ir 0)).mpr q))
        refine ⟨fun cq => ?_, fun cq => ?_⟩
        · have hv := hv.1 ((zlt (rfl : zi a3 = zi a3) (by decide : (100 : Int32) = zi 100) ia3 (by decide : ir 100)).mp cq)
          refine vw_X2_spotAt hJ (rfl : zi a2 = zi a2) ia2 (rfl : zi a3 = zi a3) ia3 (fun xr5 r5 Er5 Ir5 hv => ?_) hv
          exact hp _ _ _ Er5 Ir5 hJ hv
        · have hv := hv.2 (fun q => cq ((zlt (rfl : zi a3 = zi a3) (by decide : (100 : Int32) = zi 100) ia3 (by decide : ir 100)).mpr q))
          exact hp _ _ _ (by decide : ((-2) : Int32) = zi (-2)) (by decide : ir (-2)) hJ hv
def v_X11_note (J : mJ) (a1 : Int) (a2 : Int) (a3 : Int) (a4 : Int) (post' : Int → mJ → Prop) : Prop := v_X11_eveningAt J a1 (fun r1 J2 => (r1 = none → post' (-2) J2) ∧ (∀ q3 : Nat, r1 = some q3 → v_X3_hasFlat J2 (hE q3) a2 (fun b4 => (b4 = true → (¬ a3 = (-1) → v_X2_noteNumber J2 q3 (hE q3) a2 a3 (fun r5 => (¬ r5 = (-1) → (a4 = 0 → post' r5 J2) ∧ (a4 = 1 → (0 ≤ r5 ∧ r5 < 600) ∧ v_X11_has (J2 (q3 + 7) r5.toNat) a2 (fun b7 => (b7 = false → post' (-1) J2) ∧ (b7 = true → (0 ≤ r5 ∧ r5 < 600) ∧ post' (J2 (q3 + 4) r5.toNat) J2))) ∧ (a4 = 2 → v_X2_echoShoe J2 q3 (hE q3) r5 a2 (fun r9 => post' r9 J2)) ∧ (a4 = 3 → v_X2_isGhost J2 q3 (hE q3) r5 a2 (fun b10 => (b10 = false → post' 0 J2) ∧ (b10 = true → post' 1 J2))) ∧ (¬ a4 = 0 → ¬ a4 = 1 → ¬ a4 = 2 → ¬ a4 = 3 → post' (-2) J2)) ∧ (r5 = (-1) → post' (-2) J2))) ∧ (a3 = (-1) → (¬ a4 = 0 → (¬ a4 = 1 → post' (-2) J2) ∧ (a4 = 1 → v_X2_ghostCount J2 q3 (hE q3) a2 (fun r11 => post' r11 J2))) ∧ (a4 = 0 → v_X2_noteCount J2 q3 (hE q3) a2 (fun r12 => post' r12 J2)))) ∧ (b4 = false → post' (-2) J2))))
theorem vw_X11_note {J : mJ} {xa1 : Int32} {a1 : Int} {xa2 : Int32} {a2 : Int} {xa3 : Int32} {a3 : Int} {xa4 : Int32} {a4 : Int} (hJ : irm J)  (ea1 : xa1 = zi a1) (ia1 : ir a1) (ea2 : xa2 = zi a2) (ia2 : ir a2) (ea3 : xa3 = zi a3) (ia3 : ir a3) (ea4 : xa4 = zi a4) (ia4 : ir a4) {post : Int32 → mI → Prop} {post' : Int → mJ → Prop} (hp : ∀ (x : Int32) (r : Int) (J1 : mJ), x = zi r → ir r → irm J1 → post' r J1 → post x (zz J1)) (hv : v_X11_note J a1 a2 a3 a4 post') : w_X11_note (zz J) xa1 xa2 xa3 xa4 post := by
  subst ea1
  subst ea2
  subst ea3
  subst ea4
  unfold v_X11_note at hv
  unfold w_X11_note
  refine vw_X11_eveningAt hJ (rfl : zi a1 = zi a1) ia1 (fun r1 J2 hJ hv => ?_) hv
  refine ⟨fun cq => ?_, fun q3 cq => ?_⟩
  · have hv := hv.1 cq
    exact hp _ _ _ (by decide : ((-2) : Int32) = zi (-2)) (by decide : ir (-2)) hJ hv
  · have hv := hv.2 q3 cq
    refine vw_X3_hasFlat hJ (rfl : zi a2 = zi a2) ia2 (fun b4  hv => ?_) hv
    refine ⟨fun cq => ?_, fun cq => ?_⟩
    · have hv := hv.1 cq
      refine ⟨fun cq => ?_, fun cq => ?_⟩
      · have hv := hv.1 (fun q => cq ((zeq (rfl : zi a3 = zi a3) (by decide : ((-1) : Int32) = zi (-1)) ia3 (by decide : ir (-1))).mpr q))
        refine vw_X2_noteNumber hJ (rfl : zi a2 = zi a2) ia2 (rfl : zi a3 = zi a3) ia3 (fun xr5 r5 Er5 Ir5 hv => ?_) hv
        refine ⟨fun cq => ?_, fun cq => ?_⟩
        · have hv := hv.1 (fun q => cq ((zeq Er5 (by decide : ((-1) : Int32) = zi (-1)) Ir5 (by decide : ir (-1))).mpr q))
          refine ⟨fun cq => ?_, fun cq => ?_, fun cq => ?_, fun cq => ?_, fun c0 c1 c2 c3 => ?_⟩
          · have hv := hv.1 ((zeq (rfl : zi a4 = zi a4) (by decide : (0 : Int32) = zi 0) ia4 (by decide : ir 0)).mp cq)
            exact hp _ _ _ Er5 Ir5 hJ hv
          · have hv := hv.2.1 ((zeq (rfl : zi a4 = zi a4) (by decide : (1 : Int32) = zi 1) ia4 (by decide : ir 1)).mp cq)
            obtain ⟨g6, hv⟩ := hv
            refine ⟨zvp Er5 Ir5 g6.1 g6.2, ?_⟩
            refine vw_X11_has (zrd Er5 Ir5 g6.1) (hJ _ _) (rfl : zi a2 = zi a2) ia2 (fun b7  hv => ?_) hv
            refine ⟨fun cq => ?_, fun cq => ?_⟩
            · have hv := hv.1 cq
              exact hp _ _ _ (by decide : ((-1) : Int32) = zi (-1)) (by decide : ir (-1)) hJ hv
            · have hv := hv.2 cq
              obtain ⟨g8, hv⟩ := hv
              refine ⟨zvp Er5 Ir5 g8.1 g8.2, ?_⟩
              exact hp _ _ _ (zrd Er5 Ir5 g8.1) (hJ _ _) hJ hv
          · have hv := hv.2.2.1 ((zeq (rfl : zi a4 = zi a4) (by decide : (2 : Int32) = zi 2) ia4 (by decide : ir 2)).mp cq)
            refine vw_X2_echoShoe hJ Er5 Ir5 (rfl : zi a2 = zi a2) ia2 (fun xr9 r9 Er9 Ir9 hv => ?_) hv
            exact hp _ _ _ Er9 Ir9 hJ hv
          · have hv := hv.2.2.2.1 ((zeq (rfl : zi a4 = zi a4) (by decide : (3 : Int32) = zi 3) ia4 (by decide : ir 3)).mp cq)
            refine vw_X2_isGhost hJ Er5 Ir5 (rfl : zi a2 = zi a2) ia2 (fun b10  hv => ?_) hv
            refine ⟨fun cq => ?_, fun cq => ?_⟩
            · have hv := hv.1 cq
              exact hp _ _ _ (by decide : (0 : Int32) = zi 0) (by decide : ir 0) hJ hv
            · have hv := hv.2 cq
              exact hp _ _ _ (by decide : (1 : Int32) = zi 1) (by decide : ir 1) hJ hv
          · have hv := hv.2.2.2.2 (fun q => c0 ((zeq (rfl : zi a4 = zi a4) (by decide : (0 : Int32) = zi 0) ia4 (by decide : ir 0)).mpr q)) (fun q => c1 ((zeq (rfl : zi a4 = zi a4) (by decide : (1 : Int32) = zi 1) ia4 (by decide : ir 1)).mpr q)) (fun q => c2 ((zeq (rfl : zi a4 = zi a4) (by decide : (2 : Int32) = zi 2) ia4 (by decide : ir 2)).mpr q)) (fun q => c3 ((zeq (rfl : zi a4 = zi a4) (by decide : (3 : Int32) = zi 3) ia4 (by decide : ir 3)).mpr q))
            exact hp _ _ _ (by decide : ((-2) : Int32) = zi (-2)) (by decide : ir (-2)) hJ hv
        · have hv := hv.2 ((zeq Er5 (by decide : ((-1) : Int32) = zi (-1)) Ir5 (by decide : ir (-1))).mp cq)
          exact hp _ _ _ (by decide : ((-2) : Int32) = zi (-2)) (by decide : ir (-2)) hJ hv
      · have hv := hv.2 ((zeq (rfl : zi a3 = zi a3) (by decide : ((-1) : Int32) = zi (-1)) ia3 (by decide : ir (-1))).mp cq)
        refine ⟨fun cq => ?_, fun cq => ?_⟩
        · have hv := hv.1 (fun q => cq ((zeq (rfl : zi a4 = zi a4) (by decide : (0 : Int32) = zi 0) ia4 (by decide : ir 0)).mpr q))
          refine ⟨fun cq => ?_, fun cq => ?_⟩
          · have hv := hv.1 (fun q => cq ((zeq (rfl : zi a4 = zi a4) (by decide : (1 : Int32) = zi 1) ia4 (by decide : ir 1)).mpr q))
            exact hp _ _ _ (by decide : ((-2) : Int32) = zi (-2)) (by decide : ir (-2)) hJ hv
          · have hv := hv.2 ((zeq (rfl : zi a4 = zi a4) (by decide : (1 : Int32) = zi 1) ia4 (by decide : ir 1)).mp cq)
            refine vw_X2_ghostCount hJ (rfl : zi a2 = zi a2) ia2 (fun xr11 r11 Er11 Ir11 hv => ?_) hv
            exact hp _ _ _ Er11 Ir11 hJ hv
        · have hv := hv.2 ((zeq (rfl : zi a4 = zi a4) (by decide : (0 : Int32) = zi 0) ia4 (by decide : ir 0)).mp cq)
          refine vw_X2_noteCount hJ (rfl : zi a2 = zi a2) ia2 (fun xr12 r12 Er12 Ir12 hv => ?_) hv
          exact hp _ _ _ Er12 Ir12 hJ hv
    · have hv := hv.2 cq
      exact hp _ _ _ (by decide : ((-2) : Int32) = zi (-2)) (by decide : ir (-2)) hJ hv
def v_X11_ends_92 (a1 : Int) (a2 : Int) (post' : Int → mJ → Prop) (k37' : mJ → Nat → Int → Int → Prop) (J : mJ) (q3 : Nat) (v4 : Int) (v5 : Int) : Prop := ∀ y12, y12 = (orZ v4 (shlZ 1 v5)) → ir (v5 + 1) ∧ ∀ y14, y14 = v5 + 1 → k37' J q3 y12 y14
theorem vw_X11_ends_92 {a1 : Int} {a2 : Int}  (ia1 : ir a1) (ia2 : ir a2) {post : Int32 → mI → Prop} {post' : Int → mJ → Prop} {k37' : mJ → Nat → Int → Int → Prop} {k37 : mI → Nat → Int32 → Int32 → Prop} (hp : ∀ (x : Int32) (r : Int) (J1 : mJ), x = zi r → ir r → irm J1 → post' r J1 → post x (zz J1)) (hk37 : ∀ (J : mJ) (q3 : Nat) (xv4 : Int32) (v4 : Int) (xv5 : Int32) (v5 : Int), irm J → xv4 = zi v4 → ir v4 → xv5 = zi v5 → ir v5 → k37' J q3 v4 v5 → k37 (zz J) q3 xv4 xv5) {J : mJ} {q3 : Nat} {xv4 : Int32} {v4 : Int} {xv5 : Int32} {v5 : Int} (hJ : irm J) (ev4 : xv4 = zi v4) (iv4 : ir v4) (ev5 : xv5 = zi v5) (iv5 : ir v5) (hv : v_X11_ends_92 a1 a2 post' k37' J q3 v4 v5) : w_X11_ends_92 (zi a1) (zi a2) post k37 (zz J) q3 xv4 xv5 := by
  subst ev4
  subst ev5
  unfold v_X11_ends_92 at hv
  unfold w_X11_ends_92
  intro xy12 exy12
  obtain ⟨y12, eyy12⟩ : ∃ q9 : Int, q9 = (orZ v4 (shlZ 1 v5)) := ⟨_, rfl⟩
  have hv := hv y12 eyy12
  have Ey12 : xy12 = zi y12 := exy12.trans (((z_or (rfl : zi v4 = zi v4) (z_shl (by decide : (1 : Int32) = zi 1) (rfl : zi v5 = zi v5)))).trans (congrArg zi eyy12.symm))
  have Iy12 : ir y12 := by rw [eyy12]; exact (ir_toInt _)
  clear exy12
  obtain ⟨g13, hv⟩ := hv
  intro xy14 exy14
  obtain ⟨y14, eyy14⟩ : ∃ q9 : Int, q9 = v5 + 1 := ⟨_, rfl⟩
  have hv := hv y14 eyy14
  have Ey14 : xy14 = zi y14 := exy14.trans (((za (rfl : zi v5 = zi v5) (by decide : (1 : Int32) = zi 1))).trans (congrArg zi eyy14.symm))
  have Iy14 : ir y14 := by rw [eyy14]; exact g13
  clear exy14
  exact hk37 _ _ _ _ _ _ hJ Ey12 Iy12 Ey14 Iy14 hv
def v_X11_ends_37 (a1 : Int) (a2 : Int) (post' : Int → mJ → Prop) (J : mJ) (q3 : Nat) (v4 : Int) (v5 : Int) : Prop := ∀ ZZ : (mJ → Nat → Int → Int → Prop), (∀ (J : mJ) (q3 : Nat) (v4 : Int) (v5 : Int), (((J (hE q3) 3) ≤ v5 → post' v4 J) ∧ (¬ (J (hE q3) 3) ≤ v5 → (0 ≤ v5 ∧ v5 < 6) ∧ ∀ y6, y6 = (J ((hE q3) + 8) v5.toNat) → v_X2_spotAt J q3 (hE q3) v5 99 (fun r7 => (¬ a2 = 0 → (y6 ≤ r7 → ir (v5 + 1) ∧ ∀ y9, y9 = v5 + 1 → ZZ J q3 v4 y9) ∧ (¬ y6 ≤ r7 → (v_X11_ends_92 a1 a2 post' ZZ) J q3 v4 v5)) ∧ (a2 = 0 → (r7 ≤ y6 → ir (v5 + 1) ∧ ∀ y11, y11 = v5 + 1 → ZZ J q3 v4 y11) ∧ (¬ r7 ≤ y6 → (v_X11_ends_92 a1 a2 post' ZZ) J q3 v4 v5))))) → ZZ J q3 v4 v5) → ZZ J q3 v4 v5
theorem vw_X11_ends_37 {a1 : Int} {a2 : Int}  (ia1 : ir a1) (ia2 : ir a2) {post : Int32 → mI → Prop} {post' : Int → mJ → Prop} (hp : ∀ (x : Int32) (r : Int) (J1 : mJ), x = zi r → ir r → irm J1 → post' r J1 → post x (zz J1)) {J : mJ} {q3 : Nat} {xv4 : Int32} {v4 : Int} {xv5 : Int32} {v5 : Int} (hJ : irm J) (ev4 : xv4 = zi v4) (iv4 : ir v4) (ev5 : xv5 = zi v5) (iv5 : ir v5) (hv : v_X11_ends_37 a1 a2 post' J q3 v4 v5) : w_X11_ends_37 (zi a1) (zi a2) post (zz J) q3 xv4 xv5 := by
  subst ev4
  subst ev5
  unfold v_X11_ends_37 at hv
  unfold w_X11_ends_37
  intro ZZ hZ
  refine hv (fun J q3 v4 v5 => ∀ (xv4 : Int32) (xv5 : Int32), irm J → xv4 = zi v4 → ir v4 → xv5 = zi v5 → ir v5 → ZZ (zz J) q3 xv4 xv5) ?_ _ _ hJ rfl iv4 rfl iv5
  clear hv hJ iv4 iv5
  intro J q3 v4 v5 hv xv4 xv5 hJ ev4 iv4 ev5 iv5
  subst ev4
  subst ev5
  refine hZ _ _ _ _ ?_
  refine ⟨fun cq => ?_, fun cq => ?_⟩
  · have hv := hv.1 ((zle zrf (rfl : zi v5 = zi v5) (hJ _ _) iv5).mp cq)
    exact hp _ _ _ (rfl : zi v4 = zi v4) iv4 hJ hv
  · have hv := hv.2 (fun q => cq ((zle zrf (rfl : zi v5 = zi v5) (hJ _ _) iv5).mpr q))
    obtain ⟨g5, hv⟩ := hv
    refine ⟨zvp (rfl : zi v5 = zi v5) iv5 g5.1 g5.2, ?_⟩
    intro xy6 exy6
    obtain ⟨y6, eyy6⟩ : ∃ q9 : Int, q9 = (J ((hE q3) + 8) v5.toNat) := ⟨_, rfl⟩
    have hv := hv y6 eyy6
    have Ey6 : xy6 = zi y6 := exy6.trans (((zrd (rfl : zi v5 = zi v5) iv5 g5.1)).trans (congrArg zi eyy6.symm))
    have Iy6 : ir y6 := by rw [eyy6]; exact (hJ _ _)
    clear exy6
    refine vw_X2_spotAt hJ (rfl : zi v5 = zi v5) iv5 (by decide : (99 : Int32) = zi 99) (by decide : ir 99) (fun xr7 r7 Er7 Ir7 hv => ?_) hv
    refine ⟨fun cq => ?_, fun cq => ?_⟩
    · have hv := hv.1 (fun q => cq ((zeq (rfl : zi a2 = zi a2) (by decide : (0 : Int32) = zi 0) ia2 (by decide : ir 0)).mpr q))
      refine ⟨fun cq => ?_, fun cq => ?_⟩
      · have hv := hv.1 ((zle Ey6 Er7 Iy6 Ir7).mp cq)
        obtain ⟨g8, hv⟩ := hv
        intro xy9 exy9
        obtain ⟨y9, eyy9⟩ : ∃ q9 : Int, q9 = v5 + 1 := ⟨_, rfl⟩
        have hv := hv y9 eyy9
        have Ey9 : xy9 = zi y9 := exy9.trans (((za (rfl : zi v5 = zi v5) (by decide : (1 : Int32) = zi 1))).trans (congrArg zi eyy9.symm))
        have Iy9 : ir y9 := by rw [eyy9]; exact g8
        clear exy9
        exact hv _ _ hJ (rfl : zi v4 = zi v4) iv4 Ey9 Iy9
      · have hv := hv.2 (fun q => cq ((zle Ey6 Er7 Iy6 Ir7).mpr q))
        refine vw_X11_ends_92 ia1 ia2 hp ?_ hJ (rfl : zi v4 = zi v4) iv4 (rfl : zi v5 = zi v5) iv5 hv
        · intro qq qq xx vv xx vv hJ ev4 iv4 ev5 iv5 hv
          exact hv _ _ hJ ev4 iv4 ev5 iv5
    · have hv := hv.2 ((zeq (rfl : zi a2 = zi a2) (by decide : (0 : Int32) = zi 0) ia2 (by decide : ir 0)).mp cq)
      refine ⟨fun cq => ?_, fun cq => ?_⟩
      · have hv := hv.1 ((zle Er7 Ey6 Ir7 Iy6).mp cq)
        obtain ⟨g10, hv⟩ := hv
        intro xy11 exy11
        obtain ⟨y11, eyy11⟩ : ∃ q9 : Int, q9 = v5 + 1 := ⟨_, rfl⟩
        have hv := hv y11 eyy11
        have Ey11 : xy11 = zi y11 := exy11.trans (((za (rfl : zi v5 = zi v5) (by decide : (1 : Int32) = zi 1))).trans (congrArg zi eyy11.symm))
        have Iy11 : ir y11 := by rw [eyy11]; exact g10
        clear exy11
        exact hv _ _ hJ (rfl : zi v4 = zi v4) iv4 Ey11 Iy11
      · have hv := hv.2 (fun q => cq ((zle Er7 Ey6 Ir7 Iy6).mpr q))
        refine vw_X11_ends_92 ia1 ia2 hp ?_ hJ (rfl : zi v4 = zi v4) iv4 (rfl : zi v5 = zi v5) iv5 hv
        · intro qq qq xx vv xx vv hJ ev4 iv4 ev5 iv5 hv
          exact hv _ _ hJ ev4 iv4 ev5 iv5
def v_X11_ends (J : mJ) (a1 : Int) (a2 : Int) (post' : Int → mJ → Prop) : Prop := v_X11_eveningAt J a1 (fun r1 J2 => (r1 = none → post' (-1) J2) ∧ (∀ q3 : Nat, r1 = some q3 → (a2 < 0 → post' (-1) J2) ∧ (¬ a2 < 0 → (a2 ≤ 2 → (¬ a2 = 2 → (v_X11_ends_37 a1 a2 post') J2 q3 0 0) ∧ (a2 = 2 → v_X2_unheardPeople J2 q3 (hE q3) (fun r4 => post' r4 J2))) ∧ (¬ a2 ≤ 2 → post' (-1) J2))))
theorem vw_X11_ends {J : mJ} {xa1 : Int32} {a1 : Int} {xa2 : Int32} {a2 : Int} (hJ : irm J)  (ea1 : xa1 = zi a1) (ia1 : ir a1) (ea2 : xa2 = zi a2) (ia2 : ir a2) {post : Int32 → mI → Prop} {post' : Int → mJ → Prop} (hp : ∀ (x : Int32) (r : Int) (J1 : mJ), x = zi r → ir r → irm J1 → post' r J1 → post x (zz J1)) (hv : v_X11_ends J a1 a2 post') : w_X11_ends (zz J) xa1 xa2 post := by
  subst ea1
  subst ea2
  unfold v_X11_ends at hv
  unfold w_X11_ends
  refine vw_X11_eveningAt hJ (rfl : zi a1 = zi a1) ia1 (fun r1 J2 hJ hv => ?_) hv
  refine ⟨fun cq => ?_, fun q3 cq => ?_⟩
  · have hv := hv.1 cq
    exact hp _ _ _ (by decide : ((-1) : Int32) = zi (-1)) (by decide : ir (-1)) hJ hv
  · have hv := hv.2 q3 cq
    refine ⟨fun cq => ?_, fun cq => ?_⟩
    · have hv := hv.1 ((zlt (rfl : zi a2 = zi a2) (by decide : (0 : Int32) = zi 0) ia2 (by decide : ir 0)).mp cq)
      exact hp _ _ _ (by decide : ((-1) : Int32) = zi (-1)) (by decide : ir (-1)) hJ hv
    · have hv := hv.2 (fun q => cq ((zlt (rfl : zi a2 = zi a2) (by decide : (0 : Int32) = zi 0) ia2 (by decide : ir 0)).mpr q))
      refine ⟨fun cq => ?_, fun cq => ?_⟩
      · have hv := hv.1 ((zle (rfl : zi a2 = zi a2) (by decide : (2 : Int32) = zi 2) ia2 (by decide : ir 2)).mp cq)
        refine ⟨fun cq => ?_, fun cq => ?_⟩
        · have hv := hv.1 (fun q => cq ((zeq (rfl : zi a2 = zi a2) (by decide : (2 : Int32) = zi 2) ia2 (by decide : ir 2)).mpr q))
          exact vw_X11_ends_37 ia1 ia2 hp hJ (by decide : (0 : Int32) = zi 0) (by decide : ir 0) (by decide : (0 : Int32) = zi 0) (by decide : ir 0) hv
        · have hv := hv.2 ((zeq (rfl : zi a2 = zi a2) (by decide : (2 : Int32) = zi 2) ia2 (by decide : ir 2)).mp cq)
          refine vw_X2_unheardPeople hJ  (fun xr4 r4 Er4 Ir4 hv => ?_) hv
          exact hp _ _ _ Er4 Ir4 hJ hv
      · have hv := hv.2 (fun q => cq ((zle (rfl : zi a2 = zi a2) (by decide : (2 : Int32) = zi 2) ia2 (by decide : ir 2)).mpr q))
        exact hp _ _ _ (by decide : ((-1) : Int32) = zi (-1)) (by decide : ir (-1)) hJ hv
def v_X11_isErrand (J : mJ) (a1 : Nat) (a2 : Int) (a3 : Int) (a4 : Int) (a5 : Int) (post' : Bool → Prop) : Prop := v_X3_hasPerson J a1 a2 (fun b1 => (b1 = false → post' false) ∧ (b1 = true → v_X3_hasStep J a1 a3 (fun b2 => (b2 = false → post' false) ∧ (b2 = true → v_X3_hasStep J a1 a4 (fun b3 => (b3 = false → post' false) ∧ (b3 = true → (a5 < 0 → post' false) ∧ (¬ a5 < 0 → (100 ≤ a5 → post' false) ∧ (¬ 100 ≤ a5 → post' true))))))))
theorem vw_X11_isErrand {J : mJ} {a1 : Nat} {xa2 : Int32} {a2 : Int} {xa3 : Int32} {a3 : Int} {xa4 : Int32} {a4 : Int} {xa5 : Int32} {a5 : Int} (hJ : irm J)   (ea2 : xa2 = zi a2) (ia2 : ir a2) (ea3 : xa3 = zi a3) (ia3 : ir a3) (ea4 : xa4 = zi a4) (ia4 : ir a4) (ea5 : xa5 = zi a5) (ia5 : ir a5) {post : Bool → Prop} {post' : Bool → Prop} (hp : ∀ (r : Bool), post' r → post r) (hv : v_X11_isErrand J a1 a2 a3 a4 a5 post') : w_X11_isErrand (zz J) a1 xa2 xa3 xa4 xa5 post := by
  subst ea2
  subst ea3
  subst ea4
  subst ea5
  unfold v_X11_isErrand at hv
  unfold w_X11_isErrand
  refine vw_X3_hasPerson hJ (rfl : zi a2 = zi a2) ia2 (fun b1  hv => ?_) hv
  refine ⟨fun cq => ?_, fun cq => ?_⟩
  · have hv := hv.1 cq
    exact hp _ hv
  · have hv := hv.2 cq
    refine vw_X3_hasStep hJ (rfl : zi a3 = zi a3) ia3 (fun b2  hv => ?_) hv
    refine ⟨fun cq => ?_, fun cq => ?_⟩
    · have hv := hv.1 cq
      exact hp _ hv
    · have hv := hv.2 cq
      refine vw_X3_hasStep hJ (rfl : zi a4 = zi a4) ia4 (fun b3  hv => ?_) hv
      refine ⟨fun cq => ?_, fun cq => ?_⟩
      · have hv := hv.1 cq
        exact hp _ hv
      · have hv := hv.2 cq
        refine ⟨fun cq => ?_, fun cq => ?_⟩
        · have hv := hv.1 ((zlt (rfl : zi a5 = zi a5) (by decide : (0 : Int32) = zi 0) ia5 (by decide : ir 0)).mp cq)
          exact hp _ hv
        · have hv := hv.2 (fun q => cq ((zlt (rfl : zi a5 = zi a5) (by decide : (0 : Int32) = zi 0) ia5 (by decide : ir 0)).mpr q))
          refine ⟨fun cq => ?_, fun cq => ?_⟩
          · have hv := hv.1 ((zle (by decide : (100 : Int32) = zi 100) (rfl : zi a5 = zi a5) (by decide : ir 100) ia5).mp cq)
            exact hp _ hv
          · have hv := hv.2 (fun q => cq ((zle (by decide : (100 : Int32) = zi 100) (rfl : zi a5 = zi a5) (by decide : ir 100) ia5).mpr q))
            exact hp _ hv
def v_X11_hasRoute_79 (a1 : Int) (a2 : Int) (a3 : Int) (a4 : Int) (a5 : Int) (a6 : Int) (post' : Bool → mJ → Prop) (J : mJ) : Prop := ((J 70 1) = (-1) → post' false J) ∧ (¬ (J 70 1) = (-1) → post' true J)
theorem vw_X11_hasRoute_79 {a1 : Int} {a2 : Int} {a3 : Int} {a4 : Int} {a5 : Int} {a6 : Int}  (ia1 : ir a1) (ia2 : ir a2) (ia3 : ir a3) (ia4 : ir a4) (ia5 : ir a5) (ia6 : ir a6) {post : Bool → mI → Prop} {post' : Bool → mJ → Prop} (hp : ∀ (r : Bool) (J1 : mJ), irm J1 → post' r J1 → post r (zz J1)) {J : mJ} (hJ : irm J) (hv : v_X11_hasRoute_79 a1 a2 a3 a4 a5 a6 post' J) : w_X11_hasRoute_79 (zi a1) (zi a2) (zi a3) (zi a4) (zi a5) (zi a6) post (zz J) := by
  unfold v_X11_hasRoute_79 at hv
  unfold w_X11_hasRoute_79
  refine ⟨fun cq => ?_, fun cq => ?_⟩
  · have hv := hv.1 ((zeq zrf (by decide : ((-1) : Int32) = zi (-1)) (hJ _ _) (by decide : ir (-1))).mp cq)
    exact hp _ _ hJ hv
  · have hv := hv.2 (fun q => cq ((zeq zrf (by decide : ((-1) : Int32) = zi (-1)) (hJ _ _) (by decide : ir (-1))).mpr q))
    exact hp _ _ hJ hv
def v_X11_hasRoute (J : mJ) (a1 : Int) (a2 : Int) (a3 : Int) (a4 : Int) (a5 : Int) (a6 : Int) (post' : Bool → mJ → Prop) : Prop := v_X11_eveningAt J a1 (fun r1 J2 => (r1 = none → post' false J2) ∧ (∀ q3 : Nat, r1 = some q3 → v_X11_isErrand J2 (hE q3) a2 a3 a4 a5 (fun b4 => (b4 = true → v_X7_isNew J2 70 a1 a2 a3 a4 a5 a6 (fun b5 J6 => (b5 = false → (v_X11_hasRoute_79 a1 a2 a3 a4 a5 a6 post') J6) ∧ (b5 = true → ir (a5 + 1) ∧ v_X4_watch J6 66 q3 (hE q3) a2 (a5 + 1) 60 (fun J8 => v_X7_plan J8 70 q3 (hE q3) 66 (fun J9 => (v_X11_hasRoute_79 a1 a2 a3 a4 a5 a6 post') J9))))) ∧ (b4 = false → post' false J2))))
theorem vw_X11_hasRoute {J : mJ} {xa1 : Int32} {a1 : Int} {xa2 : Int32} {a2 : Int} {xa3 : Int32} {a3 : Int} {xa4 : Int32} {a4 : Int} {xa5 : Int32} {a5 : Int} {xa6 : Int32} {a6 : Int} (hJ : irm J)  (ea1 : xa1 = zi a1) (ia1 : ir a1) (ea2 : xa2 = zi a2) (ia2 : ir a2) (ea3 : xa3 = zi a3) (ia3 : ir a3) (ea4 : xa4 = zi a4) (ia4 : ir a4) (ea5 : xa5 = zi a5) (ia5 : ir a5) (ea6 : xa6 = zi a6) (ia6 : ir a6) {post : Bool → mI → Prop} {post' : Bool → mJ → Prop} (hp : ∀ (r : Bool) (J1 : mJ), irm J1 → post' r J1 → post r (zz J1)) (hv : v_X11_hasRoute J a1 a2 a3 a4 a5 a6 post') : w_X11_hasRoute (zz J) xa1 xa2 xa3 xa4 xa5 xa6 post := by
  subst ea1
  subst ea2
  subst ea3
  subst ea4
  subst ea5
  subst ea6
  unfold v_X11_hasRoute at hv
  unfold w_X11_hasRoute
  refine vw_X11_eveningAt hJ (rfl : zi a1 = zi a1) ia1 (fun r1 J2 hJ hv => ?_) hv
  refine ⟨fun cq => ?_, fun q3 cq => ?_⟩
  · have hv := hv.1 cq
    exact hp _ _ hJ hv
  · have hv := hv.2 q3 cq
    refine vw_X11_isErrand hJ (rfl : zi a2 = zi a2) ia2 (rfl : zi a3 = zi a3) ia3 (rfl : zi a4 = zi a4) ia4 (rfl : zi a5 = zi a5) ia5 (fun b4  hv => ?_) hv
    refine ⟨fun cq => ?_, fun cq => ?_⟩
    · have hv := hv.1 cq
      refine vw_X7_isNew hJ (rfl : zi a1 = zi a1) ia1 (rfl : zi a2 = zi a2) ia2 (rfl : zi a3 = zi a3) ia3 (rfl : zi a4 = zi a4) ia4 (rfl : zi a5 = zi a5) ia5 (rfl : zi a6 = zi a6) ia6 (fun b5 J6 hJ hv => ?_) hv
      refine ⟨fun cq => ?_, fun cq => ?_⟩
      · have hv := hv.1 cq
        exact vw_X11_hasRoute_79 ia1 ia2 ia3 ia4 ia5 ia6 hp hJ hv
      · have hv := hv.2 cq
        obtain ⟨g7, hv⟩ := hv
        refine vw_X4_watch hJ (rfl : zi a2 = zi a2) ia2 (za (rfl : zi a5 = zi a5) (by decide : (1 : Int32) = zi 1)) g7 (by decide : (60 : Int32) = zi 60) (by decide : ir 60) (fun J8 hJ hv => ?_) hv
        refine vw_X7_plan hJ  (fun J9 hJ hv => ?_) hv
        exact vw_X11_hasRoute_79 ia1 ia2 ia3 ia4 ia5 ia6 hp hJ hv
    · have hv := hv.2 cq
      exact hp _ _ hJ hv
def v_X11_home (J : mJ) (a1 : Int) (a2 : Int) (a3 : Int) (a4 : Int) (a5 : Int) (a6 : Int) (a7 : Int) (post' : Int → mJ → Prop) : Prop := v_X11_houseAt J a1 (fun r1 => (r1 = none → post' (-1) J) ∧ (∀ q2 : Nat, r1 = some q2 → v_X3_allFlats J q2 (fun r3 => (¬ (andZ a6 (xorZ r3 (-1))) = 0 → post' (-1) J) ∧ ((andZ a6 (xorZ r3 (-1))) = 0 → v_X11_hasRoute J a1 a2 a3 a4 a5 a6 (fun b4 J5 => (b4 = true → (¬ a7 = 0 → v_X11_pick J5 71 60 (subW a7 10) (J5 70 1) (-1) (fun r6 => post' r6 J5)) ∧ (a7 = 0 → post' (J5 70 1) J5)) ∧ (b4 = false → post' (-1) J5))))))
theorem vw_X11_home {J : mJ} {xa1 : Int32} {a1 : Int} {xa2 : Int32} {a2 : Int} {xa3 : Int32} {a3 : Int} {xa4 : Int32} {a4 : Int} {xa5 : Int32} {a5 : Int} {xa6 : Int32} {a6 : Int} {xa7 : Int32} {a7 : Int} (hJ : irm J)  (ea1 : xa1 = zi a1) (ia1 : ir a1) (ea2 : xa2 = zi a2) (ia2 : ir a2) (ea3 : xa3 = zi a3) (ia3 : ir a3) (ea4 : xa4 = zi a4) (ia4 : ir a4) (ea5 : xa5 = zi a5) (ia5 : ir a5) (ea6 : xa6 = zi a6) (ia6 : ir a6) (ea7 : xa7 = zi a7) (ia7 : ir a7) {post : Int32 → mI → Prop} {post' : Int → mJ → Prop} (hp : ∀ (x : Int32) (r : Int) (J1 : mJ), x = zi r → ir r → irm J1 → post' r J1 → post x (zz J1)) (hv : v_X11_home J a1 a2 a3 a4 a5 a6 a7 post') : w_X11_home (zz J) xa1 xa2 xa3 xa4 xa5 xa6 xa7 post := by
  subst ea1
  subst ea2
  subst ea3
  subst ea4
  subst ea5
  subst ea6
  subst ea7
  unfold v_X11_home at hv
  unfold w_X11_home
  refine vw_X11_houseAt hJ (rfl : zi a1 = zi a1) ia1 (fun r1  hv => ?_) hv
  refine ⟨fun cq => ?_, fun q2 cq => ?_⟩
  · have hv := hv.1 cq
    exact hp _ _ _ (by decide : ((-1) : Int32) = zi (-1)) (by decide : ir (-1)) hJ hv
  · have hv := hv.2 q2 cq
    refine vw_X3_allFlats hJ  (fun xr3 r3 Er3 Ir3 hv => ?_) hv
    refine ⟨fun cq => ?_, fun cq => ?_⟩
    · have hv := hv.1 (fun q => cq ((zeq (z_and (rfl : zi a6 = zi a6) (z_xor Er3 (by decide : ((-1) : Int32) = zi (-1)))) (by decide : (0 : Int32) = zi 0) (ir_toInt _) (by decide : ir 0)).mpr q))
      exact hp _ _ _ (by decide : ((-1) : Int32) = zi (-1)) (by decide : ir (-1)) hJ hv
    · have hv := hv.2 ((zeq (z_and (rfl : zi a6 = zi a6) (z_xor Er3 (by decide : ((-1) : Int32) = zi (-1)))) (by decide : (0 : Int32) = zi 0) (ir_toInt _) (by decide : ir 0)).mp cq)
      refine vw_X11_hasRoute hJ (rfl : zi a1 = zi a1) ia1 (rfl : zi a2 = zi a2) ia2 (rfl : zi a3 = zi a3) ia3 (rfl : zi a4 = zi a4) ia4 (rfl : zi a5 = zi a5) ia5 (rfl : zi a6 = zi a6) ia6 (fun b4 J5 hJ hv => ?_) hv
      refine ⟨fun cq => ?_, fun cq => ?_⟩
      · have hv := hv.1 cq
        refine ⟨fun cq => ?_, fun cq => ?_⟩
        · have hv := hv.1 (fun q => cq ((zeq (rfl : zi a7 = zi a7) (by decide : (0 : Int32) = zi 0) ia7 (by decide : ir 0)).mpr q))
          refine vw_X11_pick hJ (z_subW (rfl : zi a7 = zi a7) (by decide : (10 : Int32) = zi 10)) (ir_toInt _) zrf (hJ _ _) (by decide : ((-1) : Int32) = zi (-1)) (by decide : ir (-1)) (fun xr6 r6 Er6 Ir6 hv => ?_) hv
          exact hp _ _ _ Er6 Ir6 hJ hv
        · have hv := hv.2 ((zeq (rfl : zi a7 = zi a7) (by decide : (0 : Int32) = zi 0) ia7 (by decide : ir 0)).mp cq)
          exact hp _ _ _ zrf (hJ _ _) hJ hv
      · have hv := hv.2 cq
        exact hp _ _ _ (by decide : ((-1) : Int32) = zi (-1)) (by decide : ir (-1)) hJ hv
def v_X11_thief (J : mJ) (a1 : Int) (a2 : Int) (a3 : Int) (a4 : Int) (a5 : Int) (a6 : Int) (post' : Int → mJ → Prop) : Prop := v_X11_hasRoute J a1 a2 a3 a4 a5 (-1) (fun b1 J2 => (b1 = true → (¬ a6 = 0 → (¬ a6 = 1 → v_X11_pick J2 71 60 (subW a6 10) (J2 70 1) (-1) (fun r3 => post' r3 J2)) ∧ (a6 = 1 → post' (J2 70 1) J2)) ∧ (a6 = 0 → post' (J2 70 0) J2)) ∧ (b1 = false → post' (-1) J2))
theorem vw_X11_thief {J : mJ} {xa1 : Int32} {a1 : Int} {xa2 : Int32} {a2 : Int} {xa3 : Int32} {a3 : Int} {xa4 : Int32} {a4 : Int} {xa5 : Int32} {a5 : Int} {xa6 : Int32} {a6 : Int} (hJ : irm J)  (ea1 : xa1 = zi a1) (ia1 : ir a1) (ea2 : xa2 = zi a2) (ia2 : ir a2) (ea3 : xa3 = zi a3) (ia3 : ir a3) (ea4 : xa4 = zi a4) (ia4 : ir a4) (ea5 : xa5 = zi a5) (ia5 : ir a5) (ea6 : xa6 = zi a6) (ia6 : ir a6) {post : Int32 → mI → Prop} {post' : Int → mJ → Prop} (hp : ∀ (x : Int32) (r : Int) (J1 : mJ), x = zi r → ir r → irm J1 → post' r J1 → post x (zz J1)) (hv : v_X11_thief J a1 a2 a3 a4 a5 a6 post') : w_X11_thief (zz J) xa1 xa2 xa3 xa4 xa5 xa6 post := by
  subst ea1
  subst ea2
  subst ea3
  subst ea4
  subst ea5
  subst ea6
  unfold v_X11_thief at hv
  unfold w_X11_thief
  refine vw_X11_hasRoute hJ (rfl : zi a1 = zi a1) ia1 (rfl : zi a2 = zi a2) ia2 (rfl : zi a3 = zi a3) ia3 (rfl : zi a4 = zi a4) ia4 (rfl : zi a5 = zi a5) ia5 (by decide : ((-1) : Int32) = zi (-1)) (by decide : ir (-1)) (fun b1 J2 hJ hv => ?_) hv
  refine ⟨fun cq => ?_, fun cq => ?_⟩
  · have hv := hv.1 cq
    refine ⟨fun cq => ?_, fun cq => ?_⟩
    · have hv := hv.1 (fun q => cq ((zeq (rfl : zi a6 = zi a6) (by decide : (0 : Int32) = zi 0) ia6 (by decide : ir 0)).mpr q))
      refine ⟨fun cq => ?_, fun cq => ?_⟩
      · have hv := hv.1 (fun q => cq ((zeq (rfl : zi a6 = zi a6) (by decide : (1 : Int32) = zi 1) ia6 (by decide : ir 1)).mpr q))
        refine vw_X11_pick hJ (z_subW (rfl : zi a6 = zi a6) (by decide : (10 : Int32) = zi 10)) (ir_toInt _) zrf (hJ _ _) (by decide : ((-1) : Int32) = zi (-1)) (by decide : ir (-1)) (fun xr3 r3 Er3 Ir3 hv => ?_) hv
        exact hp _ _ _ Er3 Ir3 hJ hv
      · have hv := hv.2 ((zeq (rfl : zi a6 = zi a6) (by decide : (1 : Int32) = zi 1) ia6 (by decide : ir 1)).mp cq)
        exact hp _ _ _ zrf (hJ _ _) hJ hv
    · have hv := hv.2 ((zeq (rfl : zi a6 = zi a6) (by decide : (0 : Int32) = zi 0) ia6 (by decide : ir 0)).mp cq)
      exact hp _ _ _ zrf (hJ _ _) hJ hv
  · have hv := hv.2 cq
    exact hp _ _ _ (by decide : ((-1) : Int32) = zi (-1)) (by decide : ir (-1)) hJ hv
def v_X11_apart (J : mJ) (a1 : Int) (a2 : Int) (post' : Int → mJ → Prop) : Prop := v_X11_eveningAt J a1 (fun r1 J2 => (r1 = none → post' (-1) J2) ∧ (∀ q3 : Nat, r1 = some q3 → v_X9_dress J2 80 q3 (hE q3) (fun J4 => (¬ a2 = 0 → v_X11_pick J4 81 6 (subW a2 10) (J4 (hE q3) 3) (-1) (fun r5 => post' r5 J4)) ∧ (a2 = 0 → post' (J4 80 0) J4))))
theorem vw_X11_apart {J : mJ} {xa1 : Int32} {a1 : Int} {xa2 : Int32} {a2 : Int} (hJ : irm J)  (ea1 : xa1 = zi a1) (ia1 : ir a1) (ea2 : xa2 = zi a2) (ia2 : ir a2) {post : Int32 → mI → Prop} {post' : Int → mJ → Prop} (hp : ∀ (x : Int32) (r : Int) (J1 : mJ), x = zi r → ir r → irm J1 → post' r J1 → post x (zz J1)) (hv : v_X11_apart J a1 a2 post') : w_X11_apart (zz J) xa1 xa2 post := by
  subst ea1
  subst ea2
  unfold v_X11_apart at hv
  unfold w_X11_apart
  refine vw_X11_eveningAt hJ (rfl : zi a1 = zi a1) ia1 (fun r1 J2 hJ hv => ?_) hv
  refine ⟨fun cq => ?_, fun q3 cq => ?_⟩
  · have hv := hv.1 cq
    exact hp _ _ _ (by decide : ((-1) : Int32) = zi (-1)) (by decide : ir (-1)) hJ hv
  · have hv := hv.2 q3 cq
    refine vw_X9_dress hJ  (fun J4 hJ hv => ?_) hv
    refine ⟨fun cq => ?_, fun cq => ?_⟩
    · have hv := hv.1 (fun q => cq ((zeq (rfl : zi a2 = zi a2) (by decide : (0 : Int32) = zi 0) ia2 (by decide : ir 0)).mpr q))
      refine vw_X11_pick hJ (z_subW (rfl : zi a2 = zi a2) (by decide : (10 : Int32) = zi 10)) (ir_toInt _) zrf (hJ _ _) (by decide : ((-1) : Int32) = zi (-1)) (by decide : ir (-1)) (fun xr5 r5 Er5 Ir5 hv => ?_) hv
      exact hp _ _ _ Er5 Ir5 hJ hv
    · have hv := hv.2 ((zeq (rfl : zi a2 = zi a2) (by decide : (0 : Int32) = zi 0) ia2 (by decide : ir 0)).mp cq)
      exact hp _ _ _ zrf (hJ _ _) hJ hv
def v_X11_worth_43 (a1 : Int) (a2 : Int) (a3 : Int) (post' : Int → mJ → Prop) (J : mJ) (q3 : Nat) : Prop := v_X2_tallySaved J q3 (hE q3) a3 (fun J5 => (¬ a2 = (-1) → (0 ≤ a2 ∧ a2 < 25) ∧ post' (J5 (q3 + 11) a2.toNat) J5) ∧ (a2 = (-1) → v_X2_mostTallied J5 q3 (hE q3) (fun r7 => post' r7 J5)))
theorem vw_X11_worth_43 {a1 : Int} {a2 : Int} {a3 : Int}  (ia1 : ir a1) (ia2 : ir a2) (ia3 : ir a3) {post : Int32 → mI → Prop} {post' : Int → mJ → Prop} (hp : ∀ (x : Int32) (r : Int) (J1 : mJ), x = zi r → ir r → irm J1 → post' r J1 → post x (zz J1)) {J : mJ} {q3 : Nat} (hJ : irm J) (hv : v_X11_worth_43 a1 a2 a3 post' J q3) : w_X11_worth_43 (zi a1) (zi a2) (zi a3) post (zz J) q3 := by
  unfold v_X11_worth_43 at hv
  unfold w_X11_worth_43
  refine vw_X2_tallySaved hJ (rfl : zi a3 = zi a3) ia3 (fun J5 hJ hv => ?_) hv
  refine ⟨fun cq => ?_, fun cq => ?_⟩
  · have hv := hv.1 (fun q => cq ((zeq (rfl : zi a2 = zi a2) (by decide : ((-1) : Int32) = zi (-1)) ia2 (by decide : ir (-1))).mpr q))
    obtain ⟨g6, hv⟩ := hv
    refine ⟨zvp (rfl : zi a2 = zi a2) ia2 g6.1 g6.2, ?_⟩
    exact hp _ _ _ (zrd (rfl : zi a2 = zi a2) ia2 g6.1) (hJ _ _) hJ hv
  · have hv := hv.2 ((zeq (rfl : zi a2 = zi a2) (by decide : ((-1) : Int32) = zi (-1)) ia2 (by decide : ir (-1))).mp cq)
    refine vw_X2_mostTallied hJ  (fun xr7 r7 Er7 Ir7 hv => ?_) hv
    exact hp _ _ _ Er7 Ir7 hJ hv
def v_X11_worth (J : mJ) (a1 : Int) (a2 : Int) (a3 : Int) (post' : Int → mJ → Prop) : Prop := v_X11_eveningAt J a1 (fun r1 J2 => (r1 = none → post' (-2) J2) ∧ (∀ q3 : Nat, r1 = some q3 → (a3 < 1 → post' (-2) J2) ∧ (¬ a3 < 1 → (9 < a3 → post' (-2) J2) ∧ (¬ 9 < a3 → (a2 = (-1) → (v_X11_worth_43 a1 a2 a3 post') J2 q3) ∧ (¬ a2 = (-1) → v_X3_hasStep J2 (hE q3) a2 (fun b4 => (b4 = true → (v_X11_worth_43 a1 a2 a3 post') J2 q3) ∧ (b4 = false → post' (-2) J2)))))))
theorem vw_X11_worth {J : mJ} {xa1 : Int32} {a1 : Int} {xa2 : Int32} {a2 : Int} {xa3 : Int32} {a3 : Int} (hJ : irm J)  (ea1 : xa1 = zi a1) (ia1 : ir a1) (ea2 : xa2 = zi a2) (ia2 : ir a2) (ea3 : xa3 = zi a3) (ia3 : ir a3) {post : Int32 → mI → Prop} {post' : Int → mJ → Prop} (hp : ∀ (x : Int32) (r : Int) (J1 : mJ), x = zi r → ir r → irm J1 → post' r J1 → post x (zz J1)) (hv : v_X11_worth J a1 a2 a3 post') : w_X11_worth (zz J) xa1 xa2 xa3 post := by
  subst ea1
  subst ea2
  subst ea3
  unfold v_X11_worth at hv
  unfold w_X11_worth
  refine vw_X11_eveningAt hJ (rfl : zi a1 = zi a1) ia1 (fun r1 J2 hJ hv => ?_) hv
  refine ⟨fun cq => ?_, fun q3 cq => ?_⟩
  · have hv := hv.1 cq
    exact hp _ _ _ (by decide : ((-2) : Int32) = zi (-2)) (by decide : ir (-2)) hJ hv
  · have hv := hv.2 q3 cq
    refine ⟨fun cq => ?_, fun cq => ?_⟩
    · have hv := hv.1 ((zlt (rfl : zi a3 = zi a3) (by decide : (1 : Int32) = zi 1) ia3 (by decide : ir 1)).mp cq)
      exact hp _ _ _ (by decide : ((-2) : Int32) = zi (-2)) (by decide : ir (-2)) hJ hv
    · have hv := hv.2 (fun q => cq ((zlt (rfl : zi a3 = zi a3) (by decide : (1 : Int32) = zi 1) ia3 (by decide : ir 1)).mpr q))
      refine ⟨fun cq => ?_, fun cq => ?_⟩
      · have hv := hv.1 ((zlt (by decide : (9 : Int32) = zi 9) (rfl : zi a3 = zi a3) (by decide : ir 9) ia3).mp cq)
        exact hp _ _ _ (by decide : ((-2) : Int32) = zi (-2)) (by decide : ir (-2)) hJ hv
      · have hv := hv.2 (fun q => cq ((zlt (by decide : (9 : Int32) = zi 9) (rfl : zi a3 = zi a3) (by decide : ir 9) ia3).mpr q))
        refine ⟨fun cq => ?_, fun cq => ?_⟩
        · have hv := hv.1 ((zeq (rfl : zi a2 = zi a2) (by decide : ((-1) : Int32) = zi (-1)) ia2 (by decide : ir (-1))).mp cq)
          exact vw_X11_worth_43 ia1 ia2 ia3 hp hJ hv
        · have hv := hv.2 (fun q => cq ((zeq (rfl : zi a2 = zi a2) (by decide : ((-1) : Int32) = zi (-1)) ia2 (by decide : ir (-1))).mpr q))
          refine vw_X3_hasStep hJ (rfl : zi a2 = zi a2) ia2 (fun b4  hv => ?_) hv
          refine ⟨fun cq => ?_, fun cq => ?_⟩
          · have hv := hv.1 cq
            exact vw_X11_worth_43 ia1 ia2 ia3 hp hJ hv
          · have hv := hv.2 cq
            exact hp _ _ _ (by decide : ((-2) : Int32) = zi (-2)) (by decide : ir (-2)) hJ hv
def v_X11_readingAt (J : mJ) (a1 : Int) (post' : Option Nat → Prop) : Prop := (a1 < 0 → post' none) ∧ (¬ a1 < 0 → ((J 1 5) ≤ a1 → post' none) ∧ (¬ (J 1 5) ≤ a1 → (0 ≤ a1 ∧ a1 < 2) ∧ post' (some (1 + 18 + 19 * a1.toNat))))
theorem vw_X11_readingAt {J : mJ} {xa1 : Int32} {a1 : Int} (hJ : irm J)  (ea1 : xa1 = zi a1) (ia1 : ir a1) {post : Option Nat → Prop} {post' : Option Nat → Prop} (hp : ∀ (r : Option Nat), post' r → post r) (hv : v_X11_readingAt J a1 post') : w_X11_readingAt (zz J) xa1 post := by
  subst ea1
  unfold v_X11_readingAt at hv
  unfold w_X11_readingAt
  refine ⟨fun cq => ?_, fun cq => ?_⟩
  · have hv := hv.1 ((zlt (rfl : zi a1 = zi a1) (by decide : (0 : Int32) = zi 0) ia1 (by decide : ir 0)).mp cq)
    exact hp _ hv
  · have hv := hv.2 (fun q => cq ((zlt (rfl : zi a1 = zi a1) (by decide : (0 : Int32) = zi 0) ia1 (by decide : ir 0)).mpr q))
    refine ⟨fun cq => ?_, fun cq => ?_⟩
    · have hv := hv.1 ((zle zrf (rfl : zi a1 = zi a1) (hJ _ _) ia1).mp cq)
      exact hp _ hv
    · have hv := hv.2 (fun q => cq ((zle zrf (rfl : zi a1 = zi a1) (hJ _ _) ia1).mpr q))
      obtain ⟨g1, hv⟩ := hv
      refine ⟨zvp (rfl : zi a1 = zi a1) ia1 g1.1 g1.2, ?_⟩
      try simp only [zcl (rfl : zi a1 = zi a1) ia1 g1.1]
      exact hp _ hv
def v_X11_sound (J : mJ) (a1 : Int) (a2 : Int) (a3 : Int) (post' : Int → Prop) : Prop := v_X11_readingAt J a1 (fun r1 => (r1 = none → post' (-2)) ∧ (∀ q2 : Nat, r1 = some q2 → (¬ a2 = (-1) → (a3 = 0 → v_X11_pick J (q2 + 1) 10 a2 (J q2 0) (-2) (fun r3 => post' r3)) ∧ (a3 = 1 → v_X11_pick J (q2 + 2) 10 a2 (J q2 0) (-2) (fun r4 => post' r4)) ∧ (a3 = 2 → v_X11_pick J (q2 + 3) 10 a2 (J q2 0) (-2) (fun r5 => post' r5)) ∧ (a3 = 3 → v_X11_pick J (q2 + 4) 10 a2 (J q2 0) (-2) (fun r6 => post' r6)) ∧ (¬ a3 = 0 → ¬ a3 = 1 → ¬ a3 = 2 → ¬ a3 = 3 → post' (-2))) ∧ (a2 = (-1) → (¬ a3 = 0 → post' (-2)) ∧ (a3 = 0 → post' (J q2 0)))))
theorem vw_X11_sound {J : mJ} {xa1 : Int32} {a1 : Int} {xa2 : Int32} {a2 : Int} {xa3 : Int32} {a3 : Int} (hJ : irm J)  (ea1 : xa1 = zi a1) (ia1 : ir a1) (ea2 : xa2 = zi a2) (ia2 : ir a2) (ea3 : xa3 = zi a3) (ia3 : ir a3) {post : Int32 → Prop} {post' : Int → Prop} (hp : ∀ (x : Int32) (r : Int), x = zi r → ir r → post' r → post x) (hv : v_X11_sound J a1 a2 a3 post') : w_X11_sound (zz J) xa1 xa2 xa3 post := by
  subst ea1
  subst ea2
  subst ea3
  unfold v_X11_sound at hv
  unfold w_X11_sound
  refine vw_X11_readingAt hJ (rfl : zi a1 = zi a1) ia1 (fun r1  hv => ?_) hv
  refine ⟨fun cq => ?_, fun q2 cq => ?_⟩
  · have hv := hv.1 cq
    exact hp _ _ (by decide : ((-2) : Int32) = zi (-2)) (by decide : ir (-2)) hv
  · have hv := hv.2 q2 cq
    refine ⟨fun cq => ?_, fun cq => ?_⟩
    · have hv := hv.1 (fun q => cq ((zeq (rfl : zi a2 = zi a2) (by decide : ((-1) : Int32) = zi (-1)) ia2 (by decide : ir (-1))).mpr q))
      refine ⟨fun cq => ?_, fun cq => ?_, fun cq => ?_, fun cq => ?_, fun c0 c1 c2 c3 => ?_⟩
      · have hv := hv.1 ((zeq (rfl : zi a3 = zi a3) (by decide : (0 : Int32) = zi 0) ia3 (by decide : ir 0)).mp cq)
        refine vw_X11_pick hJ (rfl : zi a2 = zi a2) ia2 zrf (hJ _ _) (by decide : ((-2) : Int32) = zi (-2)) (by decide : ir (-2)) (fun xr3 r3 Er3 Ir3 hv => ?_) hv
        exact hp _ _ Er3 Ir3 hv
      · have hv := hv.2.1 ((zeq (rfl : zi a3 = zi a3) (by decide : (1 : Int32) = zi 1) ia3 (by decide : ir 1)).mp cq)
        refine vw_X11_pick hJ (rfl : zi a2 = zi a2) ia2 zrf (hJ _ _) (by decide : ((-2) : Int32) = zi (-2)) (by decide : ir (-2)) (fun xr4 r4 Er4 Ir4 hv => ?_) hv
        exact hp _ _ Er4 Ir4 hv
      · have hv := hv.2.2.1 ((zeq (rfl : zi a3 = zi a3) (by decide : (2 : Int32) = zi 2) ia3 (by decide : ir 2)).mp cq)
        refine vw_X11_pick hJ (rfl : zi a2 = zi a2) ia2 zrf (hJ _ _) (by decide : ((-2) : Int32) = zi (-2)) (by decide : ir (-2)) (fun xr5 r5 Er5 Ir5 hv => ?_) hv
        exact hp _ _ Er5 Ir5 hv
      · have hv := hv.2.2.2.1 ((zeq (rfl : zi a3 = zi a3) (by decide : (3 : Int32) = zi 3) ia3 (by decide : ir 3)).mp cq)
        refine vw_X11_pick hJ (rfl : zi a2 = zi a2) ia2 zrf (hJ _ _) (by decide : ((-2) : Int32) = zi (-2)) (by decide : ir (-2)) (fun xr6 r6 Er6 Ir6 hv => ?_) hv
        exact hp _ _ Er6 Ir6 hv
      · have hv := hv.2.2.2.2 (fun q => c0 ((zeq (rfl : zi a3 = zi a3) (by decide : (0 : Int32) = zi 0) ia3 (by decide : ir 0)).mpr q)) (fun q => c1 ((zeq (rfl : zi a3 = zi a3) (by decide : (1 : Int32) = zi 1) ia3 (by decide : ir 1)).mpr q)) (fun q => c2 ((zeq (rfl : zi a3 = zi a3) (by decide : (2 : Int32) = zi 2) ia3 (by decide : ir 2)).mpr q)) (fun q => c3 ((zeq (rfl : zi a3 = zi a3) (by decide : (3 : Int32) = zi 3) ia3 (by decide : ir 3)).mpr q))
        exact hp _ _ (by decide : ((-2) : Int32) = zi (-2)) (by decide : ir (-2)) hv
    · have hv := hv.2 ((zeq (rfl : zi a2 = zi a2) (by decide : ((-1) : Int32) = zi (-1)) ia2 (by decide : ir (-1))).mp cq)
      refine ⟨fun cq => ?_, fun cq => ?_⟩
      · have hv := hv.1 (fun q => cq ((zeq (rfl : zi a3 = zi a3) (by decide : (0 : Int32) = zi 0) ia3 (by decide : ir 0)).mpr q))
        exact hp _ _ (by decide : ((-2) : Int32) = zi (-2)) (by decide : ir (-2)) hv
      · have hv := hv.2 ((zeq (rfl : zi a3 = zi a3) (by decide : (0 : Int32) = zi 0) ia3 (by decide : ir 0)).mp cq)
        exact hp _ _ zrf (hJ _ _) hv
def v_X11_makers_41 (J : mJ) (a1 : Int) (a2 : Int) (a3 : Int) (post' : Int → Prop) (q6 : Nat) (q4 : Nat) : Prop := (¬ a3 = (-1) → v_X10_makersOf J q4 q6 a3 (fun r8 => post' r8)) ∧ (a3 = (-1) → v_X10_liesOf J q4 q6 (fun r9 => post' r9))
theorem vw_X11_makers_41 {J : mJ} {a1 : Int} {a2 : Int} {a3 : Int} (hJ : irm J) (ia1 : ir a1) (ia2 : ir a2) (ia3 : ir a3) {post : Int32 → Prop} {post' : Int → Prop} (hp : ∀ (x : Int32) (r : Int), x = zi r → ir r → post' r → post x) {q6 : Nat} {q4 : Nat}  (hv : v_X11_makers_41 J a1 a2 a3 post' q6 q4) : w_X11_makers_41 (zz J) (zi a1) (zi a2) (zi a3) post q6 q4 := by
  unfold v_X11_makers_41 at hv
  unfold w_X11_makers_41
  refine ⟨fun cq => ?_, fun cq => ?_⟩
  · have hv := hv.1 (fun q => cq ((zeq (rfl : zi a3 = zi a3) (by decide : ((-1) : Int32) = zi (-1)) ia3 (by decide : ir (-1))).mpr q))
    refine vw_X10_makersOf hJ (rfl : zi a3 = zi a3) ia3 (fun xr8 r8 Er8 Ir8 hv => ?_) hv
    exact hp _ _ Er8 Ir8 hv
  · have hv := hv.2 ((zeq (rfl : zi a3 = zi a3) (by decide : ((-1) : Int32) = zi (-1)) ia3 (by decide : ir (-1))).mp cq)
    refine vw_X10_liesOf hJ  (fun xr9 r9 Er9 Ir9 hv => ?_) hv
    exact hp _ _ Er9 Ir9 hv
def v_X11_makers (J : mJ) (a1 : Int) (a2 : Int) (a3 : Int) (post' : Int → Prop) : Prop := v_X11_houseAt J a1 (fun r1 => (r1 = none → v_X11_readingAt J a2 (fun r2 => (r2 = none → post' (-2)) ∧ (∀ q3 : Nat, r2 = some q3 → post' (-2)))) ∧ (∀ q4 : Nat, r1 = some q4 → v_X11_readingAt J a2 (fun r5 => (r5 = none → post' (-2)) ∧ (∀ q6 : Nat, r5 = some q6 → (a3 = (-1) → (v_X11_makers_41 J a1 a2 a3 post') q6 q4) ∧ (¬ a3 = (-1) → v_X6_hasSound J q6 a3 (fun b7 => (b7 = true → (v_X11_makers_41 J a1 a2 a3 post') q6 q4) ∧ (b7 = false → post' (-2))))))))
theorem vw_X11_makers {J : mJ} {xa1 : Int32} {a1 : Int} {xa2 : Int32} {a2 : Int} {xa3 : Int32} {a3 : Int} (hJ : irm J)  (ea1 : xa1 = zi a1) (ia1 : ir a1) (ea2 : xa2 = zi a2) (ia2 : ir a2) (ea3 : xa3 = zi a3) (ia3 : ir a3) {post : Int32 → Prop} {post' : Int → Prop} (hp : ∀ (x : Int32) (r : Int), x = zi r → ir r → post' r → post x) (hv : v_X11_makers J a1 a2 a3 post') : w_X11_makers (zz J) xa1 xa2 xa3 post := by
  subst ea1
  subst ea2
  subst ea3
  unfold v_X11_makers at hv
  unfold w_X11_makers
  refine vw_X11_houseAt hJ (rfl : zi a1 = zi a1) ia1 (fun r1  hv => ?_) hv
  refine ⟨fun cq => ?_, fun q4 cq => ?_⟩
  · have hv := hv.1 cq
    refine vw_X11_readingAt hJ (rfl : zi a2 = zi a2) ia2 (fun r2  hv => ?_) hv
    refine ⟨fun cq => ?_, fun q3 cq => ?_⟩
    · have hv := hv.1 cq
      exact hp _ _ (by decide : ((-2) : Int32) = zi (-2)) (by decide : ir (-2)) hv
    · have hv := hv.2 q3 cq
      exact hp _ _ (by decide : ((-2) : Int32) = zi (-2)) (by decide : ir (-2)) hv
  · have hv := hv.2 q4 cq
    refine vw_X11_readingAt hJ (rfl : zi a2 = zi a2) ia2 (fun r5  hv => ?_) hv
    refine ⟨fun cq => ?_, fun q6 cq => ?_⟩
    · have hv := hv.1 cq
      exact hp _ _ (by decide : ((-2) : Int32) = zi (-2)) (by decide : ir (-2)) hv
    · have hv := hv.2 q6 cq
      refine ⟨fun cq => ?_, fun cq => ?_⟩
      · have hv := hv.1 ((zeq (rfl : zi a3 = zi a3) (by decide : ((-1) : Int32) = zi (-1)) ia3 (by decide : ir (-1))).mp cq)
        exact vw_X11_makers_41 hJ ia1 ia2 ia3 hp  hv
      · have hv := hv.2 (fun q => cq ((zeq (rfl : zi a3 = zi a3) (by decide : ((-1) : Int32) = zi (-1)) ia3 (by decide : ir (-1))).mpr q))
        refine vw_X6_hasSound hJ (rfl : zi a3 = zi a3) ia3 (fun b7  hv => ?_) hv
        refine ⟨fun cq => ?_, fun cq => ?_⟩
        · have hv := hv.1 cq
          exact vw_X11_makers_41 hJ ia1 ia2 ia3 hp  hv
        · have hv := hv.2 cq
          exact hp _ _ (by decide : ((-2) : Int32) = zi (-2)) (by decide : ir (-2)) hv
def v_X11_track (K : mK) (R : mR) (J : mJ) (L : mL) (a1 : Int) (a2 : Int) (a3 : Int) (post' : Int64 → mR → mJ → mL → Prop) : Prop := v_X11_houseAt J a1 (fun r1 => (r1 = none → v_X11_readingAt J a2 (fun r2 => (r2 = none → post' (-1 : Int64) R J L) ∧ (∀ q3 : Nat, r2 = some q3 → post' (-1 : Int64) R J L))) ∧ (∀ q4 : Nat, r1 = some q4 → v_X11_readingAt J a2 (fun r5 => (r5 = none → post' (-1 : Int64) R J L) ∧ (∀ q6 : Nat, r5 = some q6 → v_X3_hasPerson J q4 a3 (fun b7 => (b7 = true → v_X10_follow J 89 q4 q6 a3 (fun J8 => v_X10_waysOf K R J8 L 89 q4 q6 (fun r9 R10 L11 => post' r9 R10 J8 L11))) ∧ (b7 = false → post' (-1 : Int64) R J L))))))
theorem vw_X11_track {K : mK} {R : mR} {J : mJ} {L : mL} {xa1 : Int32} {a1 : Int} {xa2 : Int32} {a2 : Int} {xa3 : Int32} {a3 : Int} (hJ : irm J)     (ea1 : xa1 = zi a1) (ia1 : ir a1) (ea2 : xa2 = zi a2) (ia2 : ir a2) (ea3 : xa3 = zi a3) (ia3 : ir a3) {post : Int64 → mR → mI → mL → Prop} {post' : Int64 → mR → mJ → mL → Prop} (hp : ∀ (x r : Int64) (R1 : mR) (J1 : mJ) (L1 : mL), x = r → irm J1 → post' r R1 J1 L1 → post x R1 (zz J1) L1) (hv : v_X11_track K R J L a1 a2 a3 post') : w_X11_track K R (zz J) L xa1 xa2 xa3 post := by
  subst ea1
  subst ea2
  subst ea3
  unfold v_X11_track at hv
  unfold w_X11_track
  refine vw_X11_houseAt hJ (rfl : zi a1 = zi a1) ia1 (fun r1  hv => ?_) hv
  refine ⟨fun cq => ?_, fun q4 cq => ?_⟩
  · have hv := hv.1 cq
    refine vw_X11_readingAt hJ (rfl : zi a2 = zi a2) ia2 (fun r2  hv => ?_) hv
    refine ⟨fun cq => ?_, fun q3 cq => ?_⟩
    · have hv := hv.1 cq
      exact hp _ _ _ _ _ rfl hJ hv
    · have hv := hv.2 q3 cq
      exact hp _ _ _ _ _ rfl hJ hv
  · have hv := hv.2 q4 cq
    refine vw_X11_readingAt hJ (rfl : zi a2 = zi a2) ia2 (fun r5  hv => ?_) hv
    refine ⟨fun cq => ?_, fun q6 cq => ?_⟩
    · have hv := hv.1 cq
      exact hp _ _ _ _ _ rfl hJ hv
    · have hv := hv.2 q6 cq
      refine vw_X3_hasPerson hJ (rfl : zi a3 = zi a3) ia3 (fun b7  hv => ?_) hv
      refine ⟨fun cq => ?_, fun cq => ?_⟩
      · have hv := hv.1 cq
        refine vw_X10_follow hJ (rfl : zi a3 = zi a3) ia3 (fun J8 hJ hv => ?_) hv
        refine vw_X10_waysOf hJ  (fun xr9 r9 R10 L11 Er9 hv => ?_) hv
        exact hp _ _ _ _ _ Er9 hJ hv
      · have hv := hv.2 cq
        exact hp _ _ _ _ _ rfl hJ hv
def v_X11_spots_52 (a1 : Int) (a2 : Int) (a3 : Int) (a4 : Int) (post' : Int → mJ → Prop) (J : mJ) (q6 : Nat) (q4 : Nat) : Prop := v_X10_follow J 89 q4 q6 a3 (fun J9 => v_X10_narrow J9 89 q6 (fun J10 => (¬ a4 = (-1) → v_X10_spotsOf J10 89 a4 (fun r11 => post' r11 J10)) ∧ (a4 = (-1) → v_X10_sureCount J10 89 (fun r12 => post' r12 J10))))
theorem vw_X11_spots_52 {a1 : Int} {a2 : Int} {a3 : Int} {a4 : Int}  (ia1 : ir a1) (ia2 : ir a2) (ia3 : ir a3) (ia4 : ir a4) {post : Int32 → mI → Prop} {post' : Int → mJ → Prop} (hp : ∀ (x : Int32) (r : Int) (J1 : mJ), x = zi r → ir r → irm J1 → post' r J1 → post x (zz J1)) {J : mJ} {q6 : Nat} {q4 : Nat} (hJ : irm J) (hv : v_X11_spots_52 a1 a2 a3 a4 post' J q6 q4) : w_X11_spots_52 (zi a1) (zi a2) (zi a3) (zi a4) post (zz J) q6 q4 := by
  unfold v_X11_spots_52 at hv
  unfold w_X11_spots_52
  refine vw_X10_follow hJ (rfl : zi a3 = zi a3) ia3 (fun J9 hJ hv => ?_) hv
  refine vw_X10_narrow hJ  (fun J10 hJ hv => ?_) hv
  refine ⟨fun cq => ?_, fun cq => ?_⟩
  · have hv := hv.1 (fun q => cq ((zeq (rfl : zi a4 = zi a4) (by decide : ((-1) : Int32) = zi (-1)) ia4 (by decide : ir (-1))).mpr q))
    refine vw_X10_spotsOf hJ (rfl : zi a4 = zi a4) ia4 (fun xr11 r11 Er11 Ir11 hv => ?_) hv
    exact hp _ _ _ Er11 Ir11 hJ hv
  · have hv := hv.2 ((zeq (rfl : zi a4 = zi a4) (by decide : ((-1) : Int32) = zi (-1)) ia4 (by decide : ir (-1))).mp cq)
    refine vw_X10_sureCount hJ  (fun xr12 r12 Er12 Ir12 hv => ?_) hv
    exact hp _ _ _ Er12 Ir12 hJ hv
def v_X11_spots (J : mJ) (a1 : Int) (a2 : Int) (a3 : Int) (a4 : Int) (post' : Int → mJ → Prop) : Prop := v_X11_houseAt J a1 (fun r1 => (r1 = none → v_X11_readingAt J a2 (fun r2 => (r2 = none → post' (-2) J) ∧ (∀ q3 : Nat, r2 = some q3 → post' (-2) J))) ∧ (∀ q4 : Nat, r1 = some q4 → v_X11_readingAt J a2 (fun r5 => (r5 = none → post' (-2) J) ∧ (∀ q6 : Nat, r5 = some q6 → v_X3_hasPerson J q4 a3 (fun b7 => (b7 = false → post' (-2) J) ∧ (b7 = true → (a4 = (-1) → (v_X11_spots_52 a1 a2 a3 a4 post') J q6 q4) ∧ (¬ a4 = (-1) → v_X6_hasSound J q6 a4 (fun b8 => (b8 = true → (v_X11_spots_52 a1 a2 a3 a4 post') J q6 q4) ∧ (b8 = false → post' (-2) J)))))))))
theorem vw_X11_spots {J : mJ} {xa1 : Int32} {a1 : Int} {xa2 : Int32} {a2 : Int} {xa3 : Int32} {a3 : Int} {xa4 : Int32} {a4 : Int} (hJ : irm J)  (ea1 : xa1 = zi a1) (ia1 : ir a1) (ea2 : xa2 = zi a2) (ia2 : ir a2) (ea3 : xa3 = zi a3) (ia3 : ir a3) (ea4 : xa4 = zi a4) (ia4 : ir a4) {post : Int32 → mI → Prop} {post' : Int → mJ → Prop} (hp : ∀ (x : Int32) (r : Int) (J1 : mJ), x = zi r → ir r → irm J1 → post' r J1 → post x (zz J1)) (hv : v_X11_spots J a1 a2 a3 a4 post') : w_X11_spots (zz J) xa1 xa2 xa3 xa4 post := by
  subst ea1
  subst ea2
  subst ea3
  subst ea4
  unfold v_X11_spots at hv
  unfold w_X11_spots
  refine vw_X11_houseAt hJ (rfl : zi a1 = zi a1) ia1 (fun r1  hv => ?_) hv
  refine ⟨fun cq => ?_, fun q4 cq => ?_⟩
  · have hv := hv.1 cq
    refine vw_X11_readingAt hJ (rfl : zi a2 = zi a2) ia2 (fun r2  hv => ?_) hv
    refine ⟨fun cq => ?_, fun q3 cq => ?_⟩
    · have hv := hv.1 cq
      exact hp _ _ _ (by decide : ((-2) : Int32) = zi (-2)) (by decide : ir (-2)) hJ hv
    · have hv := hv.2 q3 cq
      exact hp _ _ _ (by decide : ((-2) : Int32) = zi (-2)) (by decide : ir (-2)) hJ hv
  · have hv := hv.2 q4 cq
    refine vw_X11_readingAt hJ (rfl : zi a2 = zi a2) ia2 (fun r5  hv => ?_) hv
    refine ⟨fun cq => ?_, fun q6 cq => ?_⟩
    · have hv := hv.1 cq
      exact hp _ _ _ (by decide : ((-2) : Int32) = zi (-2)) (by decide : ir (-2)) hJ hv
    · have hv := hv.2 q6 cq
      refine vw_X3_hasPerson hJ (rfl : zi a3 = zi a3) ia3 (fun b7  hv => ?_) hv
      refine ⟨fun cq => ?_, fun cq => ?_⟩
      · have hv := hv.1 cq
        exact hp _ _ _ (by decide : ((-2) : Int32) = zi (-2)) (by decide : ir (-2)) hJ hv
      · have hv := hv.2 cq
        refine ⟨fun cq => ?_, fun cq => ?_⟩
        · have hv := hv.1 ((zeq (rfl : zi a4 = zi a4) (by decide : ((-1) : Int32) = zi (-1)) ia4 (by decide : ir (-1))).mp cq)
          exact vw_X11_spots_52 ia1 ia2 ia3 ia4 hp hJ hv
        · have hv := hv.2 (fun q => cq ((zeq (rfl : zi a4 = zi a4) (by decide : ((-1) : Int32) = zi (-1)) ia4 (by decide : ir (-1))).mpr q))
          refine vw_X6_hasSound hJ (rfl : zi a4 = zi a4) ia4 (fun b8  hv => ?_) hv
          refine ⟨fun cq => ?_, fun cq => ?_⟩
          · have hv := hv.1 cq
            exact vw_X11_spots_52 ia1 ia2 ia3 ia4 hp hJ hv
          · have hv := hv.2 cq
            exact hp _ _ _ (by decide : ((-2) : Int32) = zi (-2)) (by decide : ir (-2)) hJ hv
def v_X11_drawn (J : mJ) (a1 : Int) (a2 : Int) (a3 : Int) (a4 : Int) (post' : Int → mJ → Prop) : Prop := v_X11_eveningAt J a1 (fun r1 J2 => (r1 = none → post' (-1) J2) ∧ (∀ q3 : Nat, r1 = some q3 → (a3 < 0 → post' (-1) J2) ∧ (¬ a3 < 0 → (a3 ≤ 100 → v_X1_play J2 84 q3 (hE q3) a2 a3 (fun J4 => (¬ a4 = 0 → (¬ a4 = 1 → (a4 < 20 → v_X11_pick J4 85 6 (subW a4 10) (J4 (hE q3) 3) (-1) (fun r5 => post' r5 J4)) ∧ (¬ a4 < 20 → v_X11_pick J4 86 6 (subW a4 20) (J4 (hE q3) 2) (-1) (fun r6 => post' r6 J4))) ∧ (a4 = 1 → v_X1_allNotes J4 84 (fun r7 => post' r7 J4))) ∧ (a4 = 0 → post' (J4 84 0) J4))) ∧ (¬ a3 ≤ 100 → post' (-1) J2))))
theorem vw_X11_drawn {J : mJ} {xa1 : Int32} {a1 : Int} {xa2 : Int32} {a2 : Int} {xa3 : Int32} {a3 : Int} {xa4 : Int32} {a4 : Int} (hJ : irm J)  (ea1 : xa1 = zi a1) (ia1 : ir a1) (ea2 : xa2 = zi a2) (ia2 : ir a2) (ea3 : xa3 = zi a3) (ia3 : ir a3) (ea4 : xa4 = zi a4) (ia4 : ir a4) {post : Int32 → mI → Prop} {post' : Int → mJ → Prop} (hp : ∀ (x : Int32) (r : Int) (J1 : mJ), x = zi r → ir r → irm J1 → post' r J1 → post x (zz J1)) (hv : v_X11_drawn J a1 a2 a3 a4 post') : w_X11_drawn (zz J) xa1 xa2 xa3 xa4 post := by
  subst ea1
  subst ea2
  subst ea3
  subst ea4
  unfold v_X11_drawn at hv
  unfold w_X11_drawn
  refine vw_X11_eveningAt hJ (rfl : zi a1 = zi a1) ia1 (fun r1 J2 hJ hv => ?_) hv
  refine ⟨fun cq => ?_, fun q3 cq => ?_⟩
  · have hv := hv.1 cq
    exact hp _ _ _ (by decide : ((-1) : Int32) = zi (-1)) (by decide : ir (-1)) hJ hv
  · have hv := hv.2 q3 cq
    refine ⟨fun cq => ?_, fun cq => ?_⟩
    · have hv := hv.1 ((zlt (rfl : zi a3 = zi a3) (by decide : (0 : Int32) = zi 0) ia3 (by decide : ir 0)).mp cq)
      exact hp _ _ _ (by decide : ((-1) : Int32) = zi (-1)) (by decide : ir (-1)) hJ hv
    · have hv := hv.2 (fun q => cq ((zlt (rfl : zi a3 = zi a3) (by decide : (0 : Int32) = zi 0) ia3 (by decide : ir 0)).mpr q))
      refine ⟨fun cq => ?_, fun cq => ?_⟩
      · have hv := hv.1 ((zle (rfl : zi a3 = zi a3) (by decide : (100 : Int32) = zi 100) ia3 (by decide : ir 100)).mp cq)
        refine vw_X1_play hJ (rfl : zi a2 = zi a2) ia2 (rfl : zi a3 = zi a3) ia3 (fun J4 hJ hv => ?_) hv
        refine ⟨fun cq => ?_, fun cq => ?_⟩
        · have hv := hv.1 (fun q => cq ((zeq (rfl : zi a4 = zi a4) (by decide : (0 : Int32) = zi 0) ia4 (by decide : ir 0)).mpr q))
          refine ⟨fun cq => ?_, fun cq => ?_⟩
          · have hv := hv.1 (fun q => cq ((zeq (rfl : zi a4 = zi a4) (by decide : (1 : Int32) = zi 1) ia4 (by decide : ir 1)).mpr q))
            refine ⟨fun cq => ?_, fun cq => ?_⟩
            · have hv := hv.1 ((zlt (rfl : zi a4 = zi a4) (by decide : (20 : Int32) = zi 20) ia4 (by decide : ir 20)).mp cq)
              refine vw_X11_pick hJ (z_subW (rfl : zi a4 = zi a4) (by decide : (10 : Int32) = zi 10)) (ir_toInt _) zrf (hJ _ _) (by decide : ((-1) : Int32) = zi (-1)) (by decide : ir (-1)) (fun xr5 r5 Er5 Ir5 hv => ?_) hv
              exact hp _ _ _ Er5 Ir5 hJ hv
            · have hv := hv.2 (fun q => cq ((zlt (rfl : zi a4 = zi a4) (by decide : (20 : Int32) = zi 20) ia4 (by decide : ir 20)).mpr q))
              refine vw_X11_pick hJ (z_subW (rfl : zi a4 = zi a4) (by decide : (20 : Int32) = zi 20)) (ir_toInt _) zrf (hJ _ _) (by decide : ((-1) : Int32) = zi (-1)) (by decide : ir (-1)) (fun xr6 r6 Er6 Ir6 hv => ?_) hv
              exact hp _ _ _ Er6 Ir6 hJ hv
          · have hv := hv.2 ((zeq (rfl : zi a4 = zi a4) (by decide : (1 : Int32) = zi 1) ia4 (by decide : ir 1)).mp cq)
            refine vw_X1_allNotes hJ  (fun xr7 r7 Er7 Ir7 hv => ?_) hv
            exact hp _ _ _ Er7 Ir7 hJ hv
        · have hv := hv.2 ((zeq (rfl : zi a4 = zi a4) (by decide : (0 : Int32) = zi 0) ia4 (by decide : ir 0)).mp cq)
          exact hp _ _ _ zrf (hJ _ _) hJ hv
      · have hv := hv.2 (fun q => cq ((zle (rfl : zi a3 = zi a3) (by decide : (100 : Int32) = zi 100) ia3 (by decide : ir 100)).mpr q))
        exact hp _ _ _ (by decide : ((-1) : Int32) = zi (-1)) (by decide : ir (-1)) hJ hv
def v_X11_ring (J : mJ) (a1 : Int) (a2 : Int) (post' : Int → mJ → Prop) : Prop := v_X11_eveningAt J a1 (fun r1 J2 => (r1 = none → post' (-1) J2) ∧ (∀ q3 : Nat, r1 = some q3 → (¬ (J2 q3 2) = 0 → (¬ a2 = (-1) → v_X11_pick J2 (q3 + 9) 600 a2 (J2 q3 2) (-1) (fun r4 => post' r4 J2)) ∧ (a2 = (-1) → v_X2_longestRing J2 q3 (hE q3) (fun r5 => post' r5 J2))) ∧ ((J2 q3 2) = 0 → post' (-1) J2)))
theorem vw_X11_ring {J : mJ} {xa1 : Int32} {a1 : Int} {xa2 : Int32} {a2 : Int} (hJ : irm J)  (ea1 : xa1 = zi a1) (ia1 : ir a1) (ea2 : xa2 = zi a2) (ia2 : ir a2) {post : Int32 → mI → Prop} {post' : Int → mJ → Prop} (hp : ∀ (x : Int32) (r : Int) (J1 : mJ), x = zi r → ir r → irm J1 → post' r J1 → post x (zz J1)) (hv : v_X11_ring J a1 a2 post') : w_X11_ring (zz J) xa1 xa2 post := by
  subst ea1
  subst ea2
  unfold v_X11_ring at hv
  unfold w_X11_ring
  refine vw_X11_eveningAt hJ (rfl : zi a1 = zi a1) ia1 (fun r1 J2 hJ hv => ?_) hv
  refine ⟨fun cq => ?_, fun q3 cq => ?_⟩
  · have hv := hv.1 cq
    exact hp _ _ _ (by decide : ((-1) : Int32) = zi (-1)) (by decide : ir (-1)) hJ hv
  · have hv := hv.2 q3 cq
    refine ⟨fun cq => ?_, fun cq => ?_⟩
    · have hv := hv.1 (fun q => cq ((zeq zrf (by decide : (0 : Int32) = zi 0) (hJ _ _) (by decide : ir 0)).mpr q))
      refine ⟨fun cq => ?_, fun cq => ?_⟩
      · have hv := hv.1 (fun q => cq ((zeq (rfl : zi a2 = zi a2) (by decide : ((-1) : Int32) = zi (-1)) ia2 (by decide : ir (-1))).mpr q))
        refine vw_X11_pick hJ (rfl : zi a2 = zi a2) ia2 zrf (hJ _ _) (by decide : ((-1) : Int32) = zi (-1)) (by decide : ir (-1)) (fun xr4 r4 Er4 Ir4 hv => ?_) hv
        exact hp _ _ _ Er4 Ir4 hJ hv
      · have hv := hv.2 ((zeq (rfl : zi a2 = zi a2) (by decide : ((-1) : Int32) = zi (-1)) ia2 (by decide : ir (-1))).mp cq)
        refine vw_X2_longestRing hJ  (fun xr5 r5 Er5 Ir5 hv => ?_) hv
        exact hp _ _ _ Er5 Ir5 hJ hv
    · have hv := hv.2 ((zeq zrf (by decide : (0 : Int32) = zi 0) (hJ _ _) (by decide : ir 0)).mp cq)
      exact hp _ _ _ (by decide : ((-1) : Int32) = zi (-1)) (by decide : ir (-1)) hJ hv
def v_X11_meet (J : mJ) (a1 : Int) (a2 : Int) (a3 : Int) (a4 : Int) (post' : Int → mJ → Prop) : Prop := v_X11_eveningAt J a1 (fun r1 J2 => (r1 = none → post' (-1) J2) ∧ (∀ q3 : Nat, r1 = some q3 → (a2 = a3 → post' (-1) J2) ∧ (¬ a2 = a3 → v_X3_hasPerson J2 (hE q3) a2 (fun b4 => (b4 = false → post' (-1) J2) ∧ (b4 = true → v_X3_hasPerson J2 (hE q3) a3 (fun b5 => (b5 = true → (a4 = 0 → v_X2_firstMeeting J2 q3 (hE q3) a2 a3 (fun r6 => post' r6 J2)) ∧ (¬ a4 = 0 → v_X2_passes J2 q3 (hE q3) a2 a3 (fun r7 => post' r7 J2))) ∧ (b5 = false → post' (-1) J2)))))))
theorem vw_X11_meet {J : mJ} {xa1 : Int32} {a1 : Int} {xa2 : Int32} {a2 : Int} {xa3 : Int32} {a3 : Int} {xa4 : Int32} {a4 : Int} (hJ : irm J)  (ea1 : xa1 = zi a1) (ia1 : ir a1) (ea2 : xa2 = zi a2) (ia2 : ir a2) (ea3 : xa3 = zi a3) (ia3 : ir a3) (ea4 : xa4 = zi a4) (ia4 : ir a4) {post : Int32 → mI → Prop} {post' : Int → mJ → Prop} (hp : ∀ (x : Int32) (r : Int) (J1 : mJ), x = zi r → ir r → irm J1 → post' r J1 → post x (zz J1)) (hv : v_X11_meet J a1 a2 a3 a4 post') : w_X11_meet (zz J) xa1 xa2 xa3 xa4 post := by
  subst ea1
  subst ea2
  subst ea3
  subst ea4
  unfold v_X11_meet at hv
  unfold w_X11_meet
  refine vw_X11_eveningAt hJ (rfl : zi a1 = zi a1) ia1 (fun r1 J2 hJ hv => ?_) hv
  refine ⟨fun cq => ?_, fun q3 cq => ?_⟩
  · have hv := hv.1 cq
    exact hp _ _ _ (by decide : ((-1) : Int32) = zi (-1)) (by decide : ir (-1)) hJ hv
  · have hv := hv.2 q3 cq
    refine ⟨fun cq => ?_, fun cq => ?_⟩
    · have hv := hv.1 ((zeq (rfl : zi a2 = zi a2) (rfl : zi a3 = zi a3) ia2 ia3).mp cq)
      exact hp _ _ _ (by decide : ((-1) : Int32) = zi (-1)) (by decide : ir (-1)) hJ hv
    · have hv := hv.2 (fun q => cq ((zeq (rfl : zi a2 = zi a2) (rfl : zi a3 = zi a3) ia2 ia3).mpr q))
      refine vw_X3_hasPerson hJ (rfl : zi a2 = zi a2) ia2 (fun b4  hv => ?_) hv
      refine ⟨fun cq => ?_, fun cq => ?_⟩
      · have hv := hv.1 cq
        exact hp _ _ _ (by decide : ((-1) : Int32) = zi (-1)) (by decide : ir (-1)) hJ hv
      · have hv := hv.2 cq
        refine vw_X3_hasPerson hJ (rfl : zi a3 = zi a3) ia3 (fun b5  hv => ?_) hv
        refine ⟨fun cq => ?_, fun cq => ?_⟩
        · have hv := hv.1 cq
          refine ⟨fun cq => ?_, fun cq => ?_⟩
          · have hv := hv.1 ((zeq (rfl : zi a4 = zi a4) (by decide : (0 : Int32) = zi 0) ia4 (by decide : ir 0)).mp cq)
            refine vw_X2_firstMeeting hJ (rfl : zi a2 = zi a2) ia2 (rfl : zi a3 = zi a3) ia3 (fun xr6 r6 Er6 Ir6 hv => ?_) hv
            exact hp _ _ _ Er6 Ir6 hJ hv
          · have hv := hv.2 (fun q => cq ((zeq (rfl : zi a4 = zi a4) (by decide : (0 : Int32) = zi 0) ia4 (by decide : ir 0)).mpr q))
            refine vw_X2_passes hJ (rfl : zi a2 = zi a2) ia2 (rfl : zi a3 = zi a3) ia3 (fun xr7 r7 Er7 Ir7 hv => ?_) hv
            exact hp _ _ _ Er7 Ir7 hJ hv
        · have hv := hv.2 cq
          exact hp _ _ _ (by decide : ((-1) : Int32) = zi (-1)) (by decide : ir (-1)) hJ hv
def v_X11_lookAtAll (J : mJ) (a1 : Nat) (a1h : Nat) (a2 : Int) (post' : Int → mJ → Prop) : Prop := (a2 = 0 → v_X2_longestHush J a1 a1h (fun r1 => post' r1 J)) ∧ (a2 = 1 → v_X2_busiestStep J a1 a1h (fun r2 J3 => post' r2 J3)) ∧ (a2 = 2 → v_X3_copies J a1h (fun r4 => post' r4 J)) ∧ (¬ a2 = 0 → ¬ a2 = 1 → ¬ a2 = 2 → post' (-2) J)
theorem vw_X11_lookAtAll {J : mJ} {a1 : Nat} {a1h : Nat} {xa2 : Int32} {a2 : Int} (hJ : irm J)    (ea2 : xa2 = zi a2) (ia2 : ir a2) {post : Int32 → mI → Prop} {post' : Int → mJ → Prop} (hp : ∀ (x : Int32) (r : Int) (J1 : mJ), x = zi r → ir r → irm J1 → post' r J1 → post x (zz J1)) (hv : v_X11_lookAtAll J a1 a1h a2 post') : w_X11_lookAtAll (zz J) a1 a1h xa2 post := by
  subst ea2
  unfold v_X11_lookAtAll at hv
  unfold w_X11_lookAtAll
  refine ⟨fun cq => ?_, fun cq => ?_, fun cq => ?_, fun c0 c1 c2 => ?_⟩
  · have hv := hv.1 ((zeq (rfl : zi a2 = zi a2) (by decide : (0 : Int32) = zi 0) ia2 (by decide : ir 0)).mp cq)
    refine vw_X2_longestHush hJ  (fun xr1 r1 Er1 Ir1 hv => ?_) hv
    exact hp _ _ _ Er1 Ir1 hJ hv
  · have hv := hv.2.1 ((zeq (rfl : zi a2 = zi a2) (by decide : (1 : Int32) = zi 1) ia2 (by decide : ir 1)).mp cq)
    refine vw_X2_busiestStep hJ  (fun xr2 r2 J3 Er2 Ir2 hJ hv => ?_) hv
    exact hp _ _ _ Er2 Ir2 hJ hv
  · have hv := hv.2.2.1 ((zeq (rfl : zi a2 = zi a2) (by decide : (2 : Int32) = zi 2) ia2 (by decide : ir 2)).mp cq)
    refine vw_X3_copies hJ  (fun xr4 r4 Er4 Ir4 hv => ?_) hv
    exact hp _ _ _ Er4 Ir4 hJ hv
  · have hv := hv.2.2.2 (fun q => c0 ((zeq (rfl : zi a2 = zi a2) (by decide : (0 : Int32) = zi 0) ia2 (by decide : ir 0)).mpr q)) (fun q => c1 ((zeq (rfl : zi a2 = zi a2) (by decide : (1 : Int32) = zi 1) ia2 (by decide : ir 1)).mpr q)) (fun q => c2 ((zeq (rfl : zi a2 = zi a2) (by decide : (2 : Int32) = zi 2) ia2 (by decide : ir 2)).mpr q))
    exact hp _ _ _ (by decide : ((-2) : Int32) = zi (-2)) (by decide : ir (-2)) hJ hv
def v_X11_bestBegin (J : mJ) (a1 : Nat) (a1h : Nat) (a2 : Int) (post' : Int → mJ → Prop) : Prop := v_X3_walks J a1h a2 (fun b1 => (b1 = true → v_X4_watch J 66 a1 a1h a2 0 100 (fun J2 => v_X0_best J2 75 a1 a1h 66 a2 (fun r3 J4 => post' r3 J4))) ∧ (b1 = false → post' (-1) J))
theorem vw_X11_bestBegin {J : mJ} {a1 : Nat} {a1h : Nat} {xa2 : Int32} {a2 : Int} (hJ : irm J)    (ea2 : xa2 = zi a2) (ia2 : ir a2) {post : Int32 → mI → Prop} {post' : Int → mJ → Prop} (hp : ∀ (x : Int32) (r : Int) (J1 : mJ), x = zi r → ir r → irm J1 → post' r J1 → post x (zz J1)) (hv : v_X11_bestBegin J a1 a1h a2 post') : w_X11_bestBegin (zz J) a1 a1h xa2 post := by
  subst ea2
  unfold v_X11_bestBegin at hv
  unfold w_X11_bestBegin
  refine vw_X3_walks hJ (rfl : zi a2 = zi a2) ia2 (fun b1  hv => ?_) hv
  refine ⟨fun cq => ?_, fun cq => ?_⟩
  · have hv := hv.1 cq
    refine vw_X4_watch hJ (rfl : zi a2 = zi a2) ia2 (by decide : (0 : Int32) = zi 0) (by decide : ir 0) (by decide : (100 : Int32) = zi 100) (by decide : ir 100) (fun J2 hJ hv => ?_) hv
    refine vw_X0_best hJ (rfl : zi a2 = zi a2) ia2 (fun xr3 r3 J4 Er3 Ir3 hJ hv => ?_) hv
    exact hp _ _ _ Er3 Ir3 hJ hv
  · have hv := hv.2 cq
    exact hp _ _ _ (by decide : ((-1) : Int32) = zi (-1)) (by decide : ir (-1)) hJ hv
def v_X11_look (J : mJ) (a1 : Int) (a2 : Int) (post' : Int → mJ → Prop) : Prop := v_X11_eveningAt J a1 (fun r1 J2 => (r1 = none → post' (-2) J2) ∧ (∀ q3 : Nat, r1 = some q3 → (0 ≤ a2 → ∀ y4, y4 = (remZ a2 10) → ∀ y5, y5 = (divZ a2 10) → (y5 = 0 → v_X11_lookAtAll J2 q3 (hE q3) a2 (fun r6 J7 => post' r6 J7)) ∧ (y5 = 1 → v_X3_hasFlat J2 (hE q3) y4 (fun b8 => (b8 = false → post' (-2) J2) ∧ (b8 = true → v_X2_shoesHeard J2 q3 (hE q3) y4 (fun r9 => post' r9 J2)))) ∧ (y5 = 2 → v_X3_hasFlat J2 (hE q3) y4 (fun b10 => (b10 = false → post' (-2) J2) ∧ (b10 = true → v_X2_quietestStep J2 q3 (hE q3) y4 (fun r11 J12 => post' r11 J12)))) ∧ (y5 = 3 → v_X3_hasPerson J2 (hE q3) y4 (fun b13 => (b13 = false → post' (-2) J2) ∧ (b13 = true → v_X2_loudestUnheardShoe J2 q3 (hE q3) y4 (fun r14 => post' r14 J2)))) ∧ (y5 = 4 → v_X3_hasPerson J2 (hE q3) y4 (fun b15 => (b15 = false → post' (-2) J2) ∧ (b15 = true → v_X11_bestBegin J2 q3 (hE q3) y4 (fun r16 J17 => post' r16 J17)))) ∧ (¬ y5 = 0 → ¬ y5 = 1 → ¬ y5 = 2 → ¬ y5 = 3 → ¬ y5 = 4 → post' (-2) J2)) ∧ (¬ 0 ≤ a2 → post' (-2) J2)))
theorem vw_X11_look {J : mJ} {xa1 : Int32} {a1 : Int} {xa2 : Int32} {a2 : Int} (hJ : irm J)  (ea1 : xa1 = zi a1) (ia1 : ir a1) (ea2 : xa2 = zi a2) (ia2 : ir a2) {post : Int32 → mI → Prop} {post' : Int → mJ → Prop} (hp : ∀ (x : Int32) (r : Int) (J1 : mJ), x = zi r → ir r → irm J1 → post' r J1 → post x (zz J1)) (hv : v_X11_look J a1 a2 post') : w_X11_look (zz J) xa1 xa2 post := by
  subst ea1
  subst ea2
  unfold v_X11_look at hv
  unfold w_X11_look
  refine vw_X11_eveningAt hJ (rfl : zi a1 = zi a1) ia1 (fun r1 J2 hJ hv => ?_) hv
  refine ⟨fun cq => ?_, fun q3 cq => ?_⟩
  · have hv := hv.1 cq
    exact hp _ _ _ (by decide : ((-2) : Int32) = zi (-2)) (by decide : ir (-2)) hJ hv
  · have hv := hv.2 q3 cq
    refine ⟨fun cq => ?_, fun cq => ?_⟩
    · have hv := hv.1 ((zle (by decide : (0 : Int32) = zi 0) (rfl : zi a2 = zi a2) (by decide : ir 0) ia2).mp cq)
      intro xy4 exy4
      obtain ⟨y4, eyy4⟩ : ∃ q9 : Int, q9 = (remZ a2 10) := ⟨_, rfl⟩
      have hv := hv y4 eyy4
      have Ey4 : xy4 = zi y4 := exy4.trans (((z_rem (rfl : zi a2 = zi a2) (by decide : (10 : Int32) = zi 10))).trans (congrArg zi eyy4.symm))
      have Iy4 : ir y4 := by rw [eyy4]; exact (ir_toInt _)
      clear exy4
      intro xy5 exy5
      obtain ⟨y5, eyy5⟩ : ∃ q9 : Int, q9 = (divZ a2 10) := ⟨_, rfl⟩
      have hv := hv y5 eyy5
      have Ey5 : xy5 = zi y5 := exy5.trans (((z_div (rfl : zi a2 = zi a2) (by decide : (10 : Int32) = zi 10))).trans (congrArg zi eyy5.symm))
      have Iy5 : ir y5 := by rw [eyy5]; exact (ir_toInt _)
      clear exy5
      refine ⟨fun cq => ?_, fun cq => ?_, fun cq => ?_, fun cq => ?_, fun cq => ?_, fun c0 c1 c2 c3 c4 => ?_⟩
      · have hv := hv.1 ((zeq Ey5 (by decide : (0 : Int32) = zi 0) Iy5 (by decide : ir 0)).mp cq)
        refine vw_X11_lookAtAll hJ (rfl : zi a2 = zi a2) ia2 (fun xr6 r6 J7 Er6 Ir6 hJ hv => ?_) hv
        exact hp _ _ _ Er6 Ir6 hJ hv
      · have hv := hv.2.1 ((zeq Ey5 (by decide : (1 : Int32) = zi 1) Iy5 (by decide : ir 1)).mp cq)
        refine vw_X3_hasFlat hJ Ey4 Iy4 (fun b8  hv => ?_) hv
        refine ⟨fun cq => ?_, fun cq => ?_⟩
        · have hv := hv.1 cq
          exact hp _ _ _ (by decide : ((-2) : Int32) = zi (-2)) (by decide : ir (-2)) hJ hv
        · have hv := hv.2 cq
          refine vw_X2_shoesHeard hJ Ey4 Iy4 (fun xr9 r9 Er9 Ir9 hv => ?_) hv
          exact hp _ _ _ Er9 Ir9 hJ hv
      · have hv := hv.2.2.1 ((zeq Ey5 (by decide : (2 : Int32) = zi 2) Iy5 (by decide : ir 2)).mp cq)
        refine vw_X3_hasFlat hJ Ey4 Iy4 (fun b10  hv => ?_) hv
        refine ⟨fun cq => ?_, fun cq => ?_⟩
        · have hv := hv.1 cq
          exact hp _ _ _ (by decide : ((-2) : Int32) = zi (-2)) (by decide : ir (-2)) hJ hv
        · have hv := hv.2 cq
          refine vw_X2_quietestStep hJ Ey4 Iy4 (fun xr11 r11 J12 Er11 Ir11 hJ hv => ?_) hv
          exact hp _ _ _ Er11 Ir11 hJ hv
      · have hv := hv.2.2.2.1 ((zeq Ey5 (by decide : (3 : Int32) = zi 3) Iy5 (by decide : ir 3)).mp cq)
        refine vw_X3_hasPerson hJ Ey4 Iy4 (fun b13  hv => ?_) hv
        refine ⟨fun cq => ?_, fun cq => ?_⟩
        · have hv := hv.1 cq
          exact hp _ _ _ (by decide : ((-2) : Int32) = zi (-2)) (by decide : ir (-2)) hJ hv
        · have hv := hv.2 cq
          refine vw_X2_loudestUnheardShoe hJ Ey4 Iy4 (fun xr14 r14 Er14 Ir14 hv => ?_) hv
          exact hp _ _ _ Er14 Ir14 hJ hv
      · have hv := hv.2.2.2.2.1 ((zeq Ey5 (by decide : (4 : Int32) = zi 4) Iy5 (by decide : ir 4)).mp cq)
        refine vw_X3_hasPerson hJ Ey4 Iy4 (fun b15  hv => ?_) hv
        refine ⟨fun cq => ?_, fun cq => ?_⟩
        · have hv := hv.1 cq
          exact hp _ _ _ (by decide : ((-2) : Int32) = zi (-2)) (by decide : ir (-2)) hJ hv
        · have hv := hv.2 cq
          refine vw_X11_bestBegin hJ Ey4 Iy4 (fun xr16 r16 J17 Er16 Ir16 hJ hv => ?_) hv
          exact hp _ _ _ Er16 Ir16 hJ hv
      · have hv := hv.2.2.2.2.2 (fun q => c0 ((zeq Ey5 (by decide : (0 : Int32) = zi 0) Iy5 (by decide : ir 0)).mpr q)) (fun q => c1 ((zeq Ey5 (by decide : (1 : Int32) = zi 1) Iy5 (by decide : ir 1)).mpr q)) (fun q => c2 ((zeq Ey5 (by decide : (2 : Int32) = zi 2) Iy5 (by decide : ir 2)).mpr q)) (fun q => c3 ((zeq Ey5 (by decide : (3 : Int32) = zi 3) Iy5 (by decide : ir 3)).mpr q)) (fun q => c4 ((zeq Ey5 (by decide : (4 : Int32) = zi 4) Iy5 (by decide : ir 4)).mpr q))
        exact hp _ _ _ (by decide : ((-2) : Int32) = zi (-2)) (by decide : ir (-2)) hJ hv
    · have hv := hv.2 (fun q => cq ((zle (by decide : (0 : Int32) = zi 0) (rfl : zi a2 = zi a2) (by decide : ir 0) ia2).mpr q))
      exact hp _ _ _ (by decide : ((-2) : Int32) = zi (-2)) (by decide : ir (-2)) hJ hv
def v_X11_count (J : mJ) (a1 : Int) (post' : Int → Prop) : Prop := v_X11_howMany J a1 (fun r1 => post' r1)
theorem vw_X11_count {J : mJ} {xa1 : Int32} {a1 : Int} (hJ : irm J)  (ea1 : xa1 = zi a1) (ia1 : ir a1) {post : Int32 → Prop} {post' : Int → Prop} (hp : ∀ (x : Int32) (r : Int), x = zi r → ir r → post' r → post x) (hv : v_X11_count J a1 post') : w_X11_count (zz J) xa1 post := by
  subst ea1
  unfold v_X11_count at hv
  unfold w_X11_count
  refine vw_X11_howMany hJ (rfl : zi a1 = zi a1) ia1 (fun xr1 r1 Er1 Ir1 hv => ?_) hv
  exact hp _ _ Er1 Ir1 hv
def v_X11_again_35 (K : mK) (R : mR) (a1 : Int) (post' : Bool → mJ → Prop) (J : mJ) (v2 : Int) : Prop := ∀ ZZ : (mJ → Int → Prop), (∀ (J : mJ) (v2 : Int), ((2 ≤ v2 → post' true J) ∧ (¬ 2 ≤ v2 → v_X11_forgetEvening J v2 (fun J6 => ir (v2 + 1) ∧ ∀ y8, y8 = v2 + 1 → ZZ J6 y8))) → ZZ J v2) → ZZ J v2
theorem vw_X11_again_35 {K : mK} {R : mR} {a1 : Int}  (ia1 : ir a1) {post : Bool → mI → Prop} {post' : Bool → mJ → Prop} (hp : ∀ (r : Bool) (J1 : mJ), irm J1 → post' r J1 → post r (zz J1)) {J : mJ} {xv2 : Int32} {v2 : Int} (hJ : irm J) (ev2 : xv2 = zi v2) (iv2 : ir v2) (hv : v_X11_again_35 K R a1 post' J v2) : w_X11_again_35 K R (zi a1) post (zz J) xv2 := by
  subst ev2
  unfold v_X11_again_35 at hv
  unfold w_X11_again_35
  intro ZZ hZ
  refine hv (fun J v2 => ∀ (xv2 : Int32), irm J → xv2 = zi v2 → ir v2 → ZZ (zz J) xv2) ?_ _ hJ rfl iv2
  clear hv hJ iv2
  intro J v2 hv xv2 hJ ev2 iv2
  subst ev2
  refine hZ _ _ ?_
  refine ⟨fun cq => ?_, fun cq => ?_⟩
  · have hv := hv.1 ((zle (by decide : (2 : Int32) = zi 2) (rfl : zi v2 = zi v2) (by decide : ir 2) iv2).mp cq)
    exact hp _ _ hJ hv
  · have hv := hv.2 (fun q => cq ((zle (by decide : (2 : Int32) = zi 2) (rfl : zi v2 = zi v2) (by decide : ir 2) iv2).mpr q))
    refine vw_X11_forgetEvening hJ (rfl : zi v2 = zi v2) iv2 (fun J6 hJ hv => ?_) hv
    obtain ⟨g7, hv⟩ := hv
    intro xy8 exy8
    obtain ⟨y8, eyy8⟩ : ∃ q9 : Int, q9 = v2 + 1 := ⟨_, rfl⟩
    have hv := hv y8 eyy8
    have Ey8 : xy8 = zi y8 := exy8.trans (((za (rfl : zi v2 = zi v2) (by decide : (1 : Int32) = zi 1))).trans (congrArg zi eyy8.symm))
    have Iy8 : ir y8 := by rw [eyy8]; exact g7
    clear exy8
    exact hv _ hJ Ey8 Iy8
def v_X11_again (K : mK) (R : mR) (J : mJ) (a1 : Int) (post' : Bool → mJ → Prop) : Prop := (a1 < 0 → post' false J) ∧ (¬ a1 < 0 → (3 ≤ a1 → post' false J) ∧ (¬ 3 ≤ a1 → (0 ≤ a1 ∧ a1 < 3) ∧ (R 43 a1.toNat = none → post' false J) ∧ (∀ q2, R 43 a1.toNat = some q2 → isX8 K R q2 ∧ (0 ≤ a1 ∧ a1 < 3) ∧ (R 43 a1.toNat = none → False) ∧ (∀ q4, R 43 a1.toNat = some q4 → isX8 K R q4 ∧ v_X8_copyFrom J 1 q4 (fun J5 => (v_X11_again_35 K R a1 post') J5 0)))))
theorem vw_X11_again {K : mK} {R : mR} {J : mJ} {xa1 : Int32} {a1 : Int} (hJ : irm J)    (ea1 : xa1 = zi a1) (ia1 : ir a1) {post : Bool → mI → Prop} {post' : Bool → mJ → Prop} (hp : ∀ (r : Bool) (J1 : mJ), irm J1 → post' r J1 → post r (zz J1)) (hv : v_X11_again K R J a1 post') : w_X11_again K R (zz J) xa1 post := by
  subst ea1
  unfold v_X11_again at hv
  unfold w_X11_again
  refine ⟨fun cq => ?_, fun cq => ?_⟩
  · have hv := hv.1 ((zlt (rfl : zi a1 = zi a1) (by decide : (0 : Int32) = zi 0) ia1 (by decide : ir 0)).mp cq)
    exact hp _ _ hJ hv
  · have hv := hv.2 (fun q => cq ((zlt (rfl : zi a1 = zi a1) (by decide : (0 : Int32) = zi 0) ia1 (by decide : ir 0)).mpr q))
    refine ⟨fun cq => ?_, fun cq => ?_⟩
    · have hv := hv.1 ((zle (by decide : (3 : Int32) = zi 3) (rfl : zi a1 = zi a1) (by decide : ir 3) ia1).mp cq)
      exact hp _ _ hJ hv
    · have hv := hv.2 (fun q => cq ((zle (by decide : (3 : Int32) = zi 3) (rfl : zi a1 = zi a1) (by decide : ir 3) ia1).mpr q))
      obtain ⟨g1, hv⟩ := hv
      refine ⟨zvp (rfl : zi a1 = zi a1) ia1 g1.1 g1.2, ?_⟩
      try simp only [zcl (rfl : zi a1 = zi a1) ia1 g1.1]
      refine ⟨fun cq => ?_, fun q2 cq => ?_⟩
      · have hv := hv.1 cq
        exact hp _ _ hJ hv
      · obtain ⟨hsq2, hv⟩ := hv.2 q2 cq
        refine ⟨hsq2, ?_⟩
        obtain ⟨g3, hv⟩ := hv
        refine ⟨zvp (rfl : zi a1 = zi a1) ia1 g3.1 g3.2, ?_⟩
        try simp only [zcl (rfl : zi a1 = zi a1) ia1 g3.1]
        refine ⟨fun cq => ?_, fun q4 cq => ?_⟩
        · have hv := hv.1 cq
          exact hv
        · obtain ⟨hsq4, hv⟩ := hv.2 q4 cq
          refine ⟨hsq4, ?_⟩
          refine vw_X8_copyFrom hJ  (fun J5 hJ hv => ?_) hv
          exact vw_X11_again_35 ia1 hp hJ (by decide : (0 : Int32) = zi 0) (by decide : ir 0) hv
def v_X12_isIn (a1 : Int) (a2 : Int) (a3 : Int) (post' : Bool → Prop) : Prop := (a1 < a2 → post' false) ∧ (¬ a1 < a2 → (a3 < a1 → post' false) ∧ (¬ a3 < a1 → post' true))
theorem vw_X12_isIn {xa1 : Int32} {a1 : Int} {xa2 : Int32} {a2 : Int} {xa3 : Int32} {a3 : Int}  (ea1 : xa1 = zi a1) (ia1 : ir a1) (ea2 : xa2 = zi a2) (ia2 : ir a2) (ea3 : xa3 = zi a3) (ia3 : ir a3) {post : Bool → Prop} {post' : Bool → Prop} (hp : ∀ (r : Bool), post' r → post r) (hv : v_X12_isIn a1 a2 a3 post') : w_X12_isIn xa1 xa2 xa3 post := by
  subst ea1
  subst ea2
  subst ea3
  unfold v_X12_isIn at hv
  unfold w_X12_isIn
  refine ⟨fun cq => ?_, fun cq => ?_⟩
  · have hv := hv.1 ((zlt (rfl : zi a1 = zi a1) (rfl : zi a2 = zi a2) ia1 ia2).mp cq)
    exact hp _ hv
  · have hv := hv.2 (fun q => cq ((zlt (rfl : zi a1 = zi a1) (rfl : zi a2 = zi a2) ia1 ia2).mpr q))
    refine ⟨fun cq => ?_, fun cq => ?_⟩
    · have hv := hv.1 ((zlt (rfl : zi a3 = zi a3) (rfl : zi a1 = zi a1) ia3 ia1).mp cq)
      exact hp _ hv
    · have hv := hv.2 (fun q => cq ((zlt (rfl : zi a3 = zi a3) (rfl : zi a1 = zi a1) ia3 ia1).mpr q))
      exact hp _ hv
def v_X12_feed_73 (o : Nat) (a1 : Int) (a2 : Int) (a3 : Int) (a4 : Int) (a5 : Int) (post' : Int → mJ → Prop) (k20' : mJ → Int → Prop) (J : mJ) (v6 : Int) (s0 : Int) : Prop := ir (10 + (J (o + 1) 2)) ∧ ir (8 * (remZ v6 4)) ∧ ir (24 - (8 * (remZ v6 4))) ∧ (0 ≤ (10 + (J (o + 1) 2)) ∧ (10 + (J (o + 1) 2)) < 3960) ∧ ∀ J9, J9 = up2 J (o + 1) ((10 + (J (o + 1) 2)).toNat) (andZ (shrZ s0 (24 - (8 * (remZ v6 4)))) 255) → ir ((J9 (o + 1) 2) + 1) ∧ ∀ J13, J13 = up2 J9 (o + 1) 2 ((J9 (o + 1) 2) + 1) → ir (v6 + 1) ∧ ∀ y15, y15 = v6 + 1 → k20' J13 y15
theorem vw_X12_feed_73 {o : Nat} {a1 : Int} {a2 : Int} {a3 : Int} {a4 : Int} {a5 : Int}  (ia1 : ir a1) (ia2 : ir a2) (ia3 : ir a3) (ia4 : ir a4) (ia5 : ir a5) {post : Int32 → mI → Prop} {post' : Int → mJ → Prop} {k20' : mJ → Int → Prop} {k20 : mI → Int32 → Prop} (hp : ∀ (x : Int32) (r : Int) (J1 : mJ), x = zi r → ir r → irm J1 → post' r J1 → post x (zz J1)) (hk20 : ∀ (J : mJ) (xv6 : Int32) (v6 : Int), irm J → xv6 = zi v6 → ir v6 → k20' J v6 → k20 (zz J) xv6) {J : mJ} {xv6 : Int32} {v6 : Int} {xs0 : Int32} {s0 : Int} (hJ : irm J) (ev6 : xv6 = zi v6) (iv6 : ir v6) (es0 : xs0 = zi s0) (is0 : ir s0) (hv : v_X12_feed_73 o a1 a2 a3 a4 a5 post' k20' J v6 s0) : w_X12_feed_73 o (zi a1) (zi a2) (zi a3) (zi a4) (zi a5) post k20 (zz J) xv6 xs0 := by
  subst ev6
  subst es0
  unfold v_X12_feed_73 at hv
  unfold w_X12_feed_73
  obtain ⟨g5, hv⟩ := hv
  obtain ⟨g6, hv⟩ := hv
  obtain ⟨g7, hv⟩ := hv
  obtain ⟨g8, hv⟩ := hv
  refine ⟨zvp (za (by decide : (10 : Int32) = zi 10) (zrd (by decide : (2 : Int32) = zi 2) (by decide : ir 2) (by decide))) g5 g8.1 g8.2, ?_⟩
  intro I1 eI1
  obtain ⟨J9, eJ9⟩ : ∃ q9 : mJ, q9 = up2 J (o + 1) ((10 + (J (o + 1) 2)).toNat) (andZ (shrZ s0 (24 - (8 * (remZ v6 4)))) 255) := ⟨_, rfl⟩
  have eI1 : I1 = zz J9 := by rw [eI1, eJ9]; exact zupa (za (by decide : (10 : Int32) = zi 10) (zrd (by decide : (2 : Int32) = zi 2) (by decide : ir 2) (by decide))) g5 g8.1 (z_and (z_shr (rfl : zi s0 = zi s0) (zs (by decide : (24 : Int32) = zi 24) (zm (by decide : (8 : Int32) = zi 8) (z_rem (rfl : zi v6 = zi v6) (by decide : (4 : Int32) = zi 4))))) (by decide : (255 : Int32) = zi 255))
  subst eI1
  have hv := hv J9 eJ9
  have hJ : irm J9 := by rw [eJ9]; exact irm_up hJ (ir_toInt _)
  obtain ⟨g11, hv⟩ := hv
  intro I1 eI1
  obtain ⟨J13, eJ13⟩ : ∃ q9 : mJ, q9 = up2 J9 (o + 1) 2 ((J9 (o + 1) 2) + 1) := ⟨_, rfl⟩
  have eI1 : I1 = zz J13 := by rw [eI1, eJ13]; exact zupa (by decide : (2 : Int32) = zi 2) (by decide : ir 2) (by decide) (za (zrd (by decide : (2 : Int32) = zi 2) (by decide : ir 2) (by decide)) (by decide : (1 : Int32) = zi 1))
  subst eI1
  have hv := hv J13 eJ13
  have hJ : irm J13 := by rw [eJ13]; exact irm_up hJ g11
  obtain ⟨g14, hv⟩ := hv
  intro xy15 exy15
  obtain ⟨y15, eyy15⟩ : ∃ q9 : Int, q9 = v6 + 1 := ⟨_, rfl⟩
  have hv := hv y15 eyy15
  have Ey15 : xy15 = zi y15 := exy15.trans (((za (rfl : zi v6 = zi v6) (by decide : (1 : Int32) = zi 1))).trans (congrArg zi eyy15.symm))
  have Iy15 : ir y15 := by rw [eyy15]; exact g14
  clear exy15
  exact hk20 _ _ _ hJ Ey15 Iy15 hv
def v_X12_feed_20 (o : Nat) (a1 : Int) (a2 : Int) (a3 : Int) (a4 : Int) (a5 : Int) (post' : Int → mJ → Prop) (J : mJ) (v6 : Int) : Prop := ∀ ZZ : (mJ → Int → Prop), (∀ (J : mJ) (v6 : Int), ((20 ≤ v6 → post' (J (o + 1) 2) J) ∧ (¬ 20 ≤ v6 → (4 ≤ v6 → (8 ≤ v6 → (12 ≤ v6 → (16 ≤ v6 → (v_X12_feed_73 o a1 a2 a3 a4 a5 post' ZZ) J v6 a5) ∧ (¬ 16 ≤ v6 → (v_X12_feed_73 o a1 a2 a3 a4 a5 post' ZZ) J v6 a4)) ∧ (¬ 12 ≤ v6 → (v_X12_feed_73 o a1 a2 a3 a4 a5 post' ZZ) J v6 a3)) ∧ (¬ 8 ≤ v6 → (v_X12_feed_73 o a1 a2 a3 a4 a5 post' ZZ) J v6 a2)) ∧ (¬ 4 ≤ v6 → (v_X12_feed_73 o a1 a2 a3 a4 a5 post' ZZ) J v6 a1))) → ZZ J v6) → ZZ J v6
theorem vw_X12_feed_20 {o : Nat} {a1 : Int} {a2 : Int} {a3 : Int} {a4 : Int} {a5 : Int}  (ia1 : ir a1) (ia2 : ir a2) (ia3 : ir a3) (ia4 : ir a4) (ia5 : ir a5) {post : Int32 → mI → Prop} {post' : Int → mJ → Prop} (hp : ∀ (x : Int32) (r : Int) (J1 : mJ), x = zi r → ir r → irm J1 → post' r J1 → post x (zz J1)) {J : mJ} {xv6 : Int32} {v6 : Int} (hJ : irm J) (ev6 : xv6 = zi v6) (iv6 : ir v6) (hv : v_X12_feed_20 o a1 a2 a3 a4 a5 post' J v6) : w_X12_feed_20 o (zi a1) (zi a2) (zi a3) (zi a4) (zi a5) post (zz J) xv6 := by
  subst ev6
  unfold v_X12_feed_20 at hv
  unfold w_X12_feed_20
  intro ZZ hZ
  refine hv (fun J v6 => ∀ (xv6 : Int32), irm J → xv6 = zi v6 → ir v6 → ZZ (zz J) xv6) ?_ _ hJ rfl iv6
  clear hv hJ iv6
  intro J v6 hv xv6 hJ ev6 iv6
  subst ev6
  refine hZ _ _ ?_
  refine ⟨fun cq => ?_, fun cq => ?_⟩
  · have hv := hv.1 ((zle (by decide : (20 : Int32) = zi 20) (rfl : zi v6 = zi v6) (by decide : ir 20) iv6).mp cq)
    exact hp _ _ _ (zrd (by decide : (2 : Int32) = zi 2) (by decide : ir 2) (by decide)) (hJ _ _) hJ hv
  · have hv := hv.2 (fun q => cq ((zle (by decide : (20 : Int32) = zi 20) (rfl : zi v6 = zi v6) (by decide : ir 20) iv6).mpr q))
    refine ⟨fun cq => ?_, fun cq => ?_⟩
    · have hv := hv.1 ((zle (by decide : (4 : Int32) = zi 4) (rfl : zi v6 = zi v6) (by decide : ir 4) iv6).mp cq)
      refine ⟨fun cq => ?_, fun cq => ?_⟩
      · have hv := hv.1 ((zle (by decide : (8 : Int32) = zi 8) (rfl : zi v6 = zi v6) (by decide : ir 8) iv6).mp cq)
        refine ⟨fun cq => ?_, fun cq => ?_⟩
        · have hv := hv.1 ((zle (by decide : (12 : Int32) = zi 12) (rfl : zi v6 = zi v6) (by decide : ir 12) iv6).mp cq)
          refine ⟨fun cq => ?_, fun cq => ?_⟩
          · have hv := hv.1 ((zle (by decide : (16 : Int32) = zi 16) (rfl : zi v6 = zi v6) (by decide : ir 16) iv6).mp cq)
            refine vw_X12_feed_73 ia1 ia2 ia3 ia4 ia5 hp ?_ hJ (rfl : zi v6 = zi v6) iv6 (rfl : zi a5 = zi a5) ia5 hv
            · intro qq xx vv hJ ev6 iv6 hv
              exact hv _ hJ ev6 iv6
          · have hv := hv.2 (fun q => cq ((zle (by decide : (16 : Int32) = zi 16) (rfl : zi v6 = zi v6) (by decide : ir 16) iv6).mpr q))
            refine vw_X12_feed_73 ia1 ia2 ia3 ia4 ia5 hp ?_ hJ (rfl : zi v6 = zi v6) iv6 (rfl : zi a4 = zi a4) ia4 hv
            · intro qq xx vv hJ ev6 iv6 hv
              exact hv _ hJ ev6 iv6
        · have hv := hv.2 (fun q => cq ((zle (by decide : (12 : Int32) = zi 12) (rfl : zi v6 = zi v6) (by decide : ir 12) iv6).mpr q))
          refine vw_X12_feed_73 ia1 ia2 ia3 ia4 ia5 hp ?_ hJ (rfl : zi v6 = zi v6) iv6 (rfl : zi a3 = zi a3) ia3 hv
          · intro qq xx vv hJ ev6 iv6 hv
            exact hv _ hJ ev6 iv6
      · have hv := hv.2 (fun q => cq ((zle (by decide : (8 : Int32) = zi 8) (rfl : zi v6 = zi v6) (by decide : ir 8) iv6).mpr q))
        refine vw_X12_feed_73 ia1 ia2 ia3 ia4 ia5 hp ?_ hJ (rfl : zi v6 = zi v6) iv6 (rfl : zi a2 = zi a2) ia2 hv
        · intro qq xx vv hJ ev6 iv6 hv
          exact hv _ hJ ev6 iv6
    · have hv := hv.2 (fun q => cq ((zle (by decide : (4 : Int32) = zi 4) (rfl : zi v6 = zi v6) (by decide : ir 4) iv6).mpr q))
      refine vw_X12_feed_73 ia1 ia2 ia3 ia4 ia5 hp ?_ hJ (rfl : zi v6 = zi v6) iv6 (rfl : zi a1 = zi a1) ia1 hv
      · intro qq xx vv hJ ev6 iv6 hv
        exact hv _ hJ ev6 iv6
def v_X12_feed (J : mJ) (o : Nat) (a1 : Int) (a2 : Int) (a3 : Int) (a4 : Int) (a5 : Int) (post' : Int → mJ → Prop) : Prop := ir ((J (o + 1) 2) + 20) ∧ (((J (o + 1) 2) + 20) ≤ 600 → (v_X12_feed_20 o a1 a2 a3 a4 a5 post') J 0) ∧ (¬ ((J (o + 1) 2) + 20) ≤ 600 → post' (-1) J)
theorem vw_X12_feed {J : mJ} {o : Nat} {xa1 : Int32} {a1 : Int} {xa2 : Int32} {a2 : Int} {xa3 : Int32} {a3 : Int} {xa4 : Int32} {a4 : Int} {xa5 : Int32} {a5 : Int} (hJ : irm J)   (ea1 : xa1 = zi a1) (ia1 : ir a1) (ea2 : xa2 = zi a2) (ia2 : ir a2) (ea3 : xa3 = zi a3) (ia3 : ir a3) (ea4 : xa4 = zi a4) (ia4 : ir a4) (ea5 : xa5 = zi a5) (ia5 : ir a5) {post : Int32 → mI → Prop} {post' : Int → mJ → Prop} (hp : ∀ (x : Int32) (r : Int) (J1 : mJ), x = zi r → ir r → irm J1 → post' r J1 → post x (zz J1)) (hv : v_X12_feed J o a1 a2 a3 a4 a5 post') : w_X12_feed (zz J) o xa1 xa2 xa3 xa4 xa5 post := by
  subst ea1
  subst ea2
  subst ea3
  subst ea4
  subst ea5
  unfold v_X12_feed at hv
  unfold w_X12_feed
  obtain ⟨g2, hv⟩ := hv
  refine ⟨fun cq => ?_, fun cq => ?_⟩
  · have hv := hv.1 ((zle (za (zrd (by decide : (2 : Int32) = zi 2) (by decide : ir 2) (by decide)) (by decide : (20 : Int32) = zi 20)) (by decide : (600 : Int32) = zi 600) g2 (by decide : ir 600)).mp cq)
    exact vw_X12_feed_20 ia1 ia2 ia3 ia4 ia5 hp hJ (by decide : (0 : Int32) = zi 0) (by decide : ir 0) hv
  · have hv := hv.2 (fun q => cq ((zle (za (zrd (by decide : (2 : Int32) = zi 2) (by decide : ir 2) (by decide)) (by decide : (20 : Int32) = zi 20)) (by decide : (600 : Int32) = zi 600) g2 (by decide : ir 600)).mpr q))
    exact hp _ _ _ (by decide : ((-1) : Int32) = zi (-1)) (by decide : ir (-1)) hJ hv
def v_X12_end (J : mJ) (o : Nat) (a1 : Int) (post' : Int → mJ → Prop) : Prop := (a1 < 0 → post' (-1) J) ∧ (¬ a1 < 0 → (a1 ≤ (J (o + 1) 2) → ∀ J3, J3 = up2 J (o + 1) 2 a1 → post' a1 J3) ∧ (¬ a1 ≤ (J (o + 1) 2) → post' (-1) J))
theorem vw_X12_end {J : mJ} {o : Nat} {xa1 : Int32} {a1 : Int} (hJ : irm J)   (ea1 : xa1 = zi a1) (ia1 : ir a1) {post : Int32 → mI → Prop} {post' : Int → mJ → Prop} (hp : ∀ (x : Int32) (r : Int) (J1 : mJ), x = zi r → ir r → irm J1 → post' r J1 → post x (zz J1)) (hv : v_X12_end J o a1 post') : w_X12_end (zz J) o xa1 post := by
  subst ea1
  unfold v_X12_end at hv
  unfold w_X12_end
  refine ⟨fun cq => ?_, fun cq => ?_⟩
  · have hv := hv.1 ((zlt (rfl : zi a1 = zi a1) (by decide : (0 : Int32) = zi 0) ia1 (by decide : ir 0)).mp cq)
    exact hp _ _ _ (by decide : ((-1) : Int32) = zi (-1)) (by decide : ir (-1)) hJ hv
  · have hv := hv.2 (fun q => cq ((zlt (rfl : zi a1 = zi a1) (by decide : (0 : Int32) = zi 0) ia1 (by decide : ir 0)).mpr q))
    refine ⟨fun cq => ?_, fun cq => ?_⟩
    · have hv := hv.1 ((zle (rfl : zi a1 = zi a1) (zrd (by decide : (2 : Int32) = zi 2) (by decide : ir 2) (by decide)) ia1 (hJ _ _)).mp cq)
      intro I1 eI1
      obtain ⟨J3, eJ3⟩ : ∃ q9 : mJ, q9 = up2 J (o + 1) 2 a1 := ⟨_, rfl⟩
      have eI1 : I1 = zz J3 := by rw [eI1, eJ3]; exact zupa (by decide : (2 : Int32) = zi 2) (by decide : ir 2) (by decide) (rfl : zi a1 = zi a1)
      subst eI1
      have hv := hv J3 eJ3
      have hJ : irm J3 := by rw [eJ3]; exact irm_up hJ ia1
      exact hp _ _ _ (rfl : zi a1 = zi a1) ia1 hJ hv
    · have hv := hv.2 (fun q => cq ((zle (rfl : zi a1 = zi a1) (zrd (by decide : (2 : Int32) = zi 2) (by decide : ir 2) (by decide)) ia1 (hJ _ _)).mpr q))
      exact hp _ _ _ (by decide : ((-1) : Int32) = zi (-1)) (by decide : ir (-1)) hJ hv
def v_X12_byteAt (J : mJ) (o : Nat) (a1 : Int) (post' : Int → Prop) : Prop := ((J o 2) ≤ a1 → post' (-1)) ∧ (¬ (J o 2) ≤ a1 → ir (10 + a1) ∧ (0 ≤ (10 + a1) ∧ (10 + a1) < 3960) ∧ post' (J (o + 1) (10 + a1).toNat))
theorem vw_X12_byteAt {J : mJ} {o : Nat} {xa1 : Int32} {a1 : Int} (hJ : irm J)   (ea1 : xa1 = zi a1) (ia1 : ir a1) {post : Int32 → Prop} {post' : Int → Prop} (hp : ∀ (x : Int32) (r : Int), x = zi r → ir r → post' r → post x) (hv : v_X12_byteAt J o a1 post') : w_X12_byteAt (zz J) o xa1 post := by
  subst ea1
  unfold v_X12_byteAt at hv
  unfold w_X12_byteAt
  refine ⟨fun cq => ?_, fun cq => ?_⟩
  · have hv := hv.1 ((zle zrf (rfl : zi a1 = zi a1) (hJ _ _) ia1).mp cq)
    exact hp _ _ (by decide : ((-1) : Int32) = zi (-1)) (by decide : ir (-1)) hv
  · have hv := hv.2 (fun q => cq ((zle zrf (rfl : zi a1 = zi a1) (hJ _ _) ia1).mpr q))
    obtain ⟨g1, hv⟩ := hv
    obtain ⟨g2, hv⟩ := hv
    refine ⟨zvp (za (by decide : (10 : Int32) = zi 10) (rfl : zi a1 = zi a1)) g1 g2.1 g2.2, ?_⟩
    exact hp _ _ (zrd (za (by decide : (10 : Int32) = zi 10) (rfl : zi a1 = zi a1)) g1 g2.1) (hJ _ _) hv
def v_X12_isLetter (a1 : Int) (post' : Bool → Prop) : Prop := (a1 < 97 → post' false) ∧ (¬ a1 < 97 → (122 < a1 → post' false) ∧ (¬ 122 < a1 → post' true))
theorem vw_X12_isLetter {xa1 : Int32} {a1 : Int}  (ea1 : xa1 = zi a1) (ia1 : ir a1) {post : Bool → Prop} {post' : Bool → Prop} (hp : ∀ (r : Bool), post' r → post r) (hv : v_X12_isLetter a1 post') : w_X12_isLetter xa1 post := by
  subst ea1
  unfold v_X12_isLetter at hv
  unfold w_X12_isLetter
  refine ⟨fun cq => ?_, fun cq => ?_⟩
  · have hv := hv.1 ((zlt (rfl : zi a1 = zi a1) (by decide : (97 : Int32) = zi 97) ia1 (by decide : ir 97)).mp cq)
    exact hp _ hv
  · have hv := hv.2 (fun q => cq ((zlt (rfl : zi a1 = zi a1) (by decide : (97 : Int32) = zi 97) ia1 (by decide : ir 97)).mpr q))
    refine ⟨fun cq => ?_, fun cq => ?_⟩
    · have hv := hv.1 ((zlt (by decide : (122 : Int32) = zi 122) (rfl : zi a1 = zi a1) (by decide : ir 122) ia1).mp cq)
      exact hp _ hv
    · have hv := hv.2 (fun q => cq ((zlt (by decide : (122 : Int32) = zi 122) (rfl : zi a1 = zi a1) (by decide : ir 122) ia1).mpr q))
      exact hp _ hv
def v_X12_isDigit (a1 : Int) (post' : Bool → Prop) : Prop := (a1 < 48 → post' false) ∧ (¬ a1 < 48 → (57 < a1 → post' false) ∧ (¬ 57 < a1 → post' true))
theorem vw_X12_isDigit {xa1 : Int32} {a1 : Int}  (ea1 : xa1 = zi a1) (ia1 : ir a1) {post : Bool → Prop} {post' : Bool → Prop} (hp : ∀ (r : Bool), post' r → post r) (hv : v_X12_isDigit a1 post') : w_X12_isDigit xa1 post := by
  subst ea1
  unfold v_X12_isDigit at hv
  unfold w_X12_isDigit
  refine ⟨fun cq => ?_, fun cq => ?_⟩
  · have hv := hv.1 ((zlt (rfl : zi a1 = zi a1) (by decide : (48 : Int32) = zi 48) ia1 (by decide : ir 48)).mp cq)
    exact hp _ hv
  · have hv := hv.2 (fun q => cq ((zlt (rfl : zi a1 = zi a1) (by decide : (48 : Int32) = zi 48) ia1 (by decide : ir 48)).mpr q))
    refine ⟨fun cq => ?_, fun cq => ?_⟩
    · have hv := hv.1 ((zlt (by decide : (57 : Int32) = zi 57) (rfl : zi a1 = zi a1) (by decide : ir 57) ia1).mp cq)
      exact hp _ hv
    · have hv := hv.2 (fun q => cq ((zlt (by decide : (57 : Int32) = zi 57) (rfl : zi a1 = zi a1) (by decide : ir 57) ia1).mpr q))
      exact hp _ hv
def v_X12_four (a1 : Int) (a2 : Int) (a3 : Int) (a4 : Int) (post' : Int64 → Prop) : Prop := ir (a1 * 32) ∧ ir ((a1 * 32) + a2) ∧ ir (((a1 * 32) + a2) * 32) ∧ ir ((((a1 * 32) + a2) * 32) + a3) ∧ ir (((((a1 * 32) + a2) * 32) + a3) * 32) ∧ ir ((((((a1 * 32) + a2) * 32) + a3) * 32) + a4) ∧ post' ((zi ((((((a1 * 32) + a2) * 32) + a3) * 32) + a4)).toInt64)
theorem vw_X12_four {xa1 : Int32} {a1 : Int} {xa2 : Int32} {a2 : Int} {xa3 : Int32} {a3 : Int} {xa4 : Int32} {a4 : Int}  (ea1 : xa1 = zi a1) (ia1 : ir a1) (ea2 : xa2 = zi a2) (ia2 : ir a2) (ea3 : xa3 = zi a3) (ia3 : ir a3) (ea4 : xa4 = zi a4) (ia4 : ir a4) {post : Int64 → Prop} {post' : Int64 → Prop} (hp : ∀ (x r : Int64), x = r → post' r → post x) (hv : v_X12_four a1 a2 a3 a4 post') : w_X12_four xa1 xa2 xa3 xa4 post := by
  subst ea1
  subst ea2
  subst ea3
  subst ea4
  unfold v_X12_four at hv
  unfold w_X12_four
  obtain ⟨g1, hv⟩ := hv
  obtain ⟨g2, hv⟩ := hv
  obtain ⟨g3, hv⟩ := hv
  obtain ⟨g4, hv⟩ := hv
  obtain ⟨g5, hv⟩ := hv
  obtain ⟨g6, hv⟩ := hv
  exact hp _ _ (congrArg Int32.toInt64 (za (zm (za (zm (za (zm (rfl : zi a1 = zi a1) (by decide : (32 : Int32) = zi 32)) (rfl : zi a2 = zi a2)) (by decide : (32 : Int32) = zi 32)) (rfl : zi a3 = zi a3)) (by decide : (32 : Int32) = zi 32)) (rfl : zi a4 = zi a4))) hv
def v_X12_eight (a1 : Int) (a2 : Int) (a3 : Int) (a4 : Int) (a5 : Int) (a6 : Int) (a7 : Int) (a8 : Int) (post' : Int64 → Prop) : Prop := v_X12_four a1 a2 a3 a4 (fun r1 => v_X12_four a5 a6 a7 a8 (fun r2 => post' ((r1 * (1048576 : Int64)) + r2)))
theorem vw_X12_eight {xa1 : Int32} {a1 : Int} {xa2 : Int32} {a2 : Int} {xa3 : Int32} {a3 : Int} {xa4 : Int32} {a4 : Int} {xa5 : Int32} {a5 : Int} {xa6 : Int32} {a6 : Int} {xa7 : Int32} {a7 : Int} {xa8 : Int32} {a8 : Int}  (ea1 : xa1 = zi a1) (ia1 : ir a1) (ea2 : xa2 = zi a2) (ia2 : ir a2) (ea3 : xa3 = zi a3) (ia3 : ir a3) (ea4 : xa4 = zi a4) (ia4 : ir a4) (ea5 : xa5 = zi a5) (ia5 : ir a5) (ea6 : xa6 = zi a6) (ia6 : ir a6) (ea7 : xa7 = zi a7) (ia7 : ir a7) (ea8 : xa8 = zi a8) (ia8 : ir a8) {post : Int64 → Prop} {post' : Int64 → Prop} (hp : ∀ (x r : Int64), x = r → post' r → post x) (hv : v_X12_eight a1 a2 a3 a4 a5 a6 a7 a8 post') : w_X12_eight xa1 xa2 xa3 xa4 xa5 xa6 xa7 xa8 post := by
  subst ea1
  subst ea2
  subst ea3
  subst ea4
  subst ea5
  subst ea6
  subst ea7
  subst ea8
  unfold v_X12_eight at hv
  unfold w_X12_eight
  refine vw_X12_four (rfl : zi a1 = zi a1) ia1 (rfl : zi a2 = zi a2) ia2 (rfl : zi a3 = zi a3) ia3 (rfl : zi a4 = zi a4) ia4 (fun xr1 r1 Er1 hv => ?_) hv
  refine vw_X12_four (rfl : zi a5 = zi a5) ia5 (rfl : zi a6 = zi a6) ia6 (rfl : zi a7 = zi a7) ia7 (rfl : zi a8 = zi a8) ia8 (fun xr2 r2 Er2 hv => ?_) hv
  exact hp _ _ (congr (congrArg (fun p q : Int64 => p + q) (congr (congrArg (fun p q : Int64 => p * q) Er1) rfl)) Er2) hv
def v_X12_wordOf (a1 : Int64) (post' : Int → Prop) : Prop := v_X12_eight 0 0 0 19 20 5 16 19 (fun r1 => (¬ ((lg_cmp a1 r1).toInt) = 0 → v_X12_four 11 5 5 16 (fun r2 => (¬ ((lg_cmp a1 r2).toInt) = 0 → v_X12_eight 0 0 3 1 18 16 5 20 (fun r3 => (¬ ((lg_cmp a1 r3).toInt) = 0 → v_X12_four 6 12 1 20 (fun r4 => (¬ ((lg_cmp a1 r4).toInt) = 0 → v_X12_eight 0 0 16 5 18 19 15 14 (fun r5 => (¬ ((lg_cmp a1 r5).toInt) = 0 → v_X12_four 23 1 12 11 (fun r6 => (¬ ((lg_cmp a1 r6).toInt) = 0 → v_X12_eight 0 0 3 8 1 14 7 5 (fun r7 => (¬ ((lg_cmp a1 r7).toInt) = 0 → v_X12_eight 0 0 0 8 5 1 18 4 (fun r8 => (¬ ((lg_cmp a1 r8).toInt) = 0 → post' 99) ∧ (((lg_cmp a1 r8).toInt) = 0 → post' 8))) ∧ (((lg_cmp a1 r7).toInt) = 0 → post' 7))) ∧ (((lg_cmp a1 r6).toInt) = 0 → post' 6))) ∧ (((lg_cmp a1 r5).toInt) = 0 → post' 5))) ∧ (((lg_cmp a1 r4).toInt) = 0 → post' 4))) ∧ (((lg_cmp a1 r3).toInt) = 0 → post' 3))) ∧ (((lg_cmp a1 r2).toInt) = 0 → post' 2))) ∧ (((lg_cmp a1 r1).toInt) = 0 → post' 1))
theorem vw_X12_wordOf {xa1 a1 : Int64}  (ea1 : xa1 = a1) {post : Int32 → Prop} {post' : Int → Prop} (hp : ∀ (x : Int32) (r : Int), x = zi r → ir r → post' r → post x) (hv : v_X12_wordOf a1 post') : w_X12_wordOf xa1 post := by
  have ea1 := ea1.symm; subst ea1
  unfold v_X12_wordOf at hv
  unfold w_X12_wordOf
  refine vw_X12_eight (by decide : (0 : Int32) = zi 0) (by decide : ir 0) (by decide : (0 : Int32) = zi 0) (by decide : ir 0) (by decide : (0 : Int32) = zi 0) (by decide : ir 0) (by decide : (19 : Int32) = zi 19) (by decide : ir 19) (by decide : (20 : Int32) = zi 20) (by decide : ir 20) (by decide : (5 : Int32) = zi 5) (by decide : ir 5) (by decide : (16 : Int32) = zi 16) (by decide : ir 16) (by decide : (19 : Int32) = zi 19) (by decide : ir 19) (fun xr1 r1 Er1 hv => ?_) hv
  refine ⟨fun cq => ?_, fun cq => ?_⟩
  · have hv := hv.1 (fun q => cq ((zeq ((congr (congrArg lg_cmp rfl) Er1).trans (z_num _)) (by decide : (0 : Int32) = zi 0) (ir_toInt _) (by decide : ir 0)).mpr q))
    refine vw_X12_four (by decide : (11 : Int32) = zi 11) (by decide : ir 11) (by decide : (5 : Int32) = zi 5) (by decide : ir 5) (by decide : (5 : Int32) = zi 5) (by decide : ir 5) (by decide : (16 : Int32) = zi 16) (by decide : ir 16) (fun xr2 r2 Er2 hv => ?_) hv
    refine ⟨fun cq => ?_, fun cq => ?_⟩
    · have hv := hv.1 (fun q => cq ((zeq ((congr (congrArg lg_cmp rfl) Er2).trans (z_num _)) (by decide : (0 : Int32) = zi 0) (ir_toInt _) (by decide : ir 0)).mpr q))
      refine vw_X12_eight (by decide : (0 : Int32) = zi 0) (by decide : ir 0) (by decide : (0 : Int32) = zi 0) (by decide : ir 0) (by decide : (3 : Int32) = zi 3) (by decide : ir 3) (by decide : (1 : Int32) = zi 1) (by decide : ir 1) (by decide : (18 : Int32) = zi 18) (by decide : ir 18) (by decide : (16 : Int32) = zi 16) (by decide : ir 16) (by decide : (5 : Int32) = zi 5) (by decide : ir 5) (by decide : (20 : Int32) = zi 20) (by decide : ir 20) (fun xr3 r3 Er3 hv => ?_) hv
      refine ⟨fun cq => ?_, fun cq => ?_⟩
      · have hv := hv.1 (fun q => cq ((zeq ((congr (congrArg lg_cmp rfl) Er3).trans (z_num _)) (by decide : (0 : Int32) = zi 0) (ir_toInt _) (by decide : ir 0)).mpr q))
        refine vw_X12_four (by decide : (6 : Int32) = zi 6) (by decide : ir 6) (by decide : (12 : Int32) = zi 12) (by decide : ir 12) (by decide : (1 : Int32) = zi 1) (by decide : ir 1) (by decide : (20 : Int32) = zi 20) (by decide : ir 20) (fun xr4 r4 Er4 hv => ?_) hv
        refine ⟨fun cq => ?_, fun cq => ?_⟩
        · have hv := hv.1 (fun q => cq ((zeq ((congr (congrArg lg_cmp rfl) Er4).trans (z_num _)) (by decide : (0 : Int32) = zi 0) (ir_toInt _) (by decide : ir 0)).mpr q))
          refine vw_X12_eight (by decide : (0 : Int32) = zi 0) (by decide : ir 0) (by decide : (0 : Int32) = zi 0) (by decide : ir 0) (by decide : (16 : Int32) = zi 16) (by decide : ir 16) (by decide : (5 : Int32) = zi 5) (by decide : ir 5) (by decide : (18 : Int32) = zi 18) (by decide : ir 18) (by decide : (19 : Int32) = zi 19) (by decide : ir 19) (by decide : (15 : Int32) = zi 15) (by decide : ir 15) (by decide : (14 : Int32) = zi 14) (by decide : ir 14) (fun xr5 r5 Er5 hv => ?_) hv
          refine ⟨fun cq => ?_, fun cq => ?_⟩
          · have hv := hv.1 (fun q => cq ((zeq ((congr (congrArg lg_cmp rfl) Er5).trans (z_num _)) (by decide : (0 : Int32) = zi 0) (ir_toInt _) (by decide : ir 0)).mpr q))
            refine vw_X12_four (by decide : (23 : Int32) = zi 23) (by decide : ir 23) (by decide : (1 : Int32) = zi 1) (by decide : ir 1) (by decide : (12 : Int32) = zi 12) (by decide : ir 12) (by decide : (11 : Int32) = zi 11) (by decide : ir 11) (fun xr6 r6 Er6 hv => ?_) hv
            refine ⟨fun cq => ?_, fun cq => ?_⟩
            · have hv := hv.1 (fun q => cq ((zeq ((congr (congrArg lg_cmp rfl) Er6).trans (z_num _)) (by decide : (0 : Int32) = zi 0) (ir_toInt _) (by decide : ir 0)).mpr q))
              refine vw_X12_eight (by decide : (0 : Int32) = zi 0) (by decide : ir 0) (by decide : (0 : Int32) = zi 0) (by decide : ir 0) (by decide : (3 : Int32) = zi 3) (by decide : ir 3) (by decide : (8 : Int32) = zi 8) (by decide : ir 8) (by decide : (1 : Int32) = zi 1) (by decide : ir 1) (by decide : (14 : Int32) = zi 14) (by decide : ir 14) (by decide : (7 : Int32) = zi 7) (by decide : ir 7) (by decide : (5 : Int32) = zi 5) (by decide : ir 5) (fun xr7 r7 Er7 hv => ?_) hv
              refine ⟨fun cq => ?_, fun cq => ?_⟩
              · have hv := hv.1 (fun q => cq ((zeq ((congr (congrArg lg_cmp rfl) Er7).trans (z_num _)) (by decide : (0 : Int32) = zi 0) (ir_toInt _) (by decide : ir 0)).mpr q))
                refine vw_X12_eight (by decide : (0 : Int32) = zi 0) (by decide : ir 0) (by decide : (0 : Int32) = zi 0) (by decide : ir 0) (by decide : (0 : Int32) = zi 0) (by decide : ir 0) (by decide : (8 : Int32) = zi 8) (by decide : ir 8) (by decide : (5 : Int32) = zi 5) (by decide : ir 5) (by decide : (1 : Int32) = zi 1) (by decide : ir 1) (by decide : (18 : Int32) = zi 18) (by decide : ir 18) (by decide : (4 : Int32) = zi 4) (by decide : ir 4) (fun xr8 r8 Er8 hv => ?_) hv
                refine ⟨fun cq => ?_, fun cq => ?_⟩
                · have hv := hv.1 (fun q => cq ((zeq ((congr (congrArg lg_cmp rfl) Er8).trans (z_num _)) (by decide : (0 : Int32) = zi 0) (ir_toInt _) (by decide : ir 0)).mpr q))
                  exact hp _ _ (by decide : (99 : Int32) = zi 99) (by decide : ir 99) hv
                · have hv := hv.2 ((zeq ((congr (congrArg lg_cmp rfl) Er8).trans (z_num _)) (by decide : (0 : Int32) = zi 0) (ir_toInt _) (by decide : ir 0)).mp cq)
                  exact hp _ _ (by decide : (8 : Int32) = zi 8) (by decide : ir 8) hv
              · have hv := hv.2 ((zeq ((congr (congrArg lg_cmp rfl) Er7).trans (z_num _)) (by decide : (0 : Int32) = zi 0) (ir_toInt _) (by decide : ir 0)).mp cq)
                exact hp _ _ (by decide : (7 : Int32) = zi 7) (by decide : ir 7) hv
            · have hv := hv.2 ((zeq ((congr (congrArg lg_cmp rfl) Er6).trans (z_num _)) (by decide : (0 : Int32) = zi 0) (ir_toInt _) (by decide : ir 0)).mp cq)
              exact hp _ _ (by decide : (6 : Int32) = zi 6) (by decide : ir 6) hv
          · have hv := hv.2 ((zeq ((congr (congrArg lg_cmp rfl) Er5).trans (z_num _)) (by decide : (0 : Int32) = zi 0) (ir_toInt _) (by decide : ir 0)).mp cq)
            exact hp _ _ (by decide : (5 : Int32) = zi 5) (by decide : ir 5) hv
        · have hv := hv.2 ((zeq ((congr (congrArg lg_cmp rfl) Er4).trans (z_num _)) (by decide : (0 : Int32) = zi 0) (ir_toInt _) (by decide : ir 0)).mp cq)
          exact hp _ _ (by decide : (4 : Int32) = zi 4) (by decide : ir 4) hv
      · have hv := hv.2 ((zeq ((congr (congrArg lg_cmp rfl) Er3).trans (z_num _)) (by decide : (0 : Int32) = zi 0) (ir_toInt _) (by decide : ir 0)).mp cq)
        exact hp _ _ (by decide : (3 : Int32) = zi 3) (by decide : ir 3) hv
    · have hv := hv.2 ((zeq ((congr (congrArg lg_cmp rfl) Er2).trans (z_num _)) (by decide : (0 : Int32) = zi 0) (ir_toInt _) (by decide : ir 0)).mp cq)
      exact hp _ _ (by decide : (2 : Int32) = zi 2) (by decide : ir 2) hv
  · have hv := hv.2 ((zeq ((congr (congrArg lg_cmp rfl) Er1).trans (z_num _)) (by decide : (0 : Int32) = zi 0) (ir_toInt _) (by decide : ir 0)).mp cq)
    exact hp _ _ (by decide : (1 : Int32) = zi 1) (by decide : ir 1) hv
