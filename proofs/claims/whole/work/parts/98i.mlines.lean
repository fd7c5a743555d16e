/-! the reference reads the lines of a house -/
theorem slS_back {B : Nat → Nat} {N l i : Nat} {s : Sl} (h : (slS B N l s i).1 = true) : s.1 = true ∧ ((slS B N l s i).2.2.1.1 = 0 → s.2.2.1.1 = 0) ∧ (∀ j, j ≠ i → (slS B N l s i).2.2.2 j = s.2.2.2 j) := by
  unfold slS at h ⊢
  by_cases c : s.1 = true
  · rw [if_pos c] at h ⊢
    by_cases c2 : kd s.2.1 = 2
    · rw [if_pos c2]
      exact ⟨c, fun h => (wgF_0 h).1, fun j hj => up1_n _ _ hj⟩
    · rw [if_neg c2] at h ⊢
      by_cases c3 : l = 7 ∧ i = 3 ∧ kd s.2.1 = 3
      · rw [if_pos c3]
        exact ⟨c, fun h => h, fun j hj => up1_n _ _ hj⟩
      · rw [if_neg c3] at h; exact Bool.noConfusion h
  · rw [if_neg c] at h; exact absurd h c
theorem lnH_n {B : Nat → Nat} {N l : Nat} {s : Sl} (h : l ≠ 5) : lnH B N l s = (s.2.1, s.2.2.1) ∧ lnG B N l s = (s.2.1, s.2.2.1, s.2.2.2, 1) := by
  have e : lnG B N l s = (s.2.1, s.2.2.1, s.2.2.2, 1) := by unfold lnG; rw [if_neg h]
  refine ⟨?_, e⟩
  unfold lnH; rw [e]; split <;> rfl
theorem fl_eq {l : Nat} {c : Tk} {F : Ft} {D : Dt} (hF : FtV c F) (b : Bool) (h : F.1 = 0 → flB l D.1 = b) : fl1 l c F D = if b = true then alF 3 (pl c) F else F := by
  unfold fl1
  by_cases z : F.1 = 0
  · rw [h z]
    cases b with
    | true => rw [if_pos rfl, if_pos rfl, alF_blm (Or.inl z)]
    | false => rw [if_neg (by decide), if_neg (by decide)]
  · have e1 : blm 3 (pl c) F = F := by unfold blm; rw [if_neg z]
    have e2 : alF 3 (pl c) F = F := by rw [alF_blm (hF.imp id (fun h => h.2)), e1]
    rw [e1, e2]; split <;> split <;> rfl
theorem fl_0 {l : Nat} {c : Tk} {F : Ft} {D : Dt} (h : l ≠ 3 ∧ l ≠ 4 ∧ l ≠ 6 ∧ l ≠ 7) : fl1 l c F D = F := by
  unfold fl1 flB
  rw [if_neg (by rw [decide_eq_true_eq]; omega)]
/-- from the writing of values to the line's end -/
def LnQ (J0 : mJ) (B : Nat → Nat) (N l : Nat) (sort : Int) (c : Tk) (F : Ft) (D : Dt) (K : mJ → Prop) : Prop := ∀ J1, RM J0 J1 B N (lnH B N l (slR B N l (sl0 B N l c F D) (slN l))).1 (lnH B N l (slR B N l (sl0 B N l c F D) (slN l))).2 (slR B N l (sl0 B N l c F D) (slN l)).1 → ((slR B N l (sl0 B N l c F D) (slN l)).1 = true → (lnG B N l (slR B N l (sl0 B N l c F D) (slN l))).2.1.1 = 0 → BK J1 (tlF l D (lnG B N l (slR B N l (sl0 B N l c F D) (slN l))).2.2.1 (lnG B N l (slR B N l (sl0 B N l c F D) (slN l))).2.2.2)) → CB sort J1 → K J1
/-- what stands behind a line's word -/
def LnP (J0 J J3 : mJ) (B : Nat → Nat) (N : Nat) (sort : Int) (c : Tk) (F : Ft) (D : Dt) : Prop := (TkV B N c ∧ kd c ≠ 0 ∧ FtV c F) ∧ RM J0 J3 B N (tkF B N (en c)) F true ∧ Sm J J3 ∧ (F.1 = 0 → BK J D) ∧ CB sort J
theorem LnP_0 {J0 J J3 : mJ} {B : Nat → Nat} {N l : Nat} {sort : Int} {c : Tk} {F : Ft} {D : Dt} (h : LnP J0 J J3 B N sort c F D) : SlV B N l (en c) 0 (sl0 B N l c F D) := sl0_V h.1.1 h.1.2.1 h.1.2.2
theorem n_l0 {J0 J J3 : mJ} {B : Nat → Nat} {N : Nat} {c : Tk} {F : Ft} {D : Dt} (h : LnP J0 J J3 B N 0 c F D) {K : mJ → Prop} (hq : LnQ J0 B N 0 0 c F D K) : v_X12_numbered J3 128 2 24 (fun r4 J5 => ∀ J7, J7 = up2 J5 (128 + 3) 0 r4 → K J7) := by
  have sv := LnP_0 (l := 0) h
  obtain ⟨_, h3, s3, hB, hC⟩ := h
  unfold LnQ at hq
  rw [(lnH_n (by decide)).1, (lnH_n (by decide)).2, show slN 0 = 1 by decide] at hq
  have f0 : RM J0 J3 B N (sl0 B N 0 c F D).2.1 (sl0 B N 0 c F D).2.2.1 (sl0 B N 0 c F D).1 := by
    show RM J0 J3 B N (tkF B N (en c)) (fl1 0 c F D) true
    rw [fl_0 (by decide)]; exact h3
  refine n_numbered f0 sv (l := 0) (i := 0) (by decide) (by decide) (by decide) (Or.inl (by decide)) (fun r J5 h5 s5 r1 r2 r3 => ?_)
  rintro J7 rfl
  refine hq _ (RM_131 h5) (fun al hz => ?_) (CB_of hC (fun j hj _ => ?_))
  · have z0 : F.1 = 0 := by have := (slS_back al).2.1 hz; change (fl1 0 c F D).1 = 0 at this; rw [fl_0 (by decide)] at this; exact this
    obtain ⟨b1, b2, b3⟩ := hB z0
    have sm := Sm_tr s3 s5
    refine ⟨fun j hj => ?_, by rw [u2n (by decide), sm.2.2]; exact b2, by rw [u2n (by decide), sm.2.1]; exact b3⟩
    show up2 J5 (128 + 3) 0 r (128 + 3) j = up1 D.1 0 _ j
    rw [up2_s]
    by_cases e : j = 0
    · rw [e, up1_s, up1_s]; exact r3 al hz
    · rw [up1_n _ _ e, up1_n _ _ e]; show J5 131 j = _; rw [sm.1]; exact b1 j hj
  · have := hj rfl
    show up2 J5 (128 + 3) 0 r (128 + 3) j = _
    rw [up2_off _ _ (Or.inr (by omega))]
    show J5 131 j = _
    rw [(Sm_tr s3 s5).1]
theorem n_l1 {J0 J J3 : mJ} {B : Nat → Nat} {N : Nat} {c : Tk} {F : Ft} {D : Dt} (h : LnP J0 J J3 B N 0 c F D) {K : mJ → Prop} (hq : LnQ J0 B N 1 0 c F D K) : v_X12_numbered J3 128 0 99 (fun r4 J5 => ∀ J7, J7 = up2 J5 (128 + 3) 1 r4 → K J7) := by
  have sv := LnP_0 (l := 1) h
  obtain ⟨_, h3, s3, hB, hC⟩ := h
  unfold LnQ at hq
  rw [(lnH_n (by decide)).1, (lnH_n (by decide)).2, show slN 1 = 1 by decide] at hq
  have f0 : RM J0 J3 B N (sl0 B N 1 c F D).2.1 (sl0 B N 1 c F D).2.2.1 (sl0 B N 1 c F D).1 := by
    show RM J0 J3 B N (tkF B N (en c)) (fl1 1 c F D) true
    rw [fl_0 (by decide)]; exact h3
  refine n_numbered f0 sv (l := 1) (i := 0) (by decide) (by decide) (by decide) (Or.inl (by decide)) (fun r J5 h5 s5 r1 r2 r3 => ?_)
  rintro J7 rfl
  refine hq _ (RM_131 h5) (fun al hz => ?_) (CB_of hC (fun j hj _ => ?_))
  · have z0 : F.1 = 0 := by have := (slS_back al).2.1 hz; change (fl1 1 c F D).1 = 0 at this; rw [fl_0 (by decide)] at this; exact this
    obtain ⟨b1, b2, b3⟩ := hB z0
    have sm := Sm_tr s3 s5
    refine ⟨fun j hj => ?_, by rw [u2n (by decide), sm.2.2]; exact b2, by rw [u2n (by decide), sm.2.1]; exact b3⟩
    show up2 J5 (128 + 3) 1 r (128 + 3) j = up1 D.1 1 _ j
    rw [up2_s]
    by_cases e : j = 1
    · rw [e, up1_s, up1_s]; exact r3 al hz
    · rw [up1_n _ _ e, up1_n _ _ e]; show J5 131 j = _; rw [sm.1]; exact b1 j hj
  · have := hj rfl
    show up2 J5 (128 + 3) 1 r (128 + 3) j = _
    rw [up2_off _ _ (Or.inr (by omega))]
    show J5 131 j = _
    rw [(Sm_tr s3 s5).1]
theorem n_l2 {J0 J J3 : mJ} {B : Nat → Nat} {N : Nat} {c : Tk} {F : Ft} {D : Dt} (h : LnP J0 J J3 B N 0 c F D) {K : mJ → Prop} (hq : LnQ J0 B N 2 0 c F D K) : v_X12_stepTold J3 128 (fun r12 J13 => ir (5 + r12) ∧ v_X12_numbered J13 128 0 9 (fun r15 J16 => (0 ≤ (5 + r12) ∧ (5 + r12) < 149) ∧ ∀ J18, J18 = up2 J16 (128 + 3) ((5 + r12).toNat) r15 → K J18)) := by
  have sv := LnP_0 (l := 2) h
  obtain ⟨_, h3, s3, hB, hC⟩ := h
  unfold LnQ at hq
  rw [(lnH_n (by decide)).1, (lnH_n (by decide)).2, show slN 2 = 2 by decide] at hq
  have f0 : RM J0 J3 B N (sl0 B N 2 c F D).2.1 (sl0 B N 2 c F D).2.2.1 (sl0 B N 2 c F D).1 := by
    show RM J0 J3 B N (tkF B N (en c)) (fl1 2 c F D) true
    rw [fl_0 (by decide)]; exact h3
  refine n_stepTold f0 sv (l := 2) (i := 0) (by decide) (by decide) (by decide) (fun r J5 h5 m5 m9 m10 r1 r2 r3 => ⟨⟨by omega, by omega⟩, ?_⟩)
  refine n_numbered h5 (slS_V sv) (l := 2) (i := 1) (by decide) (by decide) (by decide) (Or.inl (by decide)) (fun q J6 h6 s6 q1 q2 q3 => ⟨⟨by omega, by omega⟩, ?_⟩)
  rintro J7 rfl
  refine hq _ (RM_131 h6) (fun al hz => ?_) (CB_of hC (fun j hj _ => ?_))
  · change (slS B N 2 (slS B N 2 (sl0 B N 2 c F D) 0) 1).1 = true at al
    change (slS B N 2 (slS B N 2 (sl0 B N 2 c F D) 0) 1).2.2.1.1 = 0 at hz
    obtain ⟨al1, hz1, vv1⟩ := slS_back al
    obtain ⟨al0, hz0, _⟩ := slS_back al1
    have z0 : F.1 = 0 := by have := hz0 (hz1 hz); change (fl1 2 c F D).1 = 0 at this; rw [fl_0 (by decide)] at this; exact this
    obtain ⟨b1, b2, b3⟩ := hB z0
    have er := r3 al1 (hz1 hz)
    have eq := q3 al hz
    rw [← vv1 0 (by decide)] at er
    show BK _ (tlF 2 D (slS B N 2 (slS B N 2 (sl0 B N 2 c F D) 0) 1).2.2.2 1)
    generalize (slS B N 2 (slS B N 2 (sl0 B N 2 c F D) 0) 1).2.2.2 = v at *
    subst er; subst eq
    refine ⟨fun j hj => ?_, ?_, ?_⟩
    · show up2 J6 (128 + 3) (5 + v 0).toNat (v 1) (128 + 3) j = up1 D.1 (5 + (v 0).toNat) (v 1) j
      rw [up2_s, show (5 + v 0).toNat = 5 + (v 0).toNat by omega]
      by_cases e : j = 5 + (v 0).toNat
      · rw [e, up1_s, up1_s]
      · rw [up1_n _ _ e, up1_n _ _ e]; show J6 131 j = _; rw [s6.1, m5, s3.1]; exact b1 j hj
    · rw [u2n (by decide), s6.2.2, m10, s3.2.2, b2]; rfl
    · rw [u2n (by decide), s6.2.1, m9, s3.2.1]; exact b3
  · have := hj rfl
    show up2 J6 (128 + 3) (5 + r).toNat q (128 + 3) j = _
    rw [up2_off _ _ (Or.inr (by omega))]
    show J6 131 j = _
    rw [s6.1, m5, s3.1]
theorem n_l3 {J0 J J3 : mJ} {B : Nat → Nat} {N : Nat} {c : Tk} {F : Ft} {D : Dt} (h : LnP J0 J J3 B N 0 c F D) {K : mJ → Prop} (hq : LnQ J0 B N 3 0 c F D K) : v_X12_flatLine J3 128 (pl c : Int) K := by
  have sv := LnP_0 (l := 3) h
  obtain ⟨⟨_, _, hF⟩, h3, s3, hB, hC⟩ := h
  unfold LnQ at hq
  rw [(lnH_n (by decide)).1, (lnH_n (by decide)).2, show slN 3 = 2 by decide] at hq
  have cb := hC.1 rfl
  have go : ∀ (J2 : mJ) (v2 : Int), RM J0 J2 B N (tkF B N (en c)) (fl1 3 c F D) true → Sm J J2 → (v2 = 0 ∨ J 131 2 < 6) → (v2 = 0 → (fl1 3 c F D).1 ≠ 0) → v_X12_flatLine_27 128 (pl c : Int) K J2 v2 := by
    intro J2 v2 h2 s2 hv2 hv0
    unfold v_X12_flatLine_27
    refine n_stepTold (s := sl0 B N 3 c F D) h2 sv (l := 3) (i := 0) (by decide) (by decide) (by decide) (fun r J5 h5 m5 m9 m10 r1 r2 r3 => ?_)
    refine n_numbered h5 (slS_V sv) (l := 3) (i := 1) (by decide) (by decide) (by decide) (Or.inl (by decide)) (fun q J6 h6 s6 q1 q2 q3 => ?_)
    have e131 : J6 131 = J 131 := by rw [s6.1, m5, s2.1]
    refine ⟨fun c1 => ?_, fun c1 => ?_⟩
    · have c6 := hv2.resolve_left c1
      obtain ⟨f2, ef2⟩ : ∃ f2 : Nat, J 131 2 = (f2 : Int) := ⟨(J 131 2).toNat, by omega⟩
      rw [show J6 (128 + 3) 2 = (f2 : Int) by rw [← ef2]; show J6 131 2 = _; rw [e131], show (29 + 2 * (f2 : Int)).toNat = 29 + 2 * f2 by omega]
      refine ⟨⟨by omega, by omega⟩, ⟨by omega, by omega⟩, ⟨by omega, by omega⟩, ?_⟩
      rintro J11 rfl
      rw [show up2 J6 (128 + 3) (29 + 2 * f2) r (128 + 3) 2 = (f2 : Int) by rw [up2_off _ _ (Or.inr (by omega)), ← ef2]; show J6 131 2 = _; rw [e131], show (30 + 2 * (f2 : Int)).toNat = 30 + 2 * f2 by omega]
      refine ⟨⟨by omega, by omega⟩, ⟨by omega, by omega⟩, ⟨by omega, by omega⟩, ?_⟩
      rintro J16 rfl
      rw [show up2 (up2 J6 (128 + 3) (29 + 2 * f2) r) (128 + 3) (30 + 2 * f2) q (128 + 3) 2 = (f2 : Int) by rw [up2_off _ _ (Or.inr (by omega)), up2_off _ _ (Or.inr (by omega)), ← ef2]; show J6 131 2 = _; rw [e131]]
      refine ⟨⟨by omega, by omega⟩, ?_⟩
      rintro J20 rfl
      have kk : up2 (up2 (up2 J6 (128 + 3) (29 + 2 * f2) r) (128 + 3) (30 + 2 * f2) q) (128 + 3) 2 ((f2 : Int) + 1) 131 = up1 (up1 (up1 (J 131) (29 + 2 * f2) r) (30 + 2 * f2) q) 2 ((f2 : Int) + 1) := by
        show up2 (up2 (up2 J6 (128 + 3) (29 + 2 * f2) r) (128 + 3) (30 + 2 * f2) q) (128 + 3) 2 ((f2 : Int) + 1) (128 + 3) = _
        rw [up2_s, up2_s, up2_s]; show up1 (up1 (up1 (J6 131) _ _) _ _) _ _ = _; rw [e131]
      refine hq _ (RM_131 (RM_131 (RM_131 h6))) (fun al hz => ?_) ⟨fun _ => ?_, fun h => absurd rfl h⟩
      · change (slS B N 3 (slS B N 3 (sl0 B N 3 c F D) 0) 1).1 = true at al
        change (slS B N 3 (slS B N 3 (sl0 B N 3 c F D) 0) 1).2.2.1.1 = 0 at hz
        obtain ⟨al1, hz1, vv1⟩ := slS_back al
        obtain ⟨al0, hz0, _⟩ := slS_back al1
        have z0 : F.1 = 0 := (fl1_0 (hz0 (hz1 hz))).1
        obtain ⟨b1, b2, b3⟩ := hB z0
        have er := r3 al1 (hz1 hz)
        have eq := q3 al hz
        rw [← vv1 0 (by decide)] at er
        show BK _ (tlF 3 D (slS B N 3 (slS B N 3 (sl0 B N 3 c F D) 0) 1).2.2.2 1)
        generalize (slS B N 3 (slS B N 3 (sl0 B N 3 c F D) 0) 1).2.2.2 = v at *
        subst er; subst eq
        have eg : D.1 2 = (f2 : Int) := by rw [← ef2]; exact (b1 2 (by decide)).symm
        refine ⟨fun j hj => ?_, ?_, ?_⟩
        · rw [kk]
          show _ = up1 (up1 (up1 D.1 (29 + 2 * (D.1 2).toNat) (v 0)) (30 + 2 * (D.1 2).toNat) (v 1)) 2 (D.1 2 + 1) j
          rw [eg, Int.toNat_natCast]
          unfold up1
          rw [b1 j hj]
        · rw [u2n (by decide), u2n (by decide), u2n (by decide), s6.2.2, m10, s2.2.2, b2]; rfl
        · rw [u2n (by decide), u2n (by decide), u2n (by decide), s6.2.1, m9, s2.2.1]; exact b3
      · rw [kk, up1_s, up1_rd (by decide), up1_rd (by omega), up1_rd (by omega), up1_rd (by decide), up1_rd (by omega), up1_rd (by omega)]; omega
    · refine hq _ h6 (fun al hz => ?_) (CB_of hC (fun j hj _ => by rw [e131]))
      change (slS B N 3 (slS B N 3 (sl0 B N 3 c F D) 0) 1).1 = true at al
      obtain ⟨al1, hz1, _⟩ := slS_back al
      obtain ⟨_, hz0, _⟩ := slS_back al1
      exact absurd (hz0 (hz1 hz)) (hv0 c1)
  have fe := fun b hb => fl_eq (l := 3) (D := D) hF b hb
  unfold v_X12_flatLine
  rw [show J3 (128 + 3) 2 = J 131 2 by show J3 131 2 = _; rw [s3.1]]
  refine ⟨fun c1 => ?_, fun c1 => ?_⟩
  · have e := fe true (fun z => by unfold flB; rw [decide_eq_true_eq]; rw [← (hB z).1 2 (by decide)]; omega)
    rw [if_pos rfl] at e
    refine ⟨fun c2 => absurd rfl c2, fun _ => n_also h3 (fun J2 h2 s2 => go J2 0 ?_ (Sm_tr s3 s2) (Or.inl rfl) (fun _ => ?_))⟩
    · rw [e]; rw [if_pos rfl] at h2; exact h2
    · rw [e, alF_blm (hF.imp id (fun h => h.2))]; exact blm_0 (by decide)
  · have e := fe false (fun z => by unfold flB; rw [decide_eq_false_iff_not]; rw [← (hB z).1 2 (by decide)]; omega)
    rw [if_neg (by decide)] at e
    refine ⟨fun _ => go J3 1 (by rw [e]; exact h3) s3 (Or.inr (by omega)) (fun h => absurd h (by decide)), fun c2 => absurd c2 (by decide)⟩
theorem n_l4 {J0 J J3 : mJ} {B : Nat → Nat} {N : Nat} {c : Tk} {F : Ft} {D : Dt} (h : LnP J0 J J3 B N 0 c F D) {K : mJ → Prop} (hq : LnQ J0 B N 4 0 c F D K) : v_X12_personLine J3 128 (pl c : Int) K := by
  have sv := LnP_0 (l := 4) h
  obtain ⟨⟨_, _, hF⟩, h3, s3, hB, hC⟩ := h
  unfold LnQ at hq
  rw [(lnH_n (by decide)).1, (lnH_n (by decide)).2, show slN 4 = 3 by decide] at hq
  have cb := hC.1 rfl
  have go : ∀ (J2 : mJ) (v2 : Int), RM J0 J2 B N (tkF B N (en c)) (fl1 4 c F D) true → Sm J J2 → (v2 = 0 ∨ J 131 3 < 6) → (v2 = 0 → (fl1 4 c F D).1 ≠ 0) → v_X12_personLine_27 128 (pl c : Int) K J2 v2 := by
    intro J2 v2 h2 s2 hv2 hv0
    unfold v_X12_personLine_27
    refine n_numbered (s := sl0 B N 4 c F D) h2 sv (l := 4) (i := 0) (by decide) (by decide) (by decide) (Or.inl (by decide)) (fun r J5 h5 s5 r1 r2 r3 => ?_)
    refine n_numbered h5 (slS_V sv) (l := 4) (i := 1) (by decide) (by decide) (by decide) (Or.inl (by decide)) (fun q J6 h6 s6 q1 q2 q3 => ?_)
    refine n_numbered h6 (slS_V (slS_V sv)) (l := 4) (i := 2) (by decide) (by decide) (by decide) (Or.inl (by decide)) (fun t J7 h7 s7 t1 t2 t3 => ?_)
    have sm := Sm_tr s2 (Sm_tr s5 (Sm_tr s6 s7))
    have e131 : J7 131 = J 131 := sm.1
    refine ⟨fun c1 => ?_, fun c1 => ?_⟩
    · have c6 := hv2.resolve_left c1
      obtain ⟨f2, ef2⟩ : ∃ f2 : Nat, J 131 3 = (f2 : Int) := ⟨(J 131 3).toNat, by omega⟩
      rw [show J7 (128 + 3) 3 = (f2 : Int) by rw [← ef2]; show J7 131 3 = _; rw [e131]]
      refine ⟨⟨by omega, by omega⟩, ⟨by omega, by omega⟩, ?_⟩
      intro y ey
      rw [show y = ((41 + 14 * f2 : Nat) : Int) by omega, show (((41 + 14 * f2 : Nat) : Int) + 0).toNat = 41 + 14 * f2 by omega, show (((41 + 14 * f2 : Nat) : Int) + 1).toNat = 41 + 14 * f2 + 1 by omega, show (((41 + 14 * f2 : Nat) : Int) + 2).toNat = 41 + 14 * f2 + 2 by omega]
      refine ⟨⟨by omega, by omega⟩, ⟨by omega, by omega⟩, ?_⟩
      rintro J15 rfl
      refine ⟨⟨by omega, by omega⟩, ⟨by omega, by omega⟩, ?_⟩
      rintro J18 rfl
      refine ⟨⟨by omega, by omega⟩, ⟨by omega, by omega⟩, ?_⟩
      rintro J21 rfl
      rw [show up2 (up2 (up2 J7 (128 + 3) (41 + 14 * f2) r) (128 + 3) (41 + 14 * f2 + 1) q) (128 + 3) (41 + 14 * f2 + 2) t (128 + 3) 3 = (f2 : Int) by rw [up2_off _ _ (Or.inr (by omega)), up2_off _ _ (Or.inr (by omega)), up2_off _ _ (Or.inr (by omega)), ← ef2]; show J7 131 3 = _; rw [e131]]
      refine ⟨⟨by omega, by omega⟩, ?_⟩
      rintro J25 rfl
      have kk : up2 (up2 (up2 (up2 J7 (128 + 3) (41 + 14 * f2) r) (128 + 3) (41 + 14 * f2 + 1) q) (128 + 3) (41 + 14 * f2 + 2) t) (128 + 3) 3 ((f2 : Int) + 1) 131 = up1 (up1 (up1 (up1 (J 131) (41 + 14 * f2) r) (41 + 14 * f2 + 1) q) (41 + 14 * f2 + 2) t) 3 ((f2 : Int) + 1) := by
        show up2 (up2 (up2 (up2 J7 (128 + 3) (41 + 14 * f2) r) (128 + 3) (41 + 14 * f2 + 1) q) (128 + 3) (41 + 14 * f2 + 2) t) (128 + 3) 3 ((f2 : Int) + 1) (128 + 3) = _
        rw [up2_s, up2_s, up2_s, up2_s]; show up1 (up1 (up1 (up1 (J7 131) _ _) _ _) _ _) _ _ = _; rw [e131]
      refine hq _ (RM_131 (RM_131 (RM_131 (RM_131 h7)))) (fun al hz => ?_) ⟨fun _ => ?_, fun h => absurd rfl h⟩
      · change (slS B N 4 (slS B N 4 (slS B N 4 (sl0 B N 4 c F D) 0) 1) 2).1 = true at al
        change (slS B N 4 (slS B N 4 (slS B N 4 (sl0 B N 4 c F D) 0) 1) 2).2.2.1.1 = 0 at hz
        obtain ⟨al2, hz2, vv2⟩ := slS_back al
        obtain ⟨al1, hz1, vv1⟩ := slS_back al2
        obtain ⟨al0, hz0, _⟩ := slS_back al1
        have z0 : F.1 = 0 := (fl1_0 (hz0 (hz1 (hz2 hz)))).1
        obtain ⟨b1, b2, b3⟩ := hB z0
        have er := r3 al1 (hz1 (hz2 hz))
        have eq := q3 al2 (hz2 hz)
        have et := t3 al hz
        rw [← vv1 0 (by decide), ← vv2 0 (by decide)] at er
        rw [← vv2 1 (by decide)] at eq
        show BK _ (tlF 4 D (slS B N 4 (slS B N 4 (slS B N 4 (sl0 B N 4 c F D) 0) 1) 2).2.2.2 1)
        generalize (slS B N 4 (slS B N 4 (slS B N 4 (sl0 B N 4 c F D) 0) 1) 2).2.2.2 = v at *
        subst er; subst eq; subst et
        have eg : D.1 3 = (f2 : Int) := by rw [← ef2]; exact (b1 3 (by decide)).symm
        refine ⟨fun j hj => ?_, ?_, ?_⟩
        · rw [kk]
          show _ = up1 (up3 D.1 (41 + 14 * (D.1 3).toNat) (v 0) (v 1) (v 2)) 3 (D.1 3 + 1) j
          rw [eg, Int.toNat_natCast]
          unfold up3 up1
          rw [b1 j hj]
        · rw [u2n (by decide), u2n (by decide), u2n (by decide), u2n (by decide), sm.2.2]; exact b2
        · rw [u2n (by decide), u2n (by decide), u2n (by decide), u2n (by decide), sm.2.1]; exact b3
      · rw [kk, up1_s, up1_rd (by decide), up1_rd (by omega), up1_rd (by omega), up1_rd (by omega), up1_rd (by decide), up1_rd (by omega), up1_rd (by omega), up1_rd (by omega)]; omega
    · refine hq _ h7 (fun al hz => ?_) (CB_of hC (fun j hj _ => by rw [e131]))
      change (slS B N 4 (slS B N 4 (slS B N 4 (sl0 B N 4 c F D) 0) 1) 2).1 = true at al
      obtain ⟨al2, hz2, _⟩ := slS_back al
      obtain ⟨al1, hz1, _⟩ := slS_back al2
      obtain ⟨_, hz0, _⟩ := slS_back al1
      exact absurd (hz0 (hz1 (hz2 hz))) (hv0 c1)
  have fe := fun b hb => fl_eq (l := 4) (D := D) hF b hb
  unfold v_X12_personLine
  rw [show J3 (128 + 3) 3 = J 131 3 by show J3 131 3 = _; rw [s3.1]]
  refine ⟨fun c1 => ?_, fun c1 => ?_⟩
  · have e := fe true (fun z => by unfold flB; rw [decide_eq_true_eq]; rw [← (hB z).1 3 (by decide)]; omega)
    rw [if_pos rfl] at e
    refine ⟨fun c2 => absurd rfl c2, fun _ => n_also h3 (fun J2 h2 s2 => go J2 0 ?_ (Sm_tr s3 s2) (Or.inl rfl) (fun _ => ?_))⟩
    · rw [e]; rw [if_pos rfl] at h2; exact h2
    · rw [e, alF_blm (hF.imp id (fun h => h.2))]; exact blm_0 (by decide)
  · have e := fe false (fun z => by unfold flB; rw [decide_eq_false_iff_not]; rw [← (hB z).1 3 (by decide)]; omega)
    rw [if_neg (by decide)] at e
    refine ⟨fun _ => go J3 1 (by rw [e]; exact h3) s3 (Or.inr (by omega)) (fun h => absurd h (by decide)), fun c2 => absurd c2 (by decide)⟩
theorem n_l6 {J0 J J3 : mJ} {B : Nat → Nat} {N : Nat} {c : Tk} {F : Ft} {D : Dt} (h : LnP J0 J J3 B N 0 c F D) {K : mJ → Prop} (hq : LnQ J0 B N 6 0 c F D K) : v_X12_changeLine J3 128 (pl c : Int) K := by
  have sv := LnP_0 (l := 6) h
  obtain ⟨⟨_, _, hF⟩, h3, s3, hB, hC⟩ := h
  unfold LnQ at hq
  rw [(lnH_n (by decide)).1, (lnH_n (by decide)).2, show slN 6 = 3 by decide] at hq
  have cb := hC.1 rfl
  have go : ∀ (J2 : mJ) (v2 : Int), RM J0 J2 B N (tkF B N (en c)) (fl1 6 c F D) true → Sm J J2 → (v2 = 0 ∨ J 131 4 < 8) → (v2 = 0 → (fl1 6 c F D).1 ≠ 0) → v_X12_changeLine_27 128 (pl c : Int) K J2 v2 := by
    intro J2 v2 h2 s2 hv2 hv0
    unfold v_X12_changeLine_27
    refine n_who (s := sl0 B N 6 c F D) h2 sv (l := 6) (i := 0) (by decide) (by decide) (by decide) (fun r J5 h5 m5 m9 m10 r1 r2 r3 => ?_)
    refine n_numbered h5 (slS_V sv) (l := 6) (i := 1) (by decide) (by decide) (by decide) (Or.inl (by decide)) (fun q J6 h6 s6 q1 q2 q3 => ?_)
    refine n_numbered h6 (slS_V (slS_V sv)) (l := 6) (i := 2) (by decide) (by decide) (by decide) (Or.inl (by decide)) (fun t J7 h7 s7 t1 t2 t3 => ?_)
    have e131 : J7 131 = J 131 := by rw [s7.1, s6.1, m5, s2.1]
    refine ⟨fun c1 => ?_, fun c1 => ?_⟩
    · have c6 := hv2.resolve_left c1
      obtain ⟨f2, ef2⟩ : ∃ f2 : Nat, J 131 4 = (f2 : Int) := ⟨(J 131 4).toNat, by omega⟩
      rw [show J7 (128 + 3) 4 = (f2 : Int) by rw [← ef2]; show J7 131 4 = _; rw [e131]]
      refine ⟨⟨by omega, by omega⟩, ⟨by omega, by omega⟩, ?_⟩
      intro y ey
      rw [show y = ((125 + 3 * f2 : Nat) : Int) by omega, Int.toNat_natCast, show (((125 + 3 * f2 : Nat) : Int) + 1).toNat = 125 + 3 * f2 + 1 by omega, show (((125 + 3 * f2 : Nat) : Int) + 2).toNat = 125 + 3 * f2 + 2 by omega]
      refine ⟨⟨by omega, by omega⟩, ?_⟩
      rintro J15 rfl
      refine ⟨⟨by omega, by omega⟩, ⟨by omega, by omega⟩, ?_⟩
      rintro J18 rfl
      refine ⟨⟨by omega, by omega⟩, ⟨by omega, by omega⟩, ?_⟩
      rintro J21 rfl
      rw [show up2 (up2 (up2 J7 (128 + 3) (125 + 3 * f2) r) (128 + 3) (125 + 3 * f2 + 1) q) (128 + 3) (125 + 3 * f2 + 2) t (128 + 3) 4 = (f2 : Int) by rw [up2_off _ _ (Or.inr (by omega)), up2_off _ _ (Or.inr (by omega)), up2_off _ _ (Or.inr (by omega)), ← ef2]; show J7 131 4 = _; rw [e131]]
      refine ⟨⟨by omega, by omega⟩, ?_⟩
      rintro J25 rfl
      have kk : up2 (up2 (up2 (up2 J7 (128 + 3) (125 + 3 * f2) r) (128 + 3) (125 + 3 * f2 + 1) q) (128 + 3) (125 + 3 * f2 + 2) t) (128 + 3) 4 ((f2 : Int) + 1) 131 = up1 (up1 (up1 (up1 (J 131) (125 + 3 * f2) r) (125 + 3 * f2 + 1) q) (125 + 3 * f2 + 2) t) 4 ((f2 : Int) + 1) := by
        show up2 (up2 (up2 (up2 J7 (128 + 3) (125 + 3 * f2) r) (128 + 3) (125 + 3 * f2 + 1) q) (128 + 3) (125 + 3 * f2 + 2) t) (128 + 3) 4 ((f2 : Int) + 1) (128 + 3) = _
        rw [up2_s, up2_s, up2_s, up2_s]; show up1 (up1 (up1 (up1 (J7 131) _ _) _ _) _ _) _ _ = _; rw [e131]
      refine hq _ (RM_131 (RM_131 (RM_131 (RM_131 h7)))) (fun al hz => ?_) ⟨fun _ => ?_, fun h => absurd rfl h⟩
      · change (slS B N 6 (slS B N 6 (slS B N 6 (sl0 B N 6 c F D) 0) 1) 2).1 = true at al
        change (slS B N 6 (slS B N 6 (slS B N 6 (sl0 B N 6 c F D) 0) 1) 2).2.2.1.1 = 0 at hz
        obtain ⟨al2, hz2, vv2⟩ := slS_back al
        obtain ⟨al1, hz1, vv1⟩ := slS_back al2
        obtain ⟨al0, hz0, _⟩ := slS_back al1
        have z0 : F.1 = 0 := (fl1_0 (hz0 (hz1 (hz2 hz)))).1
        obtain ⟨b1, b2, b3⟩ := hB z0
        have er := r3 al1 (hz1 (hz2 hz))
        have eq := q3 al2 (hz2 hz)
        have et := t3 al hz
        rw [← vv1 0 (by decide), ← vv2 0 (by decide)] at er
        rw [← vv2 1 (by decide)] at eq
        show BK _ (tlF 6 D (slS B N 6 (slS B N 6 (slS B N 6 (sl0 B N 6 c F D) 0) 1) 2).2.2.2 1)
        generalize (slS B N 6 (slS B N 6 (slS B N 6 (sl0 B N 6 c F D) 0) 1) 2).2.2.2 = v at *
        subst er; subst eq; subst et
        have eg : D.1 4 = (f2 : Int) := by rw [← ef2]; exact (b1 4 (by decide)).symm
        refine ⟨fun j hj => ?_, ?_, ?_⟩
        · rw [kk]
          show _ = up1 (up3 D.1 (125 + 3 * (D.1 4).toNat) (v 0) (v 1) (v 2)) 4 (D.1 4 + 1) j
          rw [eg, Int.toNat_natCast]
          unfold up3 up1
          rw [b1 j hj]
        · rw [u2n (by decide), u2n (by decide), u2n (by decide), u2n (by decide), s7.2.2, s6.2.2, m10, s2.2.2]; exact b2
        · rw [u2n (by decide), u2n (by decide), u2n (by decide), u2n (by decide), s7.2.1, s6.2.1, m9, s2.2.1, b3]; rfl
      · rw [kk, up1_s, up1_rd (by decide), up1_rd (by omega), up1_rd (by omega), up1_rd (by omega), up1_rd (by decide), up1_rd (by omega), up1_rd (by omega), up1_rd (by omega)]; omega
    · refine hq _ h7 (fun al hz => ?_) (CB_of hC (fun j hj _ => by rw [e131]))
      change (slS B N 6 (slS B N 6 (slS B N 6 (sl0 B N 6 c F D) 0) 1) 2).1 = true at al
      obtain ⟨al2, hz2, _⟩ := slS_back al
      obtain ⟨al1, hz1, _⟩ := slS_back al2
      obtain ⟨_, hz0, _⟩ := slS_back al1
      exact absurd (hz0 (hz1 (hz2 hz))) (hv0 c1)
  have fe := fun b hb => fl_eq (l := 6) (D := D) hF b hb
  unfold v_X12_changeLine
  rw [show J3 (128 + 3) 4 = J 131 4 by show J3 131 4 = _; rw [s3.1]]
  refine ⟨fun c1 => ?_, fun c1 => ?_⟩
  · have e := fe true (fun z => by unfold flB; rw [decide_eq_true_eq]; rw [← (hB z).1 4 (by decide)]; omega)
    rw [if_pos rfl] at e
    refine ⟨fun c2 => absurd rfl c2, fun _ => n_also h3 (fun J2 h2 s2 => go J2 0 ?_ (Sm_tr s3 s2) (Or.inl rfl) (fun _ => ?_))⟩
    · rw [e]; rw [if_pos rfl] at h2; exact h2
    · rw [e, alF_blm (hF.imp id (fun h => h.2))]; exact blm_0 (by decide)
  · have e := fe false (fun z => by unfold flB; rw [decide_eq_false_iff_not]; rw [← (hB z).1 4 (by decide)]; omega)
    rw [if_neg (by decide)] at e
    refine ⟨fun _ => go J3 1 (by rw [e]; exact h3) s3 (Or.inr (by omega)) (fun h => absurd h (by decide)), fun c2 => absurd c2 (by decide)⟩
/-! a sound -/
theorem n_shoe {J0 J : mJ} {B : Nat → Nat} {N k0 m : Nat} {s : Sl} (h : RM J0 J B N s.2.1 s.2.2.1 s.1) (hV : SlV B N 7 k0 m s) {post' : Int → mJ → Prop} (hq : ∀ r J1, RM J0 J1 B N (slS B N 7 s 3).2.1 (slS B N 7 s 3).2.2.1 (slS B N 7 s 3).1 → Sm J J1 → ((slS B N 7 s 3).1 = true → (slS B N 7 s 3).2.2.1.1 = 0 → r = (slS B N 7 s 3).2.2.2 3) → post' r J1) : v_X12_shoeOrNone J 128 post' := by
  obtain ⟨al, c, F, v⟩ := s
  obtain ⟨hc, _, hF, hdd⟩ := hV
  change TkV B N c at hc
  change RM J0 J B N c F al at h
  unfold v_X12_shoeOrNone
  cases al with
  | true =>
    have hF : FtV c F := (hF rfl).1
    have es : slS B N 7 (true, c, F, v) 3 = if kd c = 2 then (true, tkF B N (en c), wgF 7 3 c F, up1 v 3 (nu c : Int)) else if 7 = 7 ∧ 3 = 3 ∧ kd c = 3 then (true, tkF B N (en c), F, up1 v 3 (-1)) else (false, c, (1, (pl c : Int)), v) := rfl
    rw [es] at hq
    obtain ⟨tk, w0⟩ := h.1 rfl
    have rk := (rtk_n hc.2.1).2.2.1
    have e1 : loT 7 3 = 0 := by decide
    have e2 : hiT 7 3 = 9 := by decide
    rw [w0, tk.2.2.1]
    refine ⟨fun c1 => absurd rfl c1, fun _ => ⟨fun c1 => ?_, fun c1 => ?_⟩⟩
    · have k3 := rk.mp (by omega)
      rw [if_neg (by omega), if_pos ⟨rfl, rfl, k3⟩] at hq
      exact n_adv h hc.1.2 (fun J1 h1 s1 => hq (-1) J1 h1 s1 (fun _ _ => by show (-1 : Int) = up1 v 3 (-1) 3; rw [up1_s]))
    · unfold v_X12_shoeOrNone_15
      have k3 : kd c ≠ 3 := fun h => c1 (by rw [rk.mpr h]; rfl)
      by_cases hk : kd c = 2
      · rw [if_pos hk] at hq
        refine n_num h hc hk (by decide) (fun r J1 h1 s1 r1 r2 r3 => hq r J1 ?_ s1 (fun _ hz => ?_))
        · show RM J0 J1 B N (tkF B N (en c)) (wgF 7 3 c F) true
          unfold wgF
          rw [e1, e2]
          by_cases cc : 0 ≤ (nu c : Int) ∧ (nu c : Int) ≤ 9
          · rw [if_pos cc] at h1 ⊢; exact h1
          · rw [if_neg cc] at h1 ⊢
            rw [alF_blm (hF.imp id (fun h => h.2))] at h1; exact h1
        · show r = up1 v 3 (nu c : Int) 3
          rw [up1_s]
          have := (wgF_0 hz).2
          rw [e1, e2] at this
          exact r3 this
      · rw [if_neg hk, if_neg (by omega)] at hq
        refine n_nonum h hc (fun _ => hk) (fun J1 h1 s1 => hq _ J1 ?_ s1 (fun h => Bool.noConfusion h))
        rw [if_pos rfl] at h1; exact h1
  | false =>
    have es : slS B N 7 (false, c, F, v) 3 = (false, c, F, v) := rfl
    rw [es] at hq
    rw [h.2.1 rfl]
    refine ⟨fun _ => ?_, fun c1 => absurd c1 (by decide)⟩
    unfold v_X12_shoeOrNone_15
    refine n_nonum h hc (fun h => Bool.noConfusion h) (fun J1 h1 s1 => hq _ J1 ?_ s1 (fun h => Bool.noConfusion h))
    rw [if_neg (by decide)] at h1; exact h1
theorem n_l7 {J0 J J3 : mJ} {B : Nat → Nat} {N : Nat} {sort : Int} {c : Tk} {F : Ft} {D : Dt} (hs : ¬ sort = 0) (h : LnP J0 J J3 B N sort c F D) {post' : mJ → Prop} (hq : LnQ J0 B N 7 sort c F D (v_X12_soundLine_143 128 post')) : (10 ≤ J 131 0 → v_X12_also J3 128 3 (pl c : Int) (fun J5 => v_X12_soundLine_45 128 post' J5 0)) ∧ (¬ 10 ≤ J 131 0 → v_X12_soundLine_45 128 post' J3 1) := by
  have sv := LnP_0 (l := 7) h
  obtain ⟨⟨_, _, hF⟩, h3, s3, hB, hC⟩ := h
  unfold LnQ at hq
  rw [(lnH_n (by decide)).1, (lnH_n (by decide)).2, show slN 7 = 4 by decide] at hq
  have cb := hC.2 hs
  have go : ∀ (J2 : mJ) (v2 : Int), RM J0 J2 B N (tkF B N (en c)) (fl1 7 c F D) true → Sm J J2 → (v2 = 0 ∨ J 131 0 < 10) → (v2 = 0 → (fl1 7 c F D).1 ≠ 0) → v_X12_soundLine_45 128 post' J2 v2 := by
    intro J2 v2 h2 s2 hv2 hv0
    unfold v_X12_soundLine_45
    refine n_numbered (s := sl0 B N 7 c F D) h2 sv (l := 7) (i := 0) (by decide) (by decide) (by decide) (Or.inr (by decide)) (fun r J5 h5 s5 r1 r2 r3 => ?_)
    refine n_numbered h5 (slS_V sv) (l := 7) (i := 1) (by decide) (by decide) (by decide) (Or.inr (by decide)) (fun q J6 h6 s6 q1 q2 q3 => ?_)
    refine n_numbered h6 (slS_V (slS_V sv)) (l := 7) (i := 2) (by decide) (by decide) (by decide) (Or.inr (by decide)) (fun t J7 h7 s7 t1 t2 t3 => ?_)
    refine n_shoe h7 (slS_V (slS_V (slS_V sv))) (fun u J8 h8 s8 u3 => ?_)
    have sm := Sm_tr s2 (Sm_tr s5 (Sm_tr s6 (Sm_tr s7 s8)))
    have e131 : J8 131 = J 131 := sm.1
    refine ⟨fun c1 => ?_, fun c1 => ?_⟩
    · refine hq _ h8 (fun al hz => ?_) (CB_of hC (fun j hj _ => by rw [e131]))
      change (slS B N 7 (slS B N 7 (slS B N 7 (slS B N 7 (sl0 B N 7 c F D) 0) 1) 2) 3).1 = true at al
      obtain ⟨al3, hz3, _⟩ := slS_back al
      obtain ⟨al2, hz2, _⟩ := slS_back al3
      obtain ⟨al1, hz1, _⟩ := slS_back al2
      obtain ⟨_, hz0, _⟩ := slS_back al1
      exact absurd (hz0 (hz1 (hz2 (hz3 hz)))) (hv0 c1)
    · have c6 := hv2.resolve_left c1
      obtain ⟨f2, ef2⟩ : ∃ f2 : Nat, J 131 0 = (f2 : Int) := ⟨(J 131 0).toNat, by omega⟩
      rw [show J8 (128 + 3) 0 = (f2 : Int) by rw [← ef2]; show J8 131 0 = _; rw [e131]]
      refine ⟨⟨by omega, by omega⟩, ⟨by omega, by omega⟩, ?_⟩
      intro y ey
      rw [show y = ((1 + 4 * f2 : Nat) : Int) by omega, Int.toNat_natCast, show (((1 + 4 * f2 : Nat) : Int) + 1).toNat = 1 + 4 * f2 + 1 by omega, show (((1 + 4 * f2 : Nat) : Int) + 2).toNat = 1 + 4 * f2 + 2 by omega, show (((1 + 4 * f2 : Nat) : Int) + 3).toNat = 4 + 4 * f2 by omega]
      refine ⟨⟨by omega, by omega⟩, ?_⟩
      rintro J15 rfl
      refine ⟨⟨by omega, by omega⟩, ⟨by omega, by omega⟩, ?_⟩
      rintro J18 rfl
      refine ⟨⟨by omega, by omega⟩, ⟨by omega, by omega⟩, ?_⟩
      rintro J21 rfl
      refine ⟨⟨by omega, by omega⟩, ⟨by omega, by omega⟩, ?_⟩
      rintro J24 rfl
      rw [show up2 (up2 (up2 (up2 J8 (128 + 3) (1 + 4 * f2) r) (128 + 3) (1 + 4 * f2 + 1) q) (128 + 3) (1 + 4 * f2 + 2) t) (128 + 3) (4 + 4 * f2) u (128 + 3) 0 = (f2 : Int) by rw [up2_off _ _ (Or.inr (by omega)), up2_off _ _ (Or.inr (by omega)), up2_off _ _ (Or.inr (by omega)), up2_off _ _ (Or.inr (by omega)), ← ef2]; show J8 131 0 = _; rw [e131]]
      refine ⟨⟨by omega, by omega⟩, ?_⟩
      rintro J25 rfl
      have kk : up2 (up2 (up2 (up2 (up2 J8 (128 + 3) (1 + 4 * f2) r) (128 + 3) (1 + 4 * f2 + 1) q) (128 + 3) (1 + 4 * f2 + 2) t) (128 + 3) (4 + 4 * f2) u) (128 + 3) 0 ((f2 : Int) + 1) 131 = up1 (up1 (up1 (up1 (up1 (J 131) (1 + 4 * f2) r) (1 + 4 * f2 + 1) q) (1 + 4 * f2 + 2) t) (4 + 4 * f2) u) 0 ((f2 : Int) + 1) := by
        show up2 (up2 (up2 (up2 (up2 J8 (128 + 3) (1 + 4 * f2) r) (128 + 3) (1 + 4 * f2 + 1) q) (128 + 3) (1 + 4 * f2 + 2) t) (128 + 3) (4 + 4 * f2) u) (128 + 3) 0 ((f2 : Int) + 1) (128 + 3) = _
        rw [up2_s, up2_s, up2_s, up2_s, up2_s]; show up1 (up1 (up1 (up1 (up1 (J8 131) _ _) _ _) _ _) _ _) _ _ = _; rw [e131]
      refine hq _ (RM_131 (RM_131 (RM_131 (RM_131 (RM_131 h8))))) (fun al hz => ?_) ⟨fun h => absurd h hs, fun _ => ?_⟩
      · change (slS B N 7 (slS B N 7 (slS B N 7 (slS B N 7 (sl0 B N 7 c F D) 0) 1) 2) 3).1 = true at al
        change (slS B N 7 (slS B N 7 (slS B N 7 (slS B N 7 (sl0 B N 7 c F D) 0) 1) 2) 3).2.2.1.1 = 0 at hz
        obtain ⟨al3, hz3, vv3⟩ := slS_back al
        obtain ⟨al2, hz2, vv2⟩ := slS_back al3
        obtain ⟨al1, hz1, vv1⟩ := slS_back al2
        obtain ⟨al0, hz0, _⟩ := slS_back al1
        have z0 : F.1 = 0 := (fl1_0 (hz0 (hz1 (hz2 (hz3 hz))))).1
        obtain ⟨b1, b2, b3⟩ := hB z0
        have er := r3 al1 (hz1 (hz2 (hz3 hz)))
        have eq := q3 al2 (hz2 (hz3 hz))
        have et := t3 al3 (hz3 hz)
        have eu := u3 al hz
        rw [← vv1 0 (by decide), ← vv2 0 (by decide), ← vv3 0 (by decide)] at er
        rw [← vv2 1 (by decide), ← vv3 1 (by decide)] at eq
        rw [← vv3 2 (by decide)] at et
        show BK _ (tlF 7 D (slS B N 7 (slS B N 7 (slS B N 7 (slS B N 7 (sl0 B N 7 c F D) 0) 1) 2) 3).2.2.2 1)
        generalize (slS B N 7 (slS B N 7 (slS B N 7 (slS B N 7 (sl0 B N 7 c F D) 0) 1) 2) 3).2.2.2 = v at *
        subst er; subst eq; subst et; subst eu
        have eg : D.1 0 = (f2 : Int) := by rw [← ef2]; exact (b1 0 (by decide)).symm
        refine ⟨fun j hj => ?_, ?_, ?_⟩
        · rw [kk]
          show _ = up1 (up1 (up3 D.1 (1 + 4 * (D.1 0).toNat) (v 0) (v 1) (v 2)) (4 + 4 * (D.1 0).toNat) (v 3)) 0 (D.1 0 + 1) j
          rw [eg, Int.toNat_natCast]
          unfold up3 up1
          rw [b1 j hj]
        · rw [u2n (by decide), u2n (by decide), u2n (by decide), u2n (by decide), u2n (by decide), sm.2.2]; exact b2
        · rw [u2n (by decide), u2n (by decide), u2n (by decide), u2n (by decide), u2n (by decide), sm.2.1]; exact b3
      · rw [kk, up1_s]; omega
  have fe := fun b hb => fl_eq (l := 7) (D := D) hF b hb
  refine ⟨fun c1 => ?_, fun c1 => ?_⟩
  · have e := fe true (fun z => by unfold flB; rw [decide_eq_true_eq]; rw [← (hB z).1 0 (by decide)]; omega)
    rw [if_pos rfl] at e
    refine n_also h3 (fun J2 h2 s2 => go J2 0 ?_ (Sm_tr s3 s2) (Or.inl rfl) (fun _ => ?_))
    · rw [e]; rw [if_pos rfl] at h2; exact h2
    · rw [e, alF_blm (hF.imp id (fun h => h.2))]; exact blm_0 (by decide)
  · have e := fe false (fun z => by unfold flB; rw [decide_eq_false_iff_not]; rw [← (hB z).1 0 (by decide)]; omega)
    rw [if_neg (by decide)] at e
    exact go J3 1 (by rw [e]; exact h3) s3 (Or.inr (by omega)) (fun h => absurd h (by decide))
