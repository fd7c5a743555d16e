/-! the reference reads a text -/
theorem RS_dead {J0 J : mJ} {B : Nat → Nat} {N : Nat} {sort : Int} {c : Tk} {p : Int} {D : Dt} (h : RM J0 J B N c (1, p) false) (hC : CB sort J) : RS J0 J B N sort (c, (1, p), D) := by
  refine ⟨?_, fun hz => absurd hz (by show ¬ ((1 : Int) = 0); decide), hC⟩
  show RM J0 J B N c (1, p) (decide ((1 : Int) ≠ 1))
  rw [decide_eq_false (by decide)]; exact h
theorem n_endsDead {J0 J : mJ} {B : Nat → Nat} {N : Nat} {sort : Int} {c : Tk} {p : Int} {D : Dt} (h : RM J0 J B N c (1, p) false) (hC : CB sort J) {post' : mJ → Prop} (hq : ∀ J1, RS J0 J1 B N sort (c, (1, p), D) → post' J1) : v_X12_endsLine J 128 post' := by
  unfold v_X12_endsLine v_X12_endsLine_22
  rw [h.2.1 rfl]
  refine ⟨fun _ => n_ends h (fun J1 h1 s1 => hq J1 (RS_dead ?_ (CB_of hC (fun j _ _ => by rw [s1.1])))), fun c1 => absurd c1 (by decide)⟩
  rw [if_neg (by decide)] at h1; exact h1
theorem n_houseLine {J0 J : mJ} {B : Nat → Nat} {N : Nat} {st : St} (h : RS J0 J B N 0 st) (hV : StV B N 0 st) (h1 : st.2.1.1 ≠ 1) (hk : kd st.1 ≠ 0) {post' : mJ → Prop} (hq : ∀ J1, RS J0 J1 B N 0 (lineF B N 0 st) → post' J1) : v_X12_houseLine J 128 post' := by
  obtain ⟨c, F, D⟩ := st
  obtain ⟨hc, hF, hD⟩ := hV
  change TkV B N c at hc
  change F.1 ≠ 1 at h1
  change F.1 = 1 ∨ FtV c F at hF
  change kd c ≠ 0 at hk
  have hF : FtV c F := hF.resolve_left h1
  obtain ⟨hR, hB, hC⟩ := h
  change RM J0 J B N c F (decide (F.1 ≠ 1)) at hR
  rw [decide_eq_true h1] at hR
  change F.1 = 0 → BK J D at hB
  unfold lineF at hq
  change ∀ J1, RS J0 J1 B N 0 (if lnF 0 c = 8 then (c, (1, (pl c : Int)), D) else lnB B N (lnF 0 c) D (slR B N (lnF 0 c) (sl0 B N (lnF 0 c) c F D) (slN (lnF 0 c)))) → post' J1 at hq
  obtain ⟨tk, _⟩ := hR.1 rfl
  have s104 : ∀ (J1 : mJ) (v1 v2 : Int), v2 ≠ 7 → v_X12_houseLine_115 128 post' J1 → v_X12_houseLine_104 128 post' J1 v1 v2 := fun J1 v1 v2 h k => ⟨fun _ => k, fun c => absurd c h⟩
  have s94 : ∀ (J1 : mJ) (v1 v2 : Int), v2 ≠ 6 → v_X12_houseLine_104 128 post' J1 v1 v2 → v_X12_houseLine_94 128 post' J1 v1 v2 := fun J1 v1 v2 h k => ⟨fun _ => k, fun c => absurd c h⟩
  have s84 : ∀ (J1 : mJ) (v1 v2 : Int), v2 ≠ 5 → v_X12_houseLine_94 128 post' J1 v1 v2 → v_X12_houseLine_84 128 post' J1 v1 v2 := fun J1 v1 v2 h k => ⟨fun _ => k, fun c => absurd c h⟩
  have s74 : ∀ (J1 : mJ) (v1 v2 : Int), v2 ≠ 4 → v_X12_houseLine_84 128 post' J1 v1 v2 → v_X12_houseLine_74 128 post' J1 v1 v2 := fun J1 v1 v2 h k => ⟨fun _ => k, fun c => absurd c h⟩
  have s49 : ∀ (J1 : mJ) (v1 v2 : Int), v2 ≠ 3 → v_X12_houseLine_74 128 post' J1 v1 v2 → v_X12_houseLine_49 128 post' J1 v1 v2 := fun J1 v1 v2 h k => ⟨fun _ => k, fun c => absurd c h⟩
  have s31 : ∀ (J1 : mJ) (v1 v2 : Int), v2 ≠ 2 → v_X12_houseLine_49 128 post' J1 v1 v2 → v_X12_houseLine_31 128 post' J1 v1 v2 := fun J1 v1 v2 h k => ⟨fun _ => k, fun c => absurd c h⟩
  unfold v_X12_houseLine
  intro y1 ey
  rw [tk.2.1] at ey
  subst ey
  refine n_takes hR hc (fun bad J1 g1 s1 => ?_) (fun ok J3 h3 s3 => ?_)
  · have c8 : lnF 0 c = 8 := by
      unfold lnF
      by_cases k1 : kd c = 1
      · rw [if_pos k1, if_pos rfl, if_neg (fun h => bad ⟨k1, by omega, by omega, by omega⟩)]
      · rw [if_neg k1]
    rw [if_pos c8] at hq
    refine ⟨fun _ => s31 _ _ _ (by decide) (s49 _ _ _ (by decide) (s74 _ _ _ (by decide) (s84 _ _ _ (by decide) (s94 _ _ _ (by decide) (s104 _ _ _ (by decide) ?_))))), fun c1 => absurd c1 (by decide)⟩
    unfold v_X12_houseLine_115
    exact n_endsDead g1 (CB_of hC (fun j _ _ => by rw [s1.1])) hq
  · have c8 : lnF 0 c = wd c := by unfold lnF; rw [if_pos ok.1, if_pos rfl, if_pos (by omega)]
    rw [c8, if_neg (by omega)] at hq
    have hP : LnP J0 J J3 B N 0 c F D := ⟨⟨hc, hk, hF⟩, h3, s3, hB, hC⟩
    generalize wd c = l at *
    have l8 : l < 8 := ok.2.1
    have fin : LnQ J0 B N l 0 c F D (v_X12_houseLine_115 128 post') := fun J1 a b d => by
      unfold v_X12_houseLine_115
      exact n_lineEnd l8 (slR_V (LnP_0 hP) (slN l)) a b d hq
    have cases : l = 0 ∨ l = 1 ∨ l = 2 ∨ l = 3 ∨ l = 4 ∨ l = 5 ∨ l = 6 := by omega
    rcases cases with rfl | rfl | rfl | rfl | rfl | rfl | rfl
    · exact ⟨fun c1 => absurd (by decide) c1, fun _ => n_l0 hP (fun J1 a b d => s31 _ _ _ (by decide) (s49 _ _ _ (by decide) (s74 _ _ _ (by decide) (s84 _ _ _ (by decide) (s94 _ _ _ (by decide) (s104 _ _ _ (by decide) (fin J1 a b d)))))))⟩
    · exact ⟨fun _ => ⟨fun c1 => absurd (by decide) c1, fun _ => n_l1 hP (fun J1 a b d => s49 _ _ _ (by decide) (s74 _ _ _ (by decide) (s84 _ _ _ (by decide) (s94 _ _ _ (by decide) (s104 _ _ _ (by decide) (fin J1 a b d))))))⟩, fun c1 => absurd c1 (by decide)⟩
    · exact ⟨fun _ => s31 _ _ _ (by decide) ⟨fun c1 => absurd (by decide) c1, fun _ => n_l2 hP (fun J1 a b d => s74 _ _ _ (by decide) (s84 _ _ _ (by decide) (s94 _ _ _ (by decide) (s104 _ _ _ (by decide) (fin J1 a b d)))))⟩, fun c1 => absurd c1 (by decide)⟩
    · exact ⟨fun _ => s31 _ _ _ (by decide) (s49 _ _ _ (by decide) ⟨fun c1 => absurd (by decide) c1, fun _ => n_l3 hP (fun J1 a b d => s84 _ _ _ (by decide) (s94 _ _ _ (by decide) (s104 _ _ _ (by decide) (fin J1 a b d))))⟩), fun c1 => absurd c1 (by decide)⟩
    · exact ⟨fun _ => s31 _ _ _ (by decide) (s49 _ _ _ (by decide) (s74 _ _ _ (by decide) ⟨fun c1 => absurd (by decide) c1, fun _ => n_l4 hP (fun J1 a b d => s94 _ _ _ (by decide) (s104 _ _ _ (by decide) (fin J1 a b d)))⟩)), fun c1 => absurd c1 (by decide)⟩
    · exact ⟨fun _ => s31 _ _ _ (by decide) (s49 _ _ _ (by decide) (s74 _ _ _ (by decide) (s84 _ _ _ (by decide) ⟨fun c1 => absurd (by decide) c1, fun _ => n_l5 hP (fun J1 a b d => s104 _ _ _ (by decide) (fin J1 a b d))⟩))), fun c1 => absurd c1 (by decide)⟩
    · exact ⟨fun _ => s31 _ _ _ (by decide) (s49 _ _ _ (by decide) (s74 _ _ _ (by decide) (s84 _ _ _ (by decide) (s94 _ _ _ (by decide) ⟨fun c1 => absurd (by decide) c1, fun _ => n_l6 hP (fun J1 a b d => fin J1 a b d)⟩)))), fun c1 => absurd c1 (by decide)⟩
theorem n_soundLine {J0 J : mJ} {B : Nat → Nat} {N : Nat} {sort : Int} {st : St} (hs : ¬ sort = 0) (h : RS J0 J B N sort st) (hV : StV B N sort st) (h1 : st.2.1.1 ≠ 1) (hk : kd st.1 ≠ 0) {post' : mJ → Prop} (hq : ∀ J1, RS J0 J1 B N sort (lineF B N sort st) → post' J1) : v_X12_soundLine J 128 post' := by
  obtain ⟨c, F, D⟩ := st
  obtain ⟨hc, hF, hD⟩ := hV
  change TkV B N c at hc
  change F.1 ≠ 1 at h1
  change F.1 = 1 ∨ FtV c F at hF
  change kd c ≠ 0 at hk
  have hF : FtV c F := hF.resolve_left h1
  obtain ⟨hR, hB, hC⟩ := h
  change RM J0 J B N c F (decide (F.1 ≠ 1)) at hR
  rw [decide_eq_true h1] at hR
  change F.1 = 0 → BK J D at hB
  unfold lineF at hq
  change ∀ J1, RS J0 J1 B N sort (if lnF sort c = 8 then (c, (1, (pl c : Int)), D) else lnB B N (lnF sort c) D (slR B N (lnF sort c) (sl0 B N (lnF sort c) c F D) (slN (lnF sort c)))) → post' J1 at hq
  obtain ⟨tk, _⟩ := hR.1 rfl
  have go : ∀ s0 : Int, ((10 ≤ J 131 0 ∧ s0 = 0) ∨ (¬ 10 ≤ J 131 0 ∧ s0 = 1)) → v_X12_soundLine_21 128 post' J (pl c : Int) s0 := by
    intro s0 hs0
    unfold v_X12_soundLine_21
    refine n_takes hR hc (fun bad J1 g1 s1 => ?_) (fun ok J3 h3 s3 => ?_)
    · have c8 : lnF sort c = 8 := by
        unfold lnF
        by_cases k1 : kd c = 1
        · rw [if_pos k1, if_neg hs, if_neg (fun h => bad ⟨k1, by omega, by omega, by omega⟩)]
        · rw [if_neg k1]
      rw [if_pos c8] at hq
      refine ⟨fun _ => ?_, fun c1 => absurd c1 (by decide)⟩
      unfold v_X12_soundLine_143
      exact n_endsDead g1 (CB_of hC (fun j _ _ => by rw [s1.1])) hq
    · have c7 : wd c = 7 := by omega
      have c8 : lnF sort c = 7 := by unfold lnF; rw [if_pos ok.1, if_neg hs, if_pos c7]
      rw [c8, if_neg (by omega)] at hq
      rw [c7]
      have hP : LnP J0 J J3 B N sort c F D := ⟨⟨hc, hk, hF⟩, h3, s3, hB, hC⟩
      have fin : LnQ J0 B N 7 sort c F D (v_X12_soundLine_143 128 post') := fun J1 a b d => by
        unfold v_X12_soundLine_143
        exact n_lineEnd (by decide) (slR_V (LnP_0 hP) (slN 7)) a b d hq
      obtain ⟨l1, l2⟩ := n_l7 hs hP fin
      refine ⟨fun c1 => absurd (by decide) c1, fun _ => ⟨fun c1 => ?_, fun c1 => ?_⟩⟩
      · rcases hs0 with x | x
        · exact absurd x.2 c1
        · rw [x.2]; exact l2 x.1
      · rcases hs0 with x | x
        · rw [c1]; exact l1 x.1
        · rw [x.2] at c1; exact absurd c1 (by decide)
  unfold v_X12_soundLine
  intro y1 ey
  rw [tk.2.1] at ey
  subst ey
  exact ⟨fun c1 => go 0 (Or.inl ⟨c1, rfl⟩), fun c1 => go 1 (Or.inr ⟨c1, rfl⟩)⟩
theorem it_end {B : Nat → Nat} {N : Nat} {sort : Int} : ∀ d (st : St), StV B N sort st → N + 1 - en st.1 ≤ d → kd (itF B N sort d st).1 = 0 ∨ (itF B N sort d st).2.1.1 = 1
  | 0, st, h, hd => by have := h.1.1.2; omega
  | d + 1, st, h, hd => by
    rw [itF]; split
    · next c => exact c
    · next c =>
      have e := h.1.1.2
      obtain ⟨v1, v2⟩ := line_V h (fun e => c (Or.inr e)) (fun e => c (Or.inl e))
      rcases v2 with x | x
      · cases d with
        | zero => rw [itF]; exact Or.inr x
        | succ d => rw [itF, if_pos (Or.inr x)]; exact Or.inr x
      · exact it_end d _ v1 (by omega)
theorem n_loop {J0 J : mJ} {B : Nat → Nat} {N : Nat} {sort a2 : Int} {st : St} (h : RS J0 J B N sort st) (hV : StV B N sort st) {post' : Int → mJ → Prop} {k131' : mJ → Prop} (hq : ∀ J1, RS J0 J1 B N sort (itF B N sort (N + 1) st) → k131' J1) : v_X12_text_99 128 sort a2 post' k131' J := by
  unfold v_X12_text_99
  intro ZZ hZ
  have hE := it_end (N + 1) st hV (by omega)
  generalize hE0 : itF B N sort (N + 1) st = E at hq hE
  have key : ∀ (d : Nat) (J1 : mJ) (s : St), RS J0 J1 B N sort s → StV B N sort s → itF B N sort d s = E → ZZ J1 := by
    intro d
    induction d with
    | zero =>
      intro J1 s hs vs es
      rw [itF] at es
      subst es
      refine hZ _ ?_
      by_cases c1 : s.2.1.1 = 1
      · have := hs.1
        rw [c1, decide_eq_false (by decide)] at this
        rw [this.2.1 rfl]
        exact ⟨fun _ => hq J1 hs, fun c => absurd c (by decide)⟩
      · have hr := hs.1
        rw [decide_eq_true c1] at hr
        obtain ⟨tk, z8⟩ := hr.1 rfl
        rw [z8, tk.2.2.1]
        have k0 := hE.resolve_right c1
        exact ⟨fun c => absurd rfl c, fun _ => ⟨fun _ => hq J1 hs, fun c => absurd (by rw [(rtk_n vs.1.2.1).2.2.2.2.mpr k0]; rfl) c⟩⟩
    | succ d ih =>
      intro J1 s hs vs es
      rw [itF] at es
      refine hZ _ ?_
      by_cases c1 : s.2.1.1 = 1
      · rw [if_pos (Or.inr c1)] at es
        subst es
        have := hs.1
        rw [c1, decide_eq_false (by decide)] at this
        rw [this.2.1 rfl]
        exact ⟨fun _ => hq J1 hs, fun c => absurd c (by decide)⟩
      · have hr := hs.1
        rw [decide_eq_true c1] at hr
        obtain ⟨tk, z8⟩ := hr.1 rfl
        rw [z8, tk.2.2.1]
        have rk := (rtk_n vs.1.2.1).2.2.2.2
        refine ⟨fun c => absurd rfl c, fun _ => ⟨fun c => ?_, fun c => ?_⟩⟩
        · rw [if_pos (Or.inl (rk.mp (by omega)))] at es
          subst es
          exact hq J1 hs
        · have k0 : kd s.1 ≠ 0 := fun h => c (by rw [rk.mpr h]; rfl)
          rw [if_neg (fun h => h.elim k0 c1)] at es
          have vl := (line_V vs c1 k0).1
          refine ⟨fun c2 => n_soundLine c2 hs vs c1 k0 (fun J2 h2 => ih J2 _ h2 vl es), fun c2 => ?_⟩
          subst c2
          exact n_houseLine hs vs c1 k0 (fun J2 h2 => ih J2 _ h2 vl es)
  exact key (N + 1) J st h hV hE0
theorem n_clears {J : mJ} {sort : Int} (hs : sort = 0 ∨ sort = 1) {post' : mJ → Prop} (hq : ∀ J1, (∀ c, c ≠ 131 → J1 c = J c) → (∀ j, j < 149 → J1 131 j = clF sort j) → post' J1) : v_X12_clears J 128 sort post' := by
  unfold v_X12_clears v_X12_clears_2
  intro ZZ hZ
  refine lpN (S := fun k => ∀ J1 : mJ, (∀ c, c ≠ 131 → J1 c = J c) → (∀ j, j < k → J1 131 j = 0) → ZZ J1 (k : Int)) (N := 149) (fun k hk ih J1 fr hX => hZ _ _ ?_) (fun J1 fr hX => hZ _ _ ⟨fun _ => ?_, fun c => by omega⟩) J (fun _ _ => rfl) (fun j hj => absurd hj (Nat.not_lt_zero _))
  · rw [Int.toNat_natCast]
    refine ⟨fun c => by omega, fun _ => ⟨⟨by omega, by omega⟩, ?_⟩⟩
    rintro J2 rfl
    refine ⟨⟨by omega, by omega⟩, ?_⟩
    rintro _ rfl
    refine ih _ (fun c hc => by rw [u2n hc]; exact fr c hc) (fun j hj => ?_)
    show up2 J1 (128 + 3) k 0 (128 + 3) j = _
    rw [up2_s]
    by_cases e : j = k
    · rw [e, up1_s]
    · rw [up1_n _ _ e]; exact hX j (by omega)
  · unfold v_X12_clears_22
    refine ⟨fun c1 => ?_, fun c1 => ?_⟩
    · have s0 : sort = 0 := hs.resolve_right c1
      rintro J6 rfl J8 rfl
      unfold v_X12_clears_46
      intro Z2 hZ2
      refine lpN (S := fun p => ∀ J2 : mJ, (∀ c, c ≠ 131 → J2 c = J c) → (∀ j, j < 149 → J2 131 j = if j = 0 then 12 else if j = 1 then 60 else if 41 ≤ j ∧ j < 41 + 14 * p ∧ ((j - 41) % 14 = 3 ∨ (j - 41) % 14 = 4) then -1 else 0) → Z2 J2 (p : Int)) (N := 6) (fun p hp ih J2 fr2 hY => hZ2 _ _ ?_) (fun J2 fr2 hY => hZ2 _ _ ⟨fun _ => hq J2 fr2 (fun j hj => ?_), fun c => by omega⟩) _ (fun c hc => by rw [u2n hc, u2n hc]; exact fr c hc) (fun j hj => ?_)
      · rw [show (41 + 14 * (p : Int) + 3).toNat = 44 + 14 * p by omega, show (41 + 14 * (p : Int) + 4).toNat = 45 + 14 * p by omega]
        refine ⟨fun c => by omega, fun _ => ⟨⟨by omega, by omega⟩, ⟨by omega, by omega⟩, ⟨by omega, by omega⟩, ⟨by omega, by omega⟩, ?_⟩⟩
        rintro J13 rfl
        refine ⟨⟨by omega, by omega⟩, ⟨by omega, by omega⟩, ⟨by omega, by omega⟩, ⟨by omega, by omega⟩, ?_⟩
        rintro J18 rfl
        refine ⟨⟨by omega, by omega⟩, ?_⟩
        rintro _ rfl
        refine ih _ (fun c hc => by rw [u2n hc, u2n hc]; exact fr2 c hc) (fun j hj => ?_)
        show up2 (up2 J2 (128 + 3) (44 + 14 * p) (-1)) (128 + 3) (45 + 14 * p) (-1) (128 + 3) j = _
        rw [up2_s, up2_s]
        by_cases e1 : j = 45 + 14 * p
        · rw [e1, up1_s, if_neg (by omega), if_neg (by omega), if_pos (by omega)]
        · rw [up1_n _ _ e1]
          by_cases e2 : j = 44 + 14 * p
          · rw [e2, up1_s, if_neg (by omega), if_neg (by omega), if_pos (by omega)]
          · rw [up1_n _ _ e2]
            show J2 131 j = _
            rw [hY j hj]
            by_cases e3 : j = 0
            · rw [if_pos e3, if_pos e3]
            · rw [if_neg e3, if_neg e3]
              by_cases e4 : j = 1
              · rw [if_pos e4, if_pos e4]
              · rw [if_neg e4, if_neg e4]
                by_cases e5 : 41 ≤ j ∧ j < 41 + 14 * p ∧ ((j - 41) % 14 = 3 ∨ (j - 41) % 14 = 4)
                · rw [if_pos e5, if_pos (by omega)]
                · rw [if_neg e5, if_neg (by omega)]
      · rw [hY j hj]; unfold clF; rw [if_pos s0]
      · show up2 (up2 J1 (128 + 3) 0 12) (128 + 3) 1 60 (128 + 3) j = _
        rw [up2_s, up2_s]
        by_cases e4 : j = 1
        · rw [e4, up1_s, if_neg (by decide), if_pos rfl]
        · rw [up1_n _ _ e4]
          by_cases e3 : j = 0
          · rw [e3, up1_s, if_pos rfl]
          · rw [up1_n _ _ e3, if_neg e3, if_neg e4, if_neg (by omega)]; exact hX j hj
    · refine hq J1 fr (fun j hj => ?_)
      unfold clF
      rw [if_neg (by omega)]; exact hX j hj
/-! what a text does to what is told -/
def txB (A : Nat → Int) (i : Nat) : Nat := (A (10 + i)).toNat
def txN (A : Nat → Int) : Nat := (A 2).toNat
def txF (A : Nat → Int) (sort : Int) : Ft := stF (txN A) sort (stE (txB A) (txN A) sort)
def txG (A : Nat → Int) (sort : Int) : Nat → Int := (stE (txB A) (txN A) sort).2.2.1
abbrev txOk (A : Nat → Int) (a1 a2 : Int) : Prop := (0 ≤ a1 ∧ a1 ≤ 1) ∧ (a2 = -1 → A a1.toNat < 2) ∧ (¬ a2 = -1 → 0 ≤ a2 ∧ a2 < A a1.toNat)
def txK (A : Nat → Int) (a1 a2 : Int) : Int := if a2 = -1 then A a1.toNat else a2
def txL (a1 : Int) : Nat := if a1 = 0 then 149 else 41
def txP (a1 : Int) (k : Nat) : Nat := if a1 = 0 then 610 + 149 * k else 908 + 41 * k
def txH (A : Nat → Int) (F : Ft) : Nat → Int := up1 (up1 (up1 A 2 0) 3 F.1) 4 F.2
def txA (A : Nat → Int) (a1 a2 : Int) : Nat → Int :=
  if txOk A a1 a2 then (if (txF A a1).1 = 0 then (fun j => if txP a1 (txK A a1 a2).toNat ≤ j ∧ j < txP a1 (txK A a1 a2).toNat + txL a1 then txG A a1 (j - txP a1 (txK A a1 a2).toNat) else if a2 = -1 ∧ j = a1.toNat then A j + 1 else txH A (txF A a1) j) else txH A (txF A a1)) else txH A (0, -1)
def txR (A : Nat → Int) (a1 a2 : Int) : Int := if txOk A a1 a2 then (if (txF A a1).1 = 0 then txK A a1 a2 else -1) else -2
theorem m_text {J : mJ} {a1 a2 : Int} (h0 : 0 ≤ J 129 0 ∧ J 129 0 ≤ 2) (h1 : 0 ≤ J 129 1 ∧ J 129 1 ≤ 2) (h2 : 0 ≤ J 129 2 ∧ J 129 2 ≤ 600) (hT : ∀ i : Nat, i < 600 → 0 ≤ J 129 (10 + i) ∧ J 129 (10 + i) ≤ 255) (hU : UV (J 128)) {post' : Int → mJ → Prop} (hq : ∀ J1, J1 129 = txA (J 129) a1 a2 → UV (J1 128) → (∀ c, c ≠ 128 → c ≠ 129 → c ≠ 131 → J1 c = J c) → post' (txR (J 129) a1 a2) J1) : v_X12_text J 128 a1 a2 post' := by
  unfold v_X12_text
  rintro J2 rfl J4 rfl J6 rfl J8 rfl
  generalize hJ8 : up2 (up2 (up2 (up2 J 128 2 (J (128 + 1) 2)) (128 + 1) 2 0) (128 + 1) 3 0) (128 + 1) 4 (-1) = J8
  have e129 : J8 129 = txH (J 129) (0, -1) := by
    rw [← hJ8]
    show up2 (up2 (up2 (up2 J 128 2 (J (128 + 1) 2)) (128 + 1) 2 0) (128 + 1) 3 0) (128 + 1) 4 (-1) (128 + 1) = _
    rw [up2_s, up2_s, up2_s, u2n (by decide)]; rfl
  have e128 : ∀ i, i ≠ 2 → J8 128 i = J 128 i := fun i hi => by rw [← hJ8, u2n (by decide), u2n (by decide), u2n (by decide), up2_off _ _ (Or.inr hi)]
  have e2 : J8 128 2 = J 129 2 := by rw [← hJ8, u2n (by decide), u2n (by decide), u2n (by decide), up2_at]
  have eo : ∀ c, c ≠ 128 → c ≠ 129 → J8 c = J c := fun c x y => by rw [← hJ8, u2n y, u2n y, u2n y, u2n x]
  have hU8 : UV (J8 128) := by unfold UV; rw [e128 19 (by decide), e128 21 (by decide)]; exact hU
  have c01 : ∀ i : Nat, i ≤ 1 → J8 129 i = J 129 i := fun i hi => by rw [e129]; unfold txH; rw [up1_rd (by omega), up1_rd (by omega), up1_rd (by omega)]
  have bad : ¬ txOk (J 129) a1 a2 → post' (-2) J8 := fun hn => by
    have := hq J8 (by rw [e129]; unfold txA; rw [if_neg hn]) hU8 (fun c x y _ => eo c x y)
    unfold txR at this; rw [if_neg hn] at this; exact this
  have go : txOk (J 129) a1 a2 → v_X12_text_70 128 a1 a2 post' J8 := by
    intro ok
    obtain ⟨ok1, ok2, ok3⟩ := ok
    have ok : txOk (J 129) a1 a2 := ⟨ok1, ok2, ok3⟩
    have a01 : a1 = 0 ∨ a1 = 1 := by omega
    unfold v_X12_text_70
    rintro J12 rfl J13 rfl J14 rfl J15 rfl
    generalize hJ15 : up2 (up2 (up2 (up2 J8 128 3 0) 128 8 0) 128 9 (-1)) 128 10 (-1) = J15
    have f128 : J15 128 3 = 0 ∧ J15 128 8 = 0 ∧ J15 128 9 = -1 ∧ J15 128 10 = -1 := by
      rw [← hJ15]; refine ⟨?_, ?_, ?_, ?_⟩ <;> simp [up2_s, up1]
    have f128o : ∀ i, i ≠ 3 → i ≠ 8 → i ≠ 9 → i ≠ 10 → J15 128 i = J8 128 i := fun i w x y z => by rw [← hJ15, up2_off _ _ (Or.inr z), up2_off _ _ (Or.inr y), up2_off _ _ (Or.inr x), up2_off _ _ (Or.inr w)]
    have fo : ∀ c, c ≠ 128 → J15 c = J8 c := fun c x => by rw [← hJ15, u2n x, u2n x, u2n x, u2n x]
    refine n_clears a01 (fun J16 fr16 cl16 => ?_)
    have t16 : TpM J16 (txB (J 129)) (txN (J 129)) := by
      refine ⟨by unfold txN; omega, fun i hi => ?_, ?_⟩
      · have := hT i hi
        rw [fr16 129 (by decide), fo 129 (by decide), e129]
        unfold txH txB
        rw [up1_rd (by omega), up1_rd (by omega), up1_rd (by omega)]; omega
      · rw [fr16 128 (by decide), f128o 2 (by decide) (by decide) (by decide) (by decide), e2]
        unfold txN; omega
    refine n_advance (k := 0) t16 (by rw [fr16 128 (by decide)]; exact f128.1) (Nat.zero_le _) (fun J17 tk17 fm17 => ?_)
    have q128 : ∀ i, (i < 3 ∨ 7 < i) → J17 128 i = J15 128 i := fun i hi => by rw [fm17.2 i hi, fr16 128 (by decide)]
    have q129 : J17 129 = J8 129 := by rw [fm17.1 129 (by decide), fr16 129 (by decide), fo 129 (by decide)]
    have q131 : J17 131 = J16 131 := fm17.1 131 (by decide)
    have rs17 : RS J8 J17 (txB (J 129)) (txN (J 129)) a1 (st0 (txB (J 129)) (txN (J 129)) a1) := by
      refine ⟨?_, fun _ => ⟨fun j hj => by rw [q131]; exact cl16 j hj, by rw [q128 10 (by omega)]; exact f128.2.2.2, by rw [q128 9 (by omega)]; exact f128.2.2.1⟩, ?_⟩
      · show RM J8 J17 (txB (J 129)) (txN (J 129)) (tkF (txB (J 129)) (txN (J 129)) 0) (0, -1) (decide ((0 : Int) ≠ 1))
        rw [decide_eq_true (by decide)]
        refine ⟨fun _ => ⟨tk17, by rw [q128 8 (by omega)]; exact f128.2.1⟩, fun h => Bool.noConfusion h, ?_, TpM_fr fm17 t16, fun x a b d => by rw [fm17.1 x a, fr16 x d, fo x a], fun i _ _ => by rw [q129], fun i hi => by rw [q128 i (by omega), f128o i (by omega) (by omega) (by omega) (by omega)]⟩
        rw [q129, e129]; unfold txH
        exact ⟨by rw [up1_rd (by decide), up1_s], by rw [up1_s]⟩
      · refine ⟨fun s => ?_, fun s => ?_⟩
        · rw [q131, cl16 2 (by decide), cl16 3 (by decide), cl16 4 (by decide)]; unfold clF; rw [if_pos s, if_pos s, if_pos s]; decide
        · rw [q131, cl16 0 (by decide)]; unfold clF; rw [if_neg s]; decide
    refine n_loop rs17 (st0_V _ _ a1) (fun J18 rs18 => ?_)
    have sV : StV (txB (J 129)) (txN (J 129)) a1 (stE (txB (J 129)) (txN (J 129)) a1) := it_V _ _ (st0_V _ _ a1)
    have sE := it_end (B := txB (J 129)) (N := txN (J 129)) (sort := a1) (txN (J 129) + 1) (st0 (txB (J 129)) (txN (J 129)) a1) (st0_V _ _ a1) (by omega)
    change RS J8 J18 _ _ a1 (stE (txB (J 129)) (txN (J 129)) a1) at rs18
    change kd (stE (txB (J 129)) (txN (J 129)) a1).1 = 0 ∨ (stE (txB (J 129)) (txN (J 129)) a1).2.1.1 = 1 at sE
    unfold txA txR at hq
    rw [if_pos ok, if_pos ok] at hq
    unfold txF txG at hq
    generalize stE (txB (J 129)) (txN (J 129)) a1 = E at *
    obtain ⟨r1, r2, r3⟩ := rs18
    -- what stands after the faults
    have k179 : ∀ (J23 : mJ) (al : Bool), RM J8 J23 (txB (J 129)) (txN (J 129)) E.1 (stF (txN (J 129)) a1 E) al → ((stF (txN (J 129)) a1 E).1 = 0 → ∀ j, j < 149 → J23 131 j = E.2.2.1 j) → v_X12_text_179 128 a1 a2 post' J23 := by
      intro J23 al rm bk
      obtain ⟨_, _, m3, _, m5, m6, m7⟩ := rm
      generalize stF (txN (J 129)) a1 E = FF at *
      have A23 : J23 129 = txH (J 129) FF := by
        funext j
        by_cases e3 : j = 3
        · rw [e3, m3.1]; unfold txH; rw [up1_rd (by decide), up1_s]
        · by_cases e4 : j = 4
          · rw [e4, m3.2]; unfold txH; rw [up1_s]
          · rw [m6 j e3 e4, e129]; unfold txH; rw [up1_rd e4, up1_rd e3, up1_rd e4, up1_rd e3]
      have U23 : ∀ J9 : mJ, J9 128 = J23 128 → UV (J9 128) := fun J9 e => by
        rw [e]; unfold UV; rw [m7 19 (by omega), m7 21 (by omega)]; exact hU8
      have fr23 : ∀ c, c ≠ 128 → c ≠ 129 → c ≠ 131 → J23 c = J c := fun c x y z => by rw [m5 c x y z, eo c x y]
      unfold v_X12_text_179
      rw [show J23 (128 + 1) 3 = FF.1 from m3.1]
      refine ⟨fun z => ?_, fun z => ?_⟩
      · rw [if_pos z, if_pos z] at hq
        have c23 : J23 129 a1.toNat = J 129 a1.toNat := by rw [A23]; unfold txH; rw [up1_rd (by omega), up1_rd (by omega), up1_rd (by omega)]
        have jb : J 129 a1.toNat ≤ 2 ∧ 0 ≤ J 129 a1.toNat := by
          rcases a01 with e | e
          · subst e; exact ⟨h0.2, h0.1⟩
          · subst e; exact ⟨h1.2, h1.1⟩
        obtain ⟨k, ek⟩ : ∃ k : Nat, txK (J 129) a1 a2 = (k : Int) := ⟨(txK (J 129) a1 a2).toNat, by unfold txK; split <;> omega⟩
        have k1 : k ≤ 1 := by
          unfold txK at ek
          split at ek
          · next c => have := ok2 c; omega
          · next c => have := ok3 c; omega
        rw [ek, Int.toNat_natCast] at hq
        have l224 : ∀ J29 : mJ, (∀ j, J29 129 j = if a2 = -1 ∧ j = a1.toNat then J 129 j + 1 else txH (J 129) FF j) → (∀ c, c ≠ 129 → J29 c = J23 c) → v_X12_text_224 128 a1 a2 post' J29 (k : Int) 0 := by
          intro J29 hA hf
          unfold v_X12_text_224
          intro ZZ hZ
          refine lpN (S := fun i => ∀ J30 : mJ, (∀ j, J30 129 j = if txP a1 k ≤ j ∧ j < txP a1 k + i then E.2.2.1 (j - txP a1 k) else if a2 = -1 ∧ j = a1.toNat then J 129 j + 1 else txH (J 129) FF j) → (∀ c, c ≠ 129 → J30 c = J23 c) → ZZ J30 (k : Int) (i : Int)) (N := txL a1) (fun i hi ih J30 hA30 hf30 => hZ _ _ _ ?_) (fun J30 hA30 hf30 => hZ _ _ _ ?_) J29 (fun j => by rw [if_neg (by omega)]; exact hA j) hf
          · have st : ∀ (s1 : Int) (pp : Nat), s1 = (txL a1 : Int) → pp = txP a1 k → txL a1 ≤ 149 → pp + 149 < 3960 → (∀ post2 : Int → Prop, post2 (pp : Int) → v_X12_placeOf a1 (k : Int) post2) → v_X12_text_238 128 a1 a2 post' ZZ J30 (k : Int) (i : Int) (i : Int) s1 := by
              intro s1 pp e1 e2 l1 l2 hp
              unfold v_X12_text_238
              refine ⟨fun c => by omega, fun _ => hp _ ⟨⟨by omega, by omega⟩, ⟨by omega, by omega⟩, ⟨by omega, by omega⟩, ?_⟩⟩
              rw [show ((pp : Int) + (i : Int)).toNat = pp + i by omega, Int.toNat_natCast, show J30 (128 + 3) i = E.2.2.1 i by show J30 131 i = _; rw [hf30 131 (by decide)]; exact bk z i (by omega)]
              rintro J34 rfl
              refine ⟨⟨by omega, by omega⟩, ?_⟩
              rintro _ rfl
              refine ih _ (fun j => ?_) (fun c hc => by rw [u2n hc]; exact hf30 c hc)
              show up2 J30 (128 + 1) (pp + i) _ (128 + 1) j = _
              rw [up2_s, e2]
              by_cases ee : j = txP a1 k + i
              · rw [ee, up1_s, if_pos (by omega), show txP a1 k + i - txP a1 k = i by omega]
              · rw [up1_n _ _ ee]
                show J30 129 j = _
                rw [hA30 j]
                by_cases cc : txP a1 k ≤ j ∧ j < txP a1 k + i
                · rw [if_pos cc, if_pos (by omega)]
                · rw [if_neg cc, if_neg (show ¬ (txP a1 k ≤ j ∧ j < txP a1 k + (i + 1)) by omega)]
            refine ⟨fun c1 => st 41 (908 + 41 * k) (by unfold txL; rw [if_neg c1]; rfl) (by unfold txP; rw [if_neg c1]) (by unfold txL; rw [if_neg c1]; decide) (by omega) (fun post2 h => ⟨fun _ => ⟨⟨by omega, by omega⟩, ⟨by omega, by omega⟩, ?_⟩, fun c => absurd c c1⟩), fun c1 => st 149 (610 + 149 * k) (by unfold txL; rw [if_pos c1]; rfl) (by unfold txP; rw [if_pos c1]) (by unfold txL; rw [if_pos c1]; decide) (by omega) (fun post2 h => ⟨fun c => absurd c1 c, fun _ => ⟨⟨by omega, by omega⟩, ⟨by omega, by omega⟩, ?_⟩⟩)⟩
            · rw [show (908 + 41 * (k : Int)) = ((908 + 41 * k : Nat) : Int) by omega]; exact h
            · rw [show (610 + 149 * (k : Int)) = ((610 + 149 * k : Nat) : Int) by omega]; exact h
          · have en' : post' (k : Int) J30 := hq J30 (funext hA30) (U23 J30 (hf30 128 (by decide))) (fun c x y w => by rw [hf30 c y, fr23 c x y w])
            have st : ∀ s1 : Int, s1 = (txL a1 : Int) → v_X12_text_238 128 a1 a2 post' ZZ J30 (k : Int) ((txL a1 : Nat) : Int) ((txL a1 : Nat) : Int) s1 := fun s1 e1 => ⟨fun _ => en', fun c => by omega⟩
            exact ⟨fun c1 => st 41 (by unfold txL; rw [if_neg c1]; rfl), fun c1 => st 149 (by unfold txL; rw [if_pos c1]; rfl)⟩
        have l205 : v_X12_text_205 128 a1 a2 post' J23 (k : Int) := by
          unfold v_X12_text_205
          rw [show J23 (128 + 1) a1.toNat = J 129 a1.toNat from c23]
          have jb : J 129 a1.toNat ≤ 2 ∧ 0 ≤ J 129 a1.toNat := by
            rcases a01 with e | e
            · subst e; exact ⟨h0.2, h0.1⟩
            · subst e; exact ⟨h1.2, h1.1⟩
          refine ⟨fun c1 => l224 J23 (fun j => ?_) (fun _ _ => rfl), fun c1 => ⟨⟨by omega, by omega⟩, ⟨by omega, by omega⟩, ⟨by omega, by omega⟩, ?_⟩⟩
          · rw [if_neg (fun h => c1 h.1), A23]
          · rintro J29 rfl
            refine l224 _ (fun j => ?_) (fun c hc => u2n hc)
            show up2 J23 (128 + 1) a1.toNat _ (128 + 1) j = _
            rw [up2_s]
            by_cases ee : j = a1.toNat
            · rw [ee, up1_s, if_pos ⟨c1, rfl⟩]
            · rw [up1_n _ _ ee, if_neg (fun h => ee h.2)]
              show J23 129 j = _
              rw [A23]
        refine ⟨fun c1 => ?_, fun c1 => ⟨⟨by omega, by omega⟩, ?_⟩⟩
        · have : a2 = (k : Int) := by unfold txK at ek; rw [if_neg c1] at ek; exact ek
          rw [this]; rw [this] at l205; exact l205
        · have : J 129 a1.toNat = (k : Int) := by unfold txK at ek; rw [if_pos c1] at ek; exact ek
          rw [show J23 (128 + 1) a1.toNat = (k : Int) by rw [← this]; exact c23]; exact l205
      · rw [if_neg z, if_neg z] at hq
        exact hq J23 A23 (U23 J23 rfl) fr23
    have no : ¬ (a1 = 0 ∧ (E.2.2.1 0 ≤ E.2.2.2.1 ∨ E.2.2.1 3 ≤ E.2.2.2.2)) → stF (txN (J 129)) a1 E = E.2.1 := fun h => by unfold stF; rw [if_neg h]
    have d0 : E.2.1.1 ≠ 0 → stF (txN (J 129)) a1 E = E.2.1 := fun h => by unfold stF blm; rw [if_neg h]; split <;> rfl
    have skip : stF (txN (J 129)) a1 E = E.2.1 → v_X12_text_179 128 a1 a2 post' J18 := fun e => k179 J18 _ (by rw [e]; exact r1) (fun z => by rw [e] at z; exact (r2 z).1)
    have fault : E.2.1.1 = 0 → (a1 = 0 ∧ (E.2.2.1 0 ≤ E.2.2.2.1 ∨ E.2.2.1 3 ≤ E.2.2.2.2)) → v_X12_text_170 128 a1 a2 post' J18 := by
      intro z cc
      unfold v_X12_text_170
      have r1' := r1
      rw [z, decide_eq_true (by decide)] at r1'
      obtain ⟨tk, _⟩ := r1'.1 rfl
      have k0 := sE.resolve_right (by rw [z]; decide)
      have pN := sV.1.2.2.2.2.2 k0
      rw [tk.2.1, pN]
      refine n_also r1' (fun J23 h23 s23 => k179 J23 true ?_ (fun zz => ?_))
      · rw [if_pos rfl, alF_blm (Or.inl z)] at h23
        unfold stF; rw [if_pos cc]; exact h23
      · exfalso
        unfold stF at zz
        rw [if_pos cc] at zz
        exact absurd zz (blm_0 (by decide))
    unfold v_X12_text_131
    rw [show J18 (128 + 1) 3 = E.2.1.1 from r1.2.2.1.1]
    refine ⟨fun z => skip (d0 z), fun z => ⟨fun c1 => skip (no (fun h => c1 h.1)), fun c1 => ?_⟩⟩
    obtain ⟨b1, b2, b3⟩ := r2 z
    rw [show J18 (128 + 3) 3 = E.2.2.1 3 from b1 3 (by decide), show J18 (128 + 3) 0 = E.2.2.1 0 from b1 0 (by decide), b2, b3]
    refine ⟨fun c2 => fault z ⟨c1, Or.inr c2⟩, fun c2 => ⟨fun c3 => skip (no (fun h => ?_)), fun c3 => fault z ⟨c1, Or.inl (by omega)⟩⟩⟩
    rcases h.2 with x | x
    · omega
    · exact c2 x
  refine n_isIn (fun c => ⟨fun _ => bad (fun h => c ⟨h.1.1, by have := h.1.2; omega⟩), fun c2 => Bool.noConfusion c2⟩) (fun c => ⟨fun c2 => Bool.noConfusion c2, fun _ => ⟨fun c1 => ?_, fun c1 => ⟨⟨by omega, by omega⟩, ?_⟩⟩⟩)
  · have ce : J8 129 a1.toNat = J 129 a1.toNat := c01 _ (by omega)
    have jb : J 129 a1.toNat ≤ 2 ∧ 0 ≤ J 129 a1.toNat := by
      have : a1 = 0 ∨ a1 = 1 := by omega
      rcases this with e | e
      · subst e; exact ⟨h0.2, h0.1⟩
      · subst e; exact ⟨h1.2, h1.1⟩
    unfold v_X12_isOf
    rw [show J8 (128 + 1) a1.toNat = J 129 a1.toNat from ce]
    refine ⟨⟨by omega, by omega⟩, ⟨by omega, by omega⟩, n_isIn (fun c2 => ⟨fun c2 => Bool.noConfusion c2, fun _ => bad (fun h => c2 (by have := h.2.2 c1; omega))⟩) (fun c2 => ⟨fun _ => go ⟨by omega, fun h => absurd h c1, fun _ => by omega⟩, fun c2 => Bool.noConfusion c2⟩)⟩
  · rw [show J8 (128 + 1) a1.toNat = J 129 a1.toNat from c01 _ (by omega)]
    exact ⟨fun c2 => go ⟨by omega, fun _ => c2, fun h => absurd c1 h⟩, fun c2 => bad (fun h => c2 (h.2.1 c1))⟩
