/-! the reference reads a walk's line -/
theorem n_stepN {J0 J : mJ} {B : Nat → Nat} {N : Nat} {c : Tk} {F : Ft} (h : RM J0 J B N c F true) (hc : TkV B N c) (hk : kd c = 2) {post' : Int → mJ → Prop} (hq : ∀ r J1, RM J0 J1 B N (tkF B N (en c)) (if 0 ≤ (nu c : Int) ∧ (nu c : Int) ≤ 23 then F else alF 2 (pl c) F) true → J1 131 = J 131 → J1 128 9 = J 128 9 → J1 128 10 = maxZ (J 128 10) r → 0 ≤ r → r ≤ 23 → ((0 ≤ (nu c : Int) ∧ (nu c : Int) ≤ 23) → r = (nu c : Int)) → post' r J1) : v_X12_stepTold J 128 post' := by
  unfold v_X12_stepTold
  refine n_num h hc hk (by decide) (fun r J2 h2 s2 r1 r2 r3 => ?_)
  have go : ∀ v : Int, v = maxZ (J 128 10) r → v_X12_stepTold_25 128 post' J2 r v := by
    rintro _ rfl
    unfold v_X12_stepTold_25
    rintro J3 rfl
    exact hq r _ (RM_128 (Or.inr rfl) h2) (by rw [u2n (by decide)]; exact s2.1) (by rw [up2_off _ _ (Or.inr (by decide))]; exact s2.2.1) (up2_at _ _ _ _) r1 r2 r3
  rw [s2.2.2]
  exact ⟨fun c1 => go _ (by rw [mx_if, if_pos c1]), fun c1 => go _ (by rw [mx_if, if_neg c1])⟩
def tlP (g : Nat → Int) (w : Nat) (v : Nat → Int) (n : Nat) : Nat → Int := fun j => if j = 44 + 14 * w then v 1 else if j = 45 + 14 * w then v 2 else if 47 + 14 * w ≤ j ∧ j < 47 + 14 * w + n then v (3 + (j - (47 + 14 * w))) else g j
theorem mxW_cong {h : Int} {v v' : Nat → Int} : ∀ n, (∀ k, k < n → v (3 + k) = v' (3 + k)) → mxW h v n = mxW h v' n
  | 0, _ => rfl
  | n + 1, e => by rw [mxW, mxW, mxW_cong n (fun k hk => e k (by omega)), e n (by omega)]
/-- what the reference holds of a walk under way -/
def WkB (J : mJ) (D : Dt) (w0 : Nat) (v : Nat → Int) (n : Nat) : Prop := (v 0 = (w0 : Int)) ∧ (∀ j, j < 149 → J 131 j = tlP D.1 w0 v n j) ∧ J 128 10 = mxW (maxZ D.2.1 (v 2)) v n ∧ J 128 9 = maxZ D.2.2 (v 0)
theorem n_l5 {J0 J J3 : mJ} {B : Nat → Nat} {N : Nat} {c : Tk} {F : Ft} {D : Dt} (h : LnP J0 J J3 B N 0 c F D) {K : mJ → Prop} (hq : LnQ J0 B N 5 0 c F D K) : v_X12_walkLine J3 128 K := by
  have sv := LnP_0 (l := 5) h
  obtain ⟨⟨hc, hck, hF⟩, h3, s3, hB, hC⟩ := h
  have pe := hc.2.2.1 hck
  unfold LnQ at hq
  rw [show slN 5 = 4 by decide] at hq
  have f0 : RM J0 J3 B N (sl0 B N 5 c F D).2.1 (sl0 B N 5 c F D).2.2.1 (sl0 B N 5 c F D).1 := by
    show RM J0 J3 B N (tkF B N (en c)) (fl1 5 c F D) true
    rw [fl_0 (by decide)]; exact h3
  unfold v_X12_walkLine
  refine n_who f0 sv (l := 5) (i := 0) (by decide) (by decide) (by decide) (fun r J5 h5 m5 m5a m5b r1 r2 r3 => ⟨⟨by omega, by omega⟩, ⟨by omega, by omega⟩, ?_⟩)
  obtain ⟨w0, rfl⟩ : ∃ w : Nat, r = (w : Int) := ⟨r.toNat, by omega⟩
  intro y ey
  rw [show y = ((41 + 14 * w0 : Nat) : Int) by omega, show (((41 + 14 * w0 : Nat) : Int) + 3).toNat = 44 + 14 * w0 by omega, show (((41 + 14 * w0 : Nat) : Int) + 4).toNat = 45 + 14 * w0 by omega]
  refine ⟨⟨by omega, by omega⟩, n_numbered h5 (slS_V sv) (l := 5) (i := 1) (by decide) (by decide) (by decide) (Or.inl (by decide)) (fun q J6 h6 s6 q1 q2 q3 => ⟨⟨by omega, by omega⟩, ?_⟩)⟩
  rintro J10 rfl
  refine ⟨⟨by omega, by omega⟩, n_stepTold (RM_131 h6) (slS_V (slS_V sv)) (l := 5) (i := 2) (by decide) (by decide) (by decide) (fun t J7 h7 m7 m7a m7b t1 t2 t3 => ⟨⟨by omega, by omega⟩, ?_⟩)⟩
  rintro J15 rfl
  -- the row read so far
  have k131 : up2 J7 (128 + 3) (45 + 14 * w0) t 131 = up1 (up1 (J 131) (44 + 14 * w0) q) (45 + 14 * w0) t := by
    show up2 J7 (128 + 3) (45 + 14 * w0) t (128 + 3) = _
    rw [up2_s]
    show up1 (J7 131) _ _ = _
    rw [m7]
    show up1 (up2 J6 (128 + 3) (44 + 14 * w0) q (128 + 3)) _ _ = _
    rw [up2_s]
    show up1 (up1 (J6 131) _ _) _ _ = _
    rw [s6.1, m5, s3.1]
  have k9 : up2 J7 (128 + 3) (45 + 14 * w0) t 128 9 = maxZ (J 128 9) (w0 : Int) := by rw [u2n (by decide), m7a, u2n (by decide), s6.2.1, m5a, s3.2.1]
  have k10 : up2 J7 (128 + 3) (45 + 14 * w0) t 128 10 = maxZ (J 128 10) t := by rw [u2n (by decide), m7b, u2n (by decide), s6.2.2, m5b, s3.2.2]
  have h15 := RM_131 (i := 45 + 14 * w0) (a := t) h7
  change RM J0 (up2 J7 (128 + 3) (45 + 14 * w0) t) B N _ _ _ at h15
  have sv3 := slS_V (slS_V (slS_V sv))
  have vals : (slR B N 5 (sl0 B N 5 c F D) 4).1 = true → (slR B N 5 (sl0 B N 5 c F D) 4).2.2.1.1 = 0 → F.1 = 0 ∧ (w0 : Int) = (slR B N 5 (sl0 B N 5 c F D) 4).2.2.2 0 ∧ q = (slR B N 5 (sl0 B N 5 c F D) 4).2.2.2 1 ∧ t = (slR B N 5 (sl0 B N 5 c F D) 4).2.2.2 2 := by
    intro al hz
    change (slS B N 5 (slS B N 5 (slS B N 5 (slS B N 5 (sl0 B N 5 c F D) 0) 1) 2) 3).1 = true at al
    change (slS B N 5 (slS B N 5 (slS B N 5 (slS B N 5 (sl0 B N 5 c F D) 0) 1) 2) 3).2.2.1.1 = 0 at hz
    obtain ⟨al3, hz3, vv3⟩ := slS_back al
    obtain ⟨al2, hz2, vv2⟩ := slS_back al3
    obtain ⟨al1, hz1, vv1⟩ := slS_back al2
    obtain ⟨al0, hz0, _⟩ := slS_back al1
    have z0 : F.1 = 0 := (fl1_0 (hz0 (hz1 (hz2 (hz3 hz))))).1
    have er := r3 al1 (hz1 (hz2 (hz3 hz)))
    have eq := q3 al2 (hz2 (hz3 hz))
    have et := t3 al3 (hz3 hz)
    rw [← vv1 0 (by decide), ← vv2 0 (by decide), ← vv3 0 (by decide)] at er
    rw [← vv2 1 (by decide), ← vv3 1 (by decide)] at eq
    rw [← vv3 2 (by decide)] at et
    exact ⟨z0, er, eq, et⟩
  have eR : slR B N 5 (sl0 B N 5 c F D) 4 = slS B N 5 (slS B N 5 (slS B N 5 (slS B N 5 (sl0 B N 5 c F D) 0) 1) 2) 3 := rfl
  rw [eR] at hq vals
  have sv4 := slS_V (i := 3) sv3
  generalize slS B N 5 (slS B N 5 (slS B N 5 (sl0 B N 5 c F D) 0) 1) 2 = x3 at *
  have cb0 : ∀ J1 : mJ, (∀ j, j < 44 → J1 131 j = J 131 j) → CB 0 J1 := fun J1 hj => CB_of hC (fun j h1 _ => hj j (by have := h1 rfl; omega))
  have b44 : ∀ j, j < 44 → up2 J7 (128 + 3) (45 + 14 * w0) t 131 j = J 131 j := fun j hj => by rw [k131, up1_rd (by omega), up1_rd (by omega)]
  -- the end of the line
  have dead : (slS B N 5 x3 3).1 = false → ∀ (J1 : mJ) (n : Int), RM J0 J1 B N (slS B N 5 x3 3).2.1 (slS B N 5 x3 3).2.2.1 false → (∀ j, j < 44 → J1 131 j = J 131 j) → v_X12_walkLine_104 128 K J1 ((41 + 14 * w0 : Nat) : Int) n := by
    intro df J1 n hJ1 hj
    have eH : lnH B N 5 (slS B N 5 x3 3) = ((slS B N 5 x3 3).2.1, (slS B N 5 x3 3).2.2.1) := by unfold lnH; rw [if_neg (by rw [df]; decide)]
    have e : ∀ z : Int, v_X12_walkLine_123 128 K J1 (((41 + 14 * w0 : Nat) : Int) + 5) z := by
      intro z
      unfold v_X12_walkLine_123
      rw [show (((41 + 14 * w0 : Nat) : Int) + 5).toNat = 46 + 14 * w0 by omega]
      refine ⟨⟨by omega, by omega⟩, ?_⟩
      rintro J30 rfl
      refine hq _ ?_ (fun al => by rw [df] at al; exact Bool.noConfusion al) (cb0 _ (fun j hj' => ?_))
      · rw [eH, df]; exact RM_131 hJ1
      · show up2 J1 (128 + 3) (46 + 14 * w0) z (128 + 3) j = _
        rw [up2_off _ _ (Or.inr (by omega))]; exact hj j hj'
    unfold v_X12_walkLine_104
    exact ⟨⟨by omega, by omega⟩, fun _ => e _, fun _ => e _⟩
  have good : (slS B N 5 x3 3).1 = true → ∀ (J1 : mJ) (n : Nat), RM J0 J1 B N (lnG B N 5 (slS B N 5 x3 3)).1 (lnG B N 5 (slS B N 5 x3 3)).2.1 true → (∀ j, j < 44 → J1 131 j = J 131 j) → (lnG B N 5 (slS B N 5 x3 3)).2.2.2 = (if n < 8 then n else 8) → ((lnG B N 5 (slS B N 5 x3 3)).2.1.1 = 0 → WkB J1 D w0 (lnG B N 5 (slS B N 5 x3 3)).2.2.1 (lnG B N 5 (slS B N 5 x3 3)).2.2.2) → n ≤ 1000000 → v_X12_walkLine_104 128 K J1 ((41 + 14 * w0 : Nat) : Int) (n : Int) := by
    intro at' J1 n hJ1 hj en8 hW nb
    have eH : lnH B N 5 (slS B N 5 x3 3) = ((lnG B N 5 (slS B N 5 x3 3)).1, (lnG B N 5 (slS B N 5 x3 3)).2.1) := by unfold lnH; rw [if_pos at']
    rw [eH, at'] at hq
    generalize lnG B N 5 (slS B N 5 x3 3) = W at *
    have e : ∀ z : Int, z = (W.2.2.2 : Int) → v_X12_walkLine_123 128 K J1 (((41 + 14 * w0 : Nat) : Int) + 5) z := by
      rintro z rfl
      unfold v_X12_walkLine_123
      rw [show (((41 + 14 * w0 : Nat) : Int) + 5).toNat = 46 + 14 * w0 by omega]
      refine ⟨⟨by omega, by omega⟩, ?_⟩
      rintro J30 rfl
      refine hq _ (RM_131 hJ1) (fun _ hz => ?_) (cb0 _ (fun j hj' => ?_))
      · obtain ⟨w1, w2, w3, w4⟩ := hW hz
        show BK _ (tlW D.1 (W.2.2.1 0).toNat W.2.2.1 W.2.2.2, mxW (maxZ D.2.1 (W.2.2.1 2)) W.2.2.1 W.2.2.2, maxZ D.2.2 (W.2.2.1 0))
        refine ⟨fun j hj => ?_, by rw [u2n (by decide)]; exact w3, by rw [u2n (by decide)]; exact w4⟩
        show up2 J1 (128 + 3) (46 + 14 * w0) _ (128 + 3) j = tlW D.1 (W.2.2.1 0).toNat W.2.2.1 W.2.2.2 j
        rw [up2_s, w1, Int.toNat_natCast]
        unfold tlW
        by_cases ee : j = 46 + 14 * w0
        · rw [ee, up1_s, if_neg (by omega), if_neg (by omega), if_pos rfl]
        · rw [up1_n _ _ ee]
          show J1 131 j = _
          rw [w2 j hj]
          unfold tlP
          by_cases e1 : j = 44 + 14 * w0
          · rw [if_pos e1, if_pos e1]
          · rw [if_neg e1, if_neg e1]
            by_cases e2 : j = 45 + 14 * w0
            · rw [if_pos e2, if_pos e2]
            · rw [if_neg e2, if_neg e2, if_neg ee]
      · show up2 J1 (128 + 3) (46 + 14 * w0) _ (128 + 3) j = _
        rw [up2_off _ _ (Or.inr (by omega))]; exact hj j hj'
    unfold v_X12_walkLine_104
    refine ⟨⟨by omega, by omega⟩, fun c1 => e _ ?_, fun c1 => e _ ?_⟩
    · rw [en8]; split <;> omega
    · rw [en8]; split <;> omega
  unfold v_X12_walkLine_40
  intro ZZ hZ
  -- goals behind the first one
  have loop : (slS B N 5 x3 3).1 = true → ∀ (d : Nat) (J1 : mJ) (w : Gl) (n : Nat), GlV B N (en c) (slS B N 5 x3 3).2.2.2 w → 1 ≤ n → n + d ≤ 700 → w.2.2.2 = (if n < 8 then n else 8) → RM J0 J1 B N w.1 w.2.1 true → (∀ j, j < 44 → J1 131 j = J 131 j) → (w.2.1.1 = 0 → WkB J1 D w0 w.2.2.1 w.2.2.2) → glR B N d w = lnG B N 5 (slS B N 5 x3 3) → kd (lnG B N 5 (slS B N 5 x3 3)).1 ≠ 2 → ZZ J1 ((41 + 14 * w0 : Nat) : Int) (n : Int) := by
    intro at' d
    induction d with
    | zero =>
      intro J1 w n hw hn hnd en8 hJ1 hj hW er hk
      rw [glR] at er
      subst er
      obtain ⟨tk, z8⟩ := hJ1.1 rfl
      have rk := (rtk_n hw.1.2.1).1
      refine hZ _ _ _ ?_
      rw [z8, tk.2.2.1]
      exact ⟨fun c1 => absurd rfl c1, fun _ => ⟨fun c1 => by omega, fun _ => ⟨fun _ => good at' J1 n hJ1 hj en8 hW (by omega), fun c2 => absurd (rk.mp (by omega)) hk⟩⟩⟩
    | succ d ih =>
      intro J1 w n hw hn hnd en8 hJ1 hj hW er hk
      rw [glR] at er
      obtain ⟨tk, z8⟩ := hJ1.1 rfl
      have rk := (rtk_n hw.1.2.1).1
      refine hZ _ _ _ ?_
      rw [z8, tk.2.2.1]
      refine ⟨fun c1 => absurd rfl c1, fun _ => ⟨fun c1 => by omega, fun _ => ⟨fun c2 => ?_, fun c2 => ?_⟩⟩⟩
      · rw [if_neg (fun h => c2 (by rw [rk.mpr h]; rfl))] at er
        subst er
        exact good at' J1 n hJ1 hj en8 hW (by omega)
      · have k2 := rk.mp (by omega)
        rw [if_pos k2] at er
        have hw' : GlV B N (en c) (slS B N 5 x3 3).2.2.2 (glS B N w) := (glS_V k2 hw).elim (fun x => x.1) (fun x => x.1)
        have e1 : loT 5 3 = 0 := by decide
        have e2 : hiT 5 3 = 23 := by decide
        unfold v_X12_walkLine_59 v_X12_walkLine_74
        refine ⟨fun c3 => ?_, fun c3 => ?_⟩
        · have n8 : w.2.2.2 = n := by rw [en8, if_pos (by omega)]
          have eg : glS B N w = (tkF B N (en w.1), wgF 5 3 w.1 w.2.1, up1 w.2.2.1 (3 + n) (nu w.1 : Int), n + 1) := by unfold glS; rw [if_pos (by omega), n8]
          rw [eg] at er hw'
          refine n_stepN hJ1 hw.1 k2 (fun z J18 h18 a1 a2 a3 z1 z2 z3 => ⟨fun c4 => by omega, fun _ => ⟨⟨by omega, by omega⟩, ⟨by omega, by omega⟩, ⟨by omega, by omega⟩, ⟨by omega, by omega⟩, ?_⟩⟩)
          rw [show (((41 + 14 * w0 : Nat) : Int) + 5 + 1 + (n : Int)).toNat = 47 + 14 * w0 + n by omega]
          rintro J25 rfl
          refine ⟨⟨by omega, by omega⟩, ?_⟩
          rintro _ rfl
          have k25 : up2 J18 (128 + 3) (47 + 14 * w0 + n) z 131 = up1 (J1 131) (47 + 14 * w0 + n) z := by
            show up2 J18 (128 + 3) (47 + 14 * w0 + n) z (128 + 3) = _
            rw [up2_s]; show up1 (J18 131) _ _ = _; rw [a1]
          refine ih _ _ (n + 1) hw' (by omega) (by omega) (by show n + 1 = if n + 1 < 8 then n + 1 else 8; split <;> omega) ?_ (fun j hj' => ?_) (fun hz => ?_) er hk
          · show RM J0 _ B N (tkF B N (en w.1)) (wgF 5 3 w.1 w.2.1) true
            refine RM_131 ?_
            unfold wgF
            rw [e1, e2]
            by_cases cc : 0 ≤ (nu w.1 : Int) ∧ (nu w.1 : Int) ≤ 23
            · rw [if_pos cc] at h18 ⊢; exact h18
            · rw [if_neg cc] at h18 ⊢
              rw [alF_blm (hw.2.2.1.imp id (fun h => h.2))] at h18; exact h18
          · rw [k25, up1_rd (by omega)]; exact hj j hj'
          · change (wgF 5 3 w.1 w.2.1).1 = 0 at hz
            obtain ⟨g0, g1⟩ := wgF_0 hz
            rw [e1, e2] at g1
            have ez := z3 g1
            subst ez
            obtain ⟨w1, w2, w3, w4⟩ := hW g0
            rw [n8] at w2 w3
            show WkB _ D w0 (up1 w.2.2.1 (3 + n) (nu w.1 : Int)) (n + 1)
            refine ⟨by rw [up1_rd (by omega)]; exact w1, fun j hj' => ?_, ?_, ?_⟩
            · rw [k25]
              unfold tlP
              rw [show up1 w.2.2.1 (3 + n) (nu w.1 : Int) 1 = w.2.2.1 1 from up1_rd (by omega), show up1 w.2.2.1 (3 + n) (nu w.1 : Int) 2 = w.2.2.1 2 from up1_rd (by omega)]
              by_cases ee : j = 47 + 14 * w0 + n
              · rw [ee, up1_s, if_neg (by omega), if_neg (by omega), if_pos (by omega), show 47 + 14 * w0 + n - (47 + 14 * w0) = n by omega, up1_s]
              · rw [up1_n _ _ ee, w2 j hj']
                unfold tlP
                by_cases e3 : j = 44 + 14 * w0
                · rw [if_pos e3, if_pos e3]
                · rw [if_neg e3, if_neg e3]
                  by_cases e4 : j = 45 + 14 * w0
                  · rw [if_pos e4, if_pos e4]
                  · rw [if_neg e4, if_neg e4]
                    by_cases e5 : 47 + 14 * w0 ≤ j ∧ j < 47 + 14 * w0 + n
                    · rw [if_pos e5, if_pos (by omega), up1_rd (by omega)]
                    · rw [if_neg e5, if_neg (by omega)]
            · rw [u2n (by decide), a3, w3, up1_rd (by omega), mxW, up1_s, mxW_cong n (fun k hk => up1_rd (g := w.2.2.1) (i := 3 + n) (v := (nu w.1 : Int)) (by omega))]
            · rw [u2n (by decide), a2, w4, up1_rd (by omega)]
        · have n8 : w.2.2.2 = 8 := by rw [en8, if_neg (by omega)]
          have eg : glS B N w = (tkF B N (en w.1), blm 3 (pl w.1) (wgF 5 3 w.1 w.2.1), w.2.2.1, 8) := by unfold glS; rw [if_neg (by omega), n8]
          rw [eg] at er hw'
          rw [tk.2.1]
          refine n_also hJ1 (fun J16 h16 s16 => ?_)
          rw [if_pos rfl, alF_blm (hw.2.2.1.imp id (fun h => h.2))] at h16
          refine n_stepN h16 hw.1 k2 (fun z J18 h18 a1 a2 a3 z1 z2 z3 => ⟨fun _ => ⟨⟨by omega, by omega⟩, ?_⟩, fun c4 => by omega⟩)
          rintro _ rfl
          refine ih J18 _ (n + 1) hw' (by omega) (by omega) (by show 8 = if n + 1 < 8 then n + 1 else 8; rw [if_neg (by omega)]) ?_ (fun j hj' => by rw [a1, s16.1]; exact hj j hj') (fun hz => absurd hz (blm_0 (by decide))) er hk
          show RM J0 J18 B N (tkF B N (en w.1)) (blm 3 (pl w.1) (wgF 5 3 w.1 w.2.1)) true
          have ef : blm 3 (pl w.1) (wgF 5 3 w.1 w.2.1) = if 0 ≤ (nu w.1 : Int) ∧ (nu w.1 : Int) ≤ 23 then blm 3 (pl w.1) w.2.1 else alF 2 (pl w.1) (blm 3 (pl w.1) w.2.1) := by
            unfold wgF
            rw [e1, e2]
            by_cases cc : 0 ≤ (nu w.1 : Int) ∧ (nu w.1 : Int) ≤ 23
            · rw [if_pos cc, if_pos cc]
            · rw [if_neg cc, if_neg cc]
              by_cases z : w.2.1.1 = 0
              · have q1 : blm 2 (pl w.1) w.2.1 = (2, (pl w.1 : Int)) := by unfold blm; rw [if_pos z]
                have q2 : blm 3 (pl w.1) w.2.1 = (3, (pl w.1 : Int)) := by unfold blm; rw [if_pos z]
                rw [q1, q2]
                unfold blm alF
                rw [if_neg (by show ¬ ((2 : Int) = 0); decide), if_neg (by show ¬ ((3 : Int) = 0); decide), if_neg (by show ¬ ((pl w.1 : Int) < (pl w.1 : Int)); omega), if_pos rfl, if_pos (by show (2 : Int) < 3; decide)]
              · have q1 : ∀ m : Int, blm m (pl w.1) w.2.1 = w.2.1 := fun m => by unfold blm; rw [if_neg z]
                rw [q1, q1, alF_blm (hw.2.2.1.imp id (fun h => h.2)), q1]
          rw [ef]; exact h18
  refine hZ _ _ _ ?_
  by_cases al3 : x3.1 = true
  · obtain ⟨tk, z8⟩ := h15.1 al3
    rw [z8]
    refine ⟨fun c1 => absurd rfl c1, fun _ => ⟨fun _ => ⟨fun _ => ?_, fun c1 => absurd (by decide) c1⟩, fun c1 => absurd rfl c1⟩⟩
    unfold v_X12_walkLine_74
    refine n_stepTold h15 sv3 (l := 5) (i := 3) (by decide) (by decide) (by decide) (fun z J18 h18 a1 a2 a3 z1 z2 z3 => ⟨fun c4 => absurd c4 (by decide), fun _ => ⟨⟨by omega, by omega⟩, ⟨by omega, by omega⟩, ⟨by omega, by omega⟩, ⟨by omega, by omega⟩, ?_⟩⟩)
    rw [show (((41 + 14 * w0 : Nat) : Int) + 5 + 1 + 0).toNat = 47 + 14 * w0 by omega]
    rintro J25 rfl
    refine ⟨by decide, ?_⟩
    rintro _ rfl
    have k25 : up2 J18 (128 + 3) (47 + 14 * w0) z 131 = up1 (up1 (up1 (J 131) (44 + 14 * w0) q) (45 + 14 * w0) t) (47 + 14 * w0) z := by
      show up2 J18 (128 + 3) (47 + 14 * w0) z (128 + 3) = _
      rw [up2_s]; show up1 (J18 131) _ _ = _; rw [a1, k131]
    have j44 : ∀ j, j < 44 → up2 J18 (128 + 3) (47 + 14 * w0) z 131 j = J 131 j := fun j hj => by rw [k25, up1_rd (by omega), up1_rd (by omega), up1_rd (by omega)]
    have h25 := RM_131 (i := 47 + 14 * w0) (a := z) h18
    change RM J0 (up2 J18 (128 + 3) (47 + 14 * w0) z) B N _ _ _ at h25
    by_cases al4 : (slS B N 5 x3 3).1 = true
    · obtain ⟨g1, g2, g3, g4⟩ := sv4
      obtain ⟨g3a, g3b⟩ := g3 al4
      have gv : GlV B N (en c) (slS B N 5 x3 3).2.2.2 ((slS B N 5 x3 3).2.1, (slS B N 5 x3 3).2.2.1, (slS B N 5 x3 3).2.2.2, 1) := by
        refine ⟨g1, g2, g3a, by show 1 ≤ 1 ∧ 1 ≤ 8; decide, fun _ _ => rfl, fun hz k hk => ?_⟩
        change k < 1 at hk
        rw [show k = 0 by omega]
        exact g3b hz 3 (by decide)
      have n6 := h25.2.2.2.1.1
      have eG : glR B N N ((slS B N 5 x3 3).2.1, (slS B N 5 x3 3).2.2.1, (slS B N 5 x3 3).2.2.2, 1) = lnG B N 5 (slS B N 5 x3 3) := by unfold lnG; rw [if_pos rfl]
      have kG : kd (lnG B N 5 (slS B N 5 x3 3)).1 ≠ 2 := by
        rw [← eG]
        refine glR_end N _ gv ?_
        have := g1.1.1
        show N + 1 - en (slS B N 5 x3 3).2.1 ≤ N
        omega
      refine loop al4 N _ _ 1 gv (by omega) (by omega) rfl (by rw [al4] at h25; exact h25) j44 (fun hz => ?_) eG kG
      change (slS B N 5 x3 3).2.2.1.1 = 0 at hz
      obtain ⟨z0, v0, v1, v2⟩ := vals al4 hz
      obtain ⟨b1, b2, b3⟩ := hB z0
      have vz := z3 al4 hz
      show WkB _ D w0 (slS B N 5 x3 3).2.2.2 1
      generalize (slS B N 5 x3 3).2.2.2 = v at *
      subst v1; subst v2; subst vz
      refine ⟨v0.symm, fun j hj => ?_, ?_, ?_⟩
      · rw [k25]
        unfold tlP
        by_cases ee : j = 47 + 14 * w0
        · rw [ee, up1_s, if_neg (by omega), if_neg (by omega), if_pos (by omega), Nat.sub_self]
        · rw [up1_n _ _ ee]
          by_cases e4 : j = 45 + 14 * w0
          · rw [e4, up1_s, if_neg (by omega), if_pos rfl]
          · rw [up1_n _ _ e4]
            by_cases e3 : j = 44 + 14 * w0
            · rw [e3, up1_s, if_pos rfl]
            · rw [up1_n _ _ e3, if_neg e3, if_neg e4, if_neg (by omega)]; exact b1 j hj
      · rw [u2n (by decide), a3, k10, b2]; rfl
      · rw [u2n (by decide), a2, k9, b3, v0]
    · have df : (slS B N 5 x3 3).1 = false := Bool.eq_false_iff.mpr al4
      refine hZ _ _ _ ?_
      rw [df] at h25
      rw [h25.2.1 rfl]
      exact ⟨fun _ => dead df _ _ h25 j44, fun c1 => absurd c1 (by decide)⟩
  · have af3 : x3.1 = false := Bool.eq_false_iff.mpr al3
    have es : slS B N 5 x3 3 = x3 := by unfold slS; rw [if_neg al3]
    rw [af3] at h15
    rw [h15.2.1 rfl]
    refine ⟨fun _ => dead (by rw [es]; exact af3) _ _ ?_ b44, fun c1 => absurd c1 (by decide)⟩
    rw [es]; exact h15
