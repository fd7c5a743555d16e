/-! the class reads a line -/
def StV (B : Nat → Nat) (N : Nat) (sort : Int) (st : St) : Prop := TkV B N st.1 ∧ (st.2.1.1 = 1 ∨ FtV st.1 st.2.1) ∧ (st.2.1.1 = 0 → DtV sort st.2.2)
theorem lnF_8 {sort : Int} {c : Tk} (h : ¬ lnF sort c = 8) : lnF sort c < 8 ∧ (sort = 0 ↔ lnF sort c < 7) ∧ kd c = 1 := by
  unfold lnF at h ⊢
  by_cases c1 : kd c = 1
  · rw [if_pos c1] at h ⊢
    by_cases c2 : sort = 0
    · rw [if_pos c2] at h ⊢
      split at h
      · next c3 => rw [if_pos c3]; exact ⟨by omega, ⟨fun _ => c3, fun _ => c2⟩, c1⟩
      · exact absurd rfl h
    · rw [if_neg c2] at h ⊢
      split at h
      · next c3 => rw [if_pos c3]; exact ⟨by omega, ⟨fun h => absurd h c2, fun h => by omega⟩, c1⟩
      · exact absurd rfl h
  · rw [if_neg c1] at h; exact absurd rfl h
theorem sl0_V {B : Nat → Nat} {N l : Nat} {c : Tk} {F : Ft} {D : Dt} (hc : TkV B N c) (hk : kd c ≠ 0) (hF : FtV c F) : SlV B N l (en c) 0 (sl0 B N l c F D) := by
  obtain ⟨n1, n2⟩ := tkV_of (B := B) hc.1.2
  have := hc.2.2.1 hk
  refine ⟨n1, n2, fun _ => ⟨?_, fun _ j hj => absurd hj (Nat.not_lt_zero _)⟩, fun h => Bool.noConfusion h⟩
  show FtV (tkF B N (en c)) (fl1 l c F D)
  unfold fl1; split
  · exact blm_V (by decide) hF (by omega)
  · exact FtV_up hF (by omega)
theorem sl_F0 {B : Nat → Nat} {N l : Nat} {s0 : Sl} : ∀ i, (slR B N l s0 i).2.2.1.1 = 0 → s0.2.2.1.1 = 0
  | 0, h => h
  | i + 1, h => by
    refine sl_F0 (B := B) (N := N) (l := l) i ?_
    rw [slR] at h
    unfold slS at h
    split at h
    · split at h
      · exact (wgF_0 h).1
      · split at h
        · exact h
        · exact absurd h (by show ¬ ((1 : Int) = 0); decide)
    · exact h
theorem gl_F0 {B : Nat → Nat} {N : Nat} : ∀ d (w : Gl), (glR B N d w).2.1.1 = 0 → w.2.1.1 = 0
  | 0, w, h => h
  | d + 1, w, h => by
    rw [glR] at h
    split at h
    · have := gl_F0 d _ h
      unfold glS at this
      split at this
      · exact (wgF_0 this).1
      · exact absurd this (blm_0 (by decide))
    · exact h
theorem fl1_0 {l : Nat} {c : Tk} {F : Ft} {D : Dt} (h : (fl1 l c F D).1 = 0) : F.1 = 0 ∧ flB l D.1 = false := by
  unfold fl1 at h
  split at h
  · exact absurd h (blm_0 (by decide))
  · next c => exact ⟨h, Bool.eq_false_iff.mpr c⟩
theorem slN_rng : ∀ l, l < 8 → 1 ≤ slN l ∧ slN l ≤ 4 := by decide
/-- the state behind the values, for both sides -/
theorem lnG_V {B : Nat → Nat} {N l k0 : Nat} {s : Sl} (hl : l < 8) (h : SlV B N l k0 (slN l) s) (ha : s.1 = true) : GlV B N k0 s.2.2.2 (lnG B N l s) ∨ (l ≠ 5 ∧ lnG B N l s = (s.2.1, s.2.2.1, s.2.2.2, 1)) := by
  unfold lnG
  by_cases c : l = 5
  · rw [if_pos c]
    subst c
    obtain ⟨h1, h2, h3, h4⟩ := h
    obtain ⟨h3a, h3b⟩ := h3 ha
    refine Or.inl (glR_V N _ ⟨h1, h2, h3a, by show 1 ≤ 1 ∧ 1 ≤ 8; decide, fun _ _ => rfl, fun hz k hk => ?_⟩)
    change k < 1 at hk
    rw [show k = 0 by omega]
    exact h3b hz 3 (by decide)
  · rw [if_neg c]; exact Or.inr ⟨c, rfl⟩
theorem line_V {B : Nat → Nat} {N : Nat} {sort : Int} {st : St} (h : StV B N sort st) (h1 : st.2.1.1 ≠ 1) (hk : kd st.1 ≠ 0) : StV B N sort (lineF B N sort st) ∧ ((lineF B N sort st).2.1.1 = 1 ∨ en st.1 < en (lineF B N sort st).1) := by
  obtain ⟨c, F, D⟩ := st
  obtain ⟨hc, hF, hD⟩ := h
  change TkV B N c at hc
  change F.1 ≠ 1 at h1
  change F.1 = 1 ∨ FtV c F at hF
  change F.1 = 0 → DtV sort D at hD
  change kd c ≠ 0 at hk
  have hF : FtV c F := hF.resolve_left h1
  unfold lineF
  show StV B N sort (if lnF sort c = 8 then _ else _) ∧ ((if lnF sort c = 8 then _ else _ : St).2.1.1 = 1 ∨ en c < en (if lnF sort c = 8 then _ else _ : St).1)
  by_cases c8 : lnF sort c = 8
  · rw [if_pos c8]
    exact ⟨⟨hc, Or.inl rfl, fun h => absurd h (by show ¬ ((1 : Int) = 0); decide)⟩, Or.inl rfl⟩
  · rw [if_neg c8]
    obtain ⟨l8, ls, lk⟩ := lnF_8 c8
    generalize lnF sort c = l at *
    have pe := hc.2.2.1 hk
    have sv := slR_V (sl0_V (l := l) (D := D) hc hk hF) (slN l)
    have f0 := sl_F0 (B := B) (N := N) (l := l) (s0 := sl0 B N l c F D) (slN l)
    show StV B N sort (lnB B N l D (slR B N l (sl0 B N l c F D) (slN l))) ∧ _
    generalize slR B N l (sl0 B N l c F D) (slN l) = s at sv f0 ⊢
    unfold lnB
    by_cases al : s.1 = true
    · rw [if_pos al]
      obtain ⟨sv1, sv2, sv3, sv4⟩ := sv
      obtain ⟨sv3a, sv3b⟩ := sv3 al
      have key : TkV B N (lnG B N l s).1 ∧ en c ≤ pl (lnG B N l s).1 ∧ FtV (lnG B N l s).1 (lnG B N l s).2.1 ∧ ((lnG B N l s).2.1.1 = 0 → DtV sort (tlF l D (lnG B N l s).2.2.1 (lnG B N l s).2.2.2)) := by
        rcases lnG_V l8 ⟨sv1, sv2, sv3, sv4⟩ al with g | ⟨ne, g⟩
        · obtain ⟨g1, g2, g3, g4, g5, g6⟩ := g
          refine ⟨g1, g2, g3, fun hz => ?_⟩
          have hs0 : s.2.2.1.1 = 0 := by
            unfold lnG at hz
            split at hz
            · exact gl_F0 N _ hz
            · exact hz
          obtain ⟨z1, z2⟩ := fl1_0 (f0 hs0)
          refine tl_V l8 ls (hD z1) z2 (fun j hj => ?_) g4 (fun k hk e5 => g6 hz k hk)
          by_cases e5 : l = 5
          · subst e5
            by_cases j3 : j < 3
            · rw [g5 j j3]; exact sv3b hs0 j hj
            · have : slN 5 = 4 := by decide
              rw [show j = 3 + 0 by omega]; exact g6 hz 0 (by omega)
          · unfold lnG; rw [if_neg e5]; exact sv3b hs0 j hj
        · rw [g]
          refine ⟨sv1, sv2, sv3a, fun hz => ?_⟩
          obtain ⟨z1, z2⟩ := fl1_0 (f0 hz)
          exact tl_V l8 ls (hD z1) z2 (fun j hj => sv3b hz j hj) (by show 1 ≤ 1 ∧ 1 ≤ 8; decide) (fun k hk e5 => absurd e5 ne)
      obtain ⟨k1, k2, k3, k4⟩ := key
      generalize lnG B N l s = w at k1 k2 k3 k4 ⊢
      obtain ⟨n1, n2⟩ := tkV_of (B := B) k1.1.2
      unfold lnE
      by_cases c4 : kd w.1 = 4
      · rw [if_pos c4]
        have := k1.2.2.1 (by omega)
        refine ⟨⟨n1, Or.inr (FtV_up k3 (by show pl w.1 ≤ pl (tkF B N (en w.1)); omega)), fun hz => ?_⟩, Or.inr ?_⟩
        · show DtV sort (if w.2.1.1 = 0 then _ else _)
          rw [if_pos hz]; exact k4 hz
        · show en c < en (tkF B N (en w.1))
          have := n1.1.1; omega
      · rw [if_neg c4]
        exact ⟨⟨k1, Or.inl rfl, fun h => absurd h (by show ¬ ((1 : Int) = 0); decide)⟩, Or.inl rfl⟩
    · rw [if_neg al]
      have e := sv.2.2.2 (Bool.eq_false_iff.mpr al)
      refine ⟨⟨sv.1, Or.inl ?_, fun h => ?_⟩, Or.inl ?_⟩
      · show s.2.2.1.1 = 1; rw [e]
      · change s.2.2.1.1 = 0 at h; rw [e] at h; exact absurd h (by show ¬ ((1 : Int) = 0); decide)
      · show s.2.2.1.1 = 1; rw [e]
/-- the class within a line -/
def CM (J0 J : mJ) (B : Nat → Nat) (N : Nat) (c : Tk) (F : Ft) : Prop := TkC J c ∧ (J 44 2 = F.1 ∧ J 44 3 = F.2) ∧ TpC J B N ∧ (∀ x, x ≠ 44 → x ≠ 64 → J x = J0 x) ∧ (J 44 12 = J0 44 12 ∧ J 44 13 = J0 44 13)
theorem x_next {J0 J : mJ} {B : Nat → Nat} {N : Nat} {c : Tk} {F : Ft} (h : CM J0 J B N c F) (hN : en c ≤ N) {post' : mJ → Prop} (hq : ∀ J1, CM J0 J1 B N (tkF B N (en c)) F → J1 64 = J 64 → J1 44 11 = J 44 11 → post' J1) : v_X5_nextToken J 44 2 post' :=
  x_nextToken h.2.2.1 h.1.1 hN (fun J1 tk fr => hq J1 ⟨tk, ⟨by rw [fr.2 2 (by omega)]; exact h.2.1.1, by rw [fr.2 3 (by omega)]; exact h.2.1.2⟩, TpC_fr fr h.2.2.1, fun x h1 h2 => by rw [fr.1 x h1]; exact h.2.2.2.1 x h1 h2, by rw [fr.2 12 (by omega)]; exact h.2.2.2.2.1, by rw [fr.2 13 (by omega)]; exact h.2.2.2.2.2⟩ (fr.1 64 (by decide)) (fr.2 11 (by omega)))
theorem CM_F {J0 J : mJ} {B : Nat → Nat} {N : Nat} {c : Tk} {F : Ft} {a b : Int} (h : CM J0 J B N c F) : CM J0 (up2 (up2 J 44 2 a) 44 3 b) B N c (a, b) ∧ up2 (up2 J 44 2 a) 44 3 b 64 = J 64 ∧ up2 (up2 J 44 2 a) 44 3 b 44 11 = J 44 11 := by
  have k : ∀ i, i ≠ 2 → i ≠ 3 → up2 (up2 J 44 2 a) 44 3 b 44 i = J 44 i := fun i h1 h2 => by rw [up2_off _ _ (Or.inr h2), up2_off _ _ (Or.inr h1)]
  have n : ∀ x, x ≠ 44 → up2 (up2 J 44 2 a) 44 3 b x = J x := fun x hx => by rw [up2_n _ _ _ hx, up2_n _ _ _ hx]
  obtain ⟨⟨t1, t2, t3, t4⟩, h2, ⟨p1, p2, p3⟩, h4, h5⟩ := h
  refine ⟨⟨⟨by rw [k 6 (by decide) (by decide)]; exact t1, by rw [k 7 (by decide) (by decide)]; exact t2, by rw [k 8 (by decide) (by decide)]; exact t3, by rw [k 9 (by decide) (by decide)]; exact t4⟩, ⟨by rw [up2_off _ _ (Or.inr (by decide)), up2_at], by rw [up2_at]⟩, ⟨p1, by rw [n 2 (by decide)]; exact p2, by rw [k 5 (by decide) (by decide)]; exact p3⟩, fun x h1 h2 => by rw [n x h1]; exact h4 x h1 h2, by rw [k 12 (by decide) (by decide)]; exact h5.1, by rw [k 13 (by decide) (by decide)]; exact h5.2⟩, n 64 (by decide), k 11 (by decide) (by decide)⟩
theorem x_blame {J0 J : mJ} {B : Nat → Nat} {N p : Nat} {c : Tk} {F : Ft} {w : Int} (h : CM J0 J B N c F) {post' : mJ → Prop} (hq : ∀ J1, CM J0 J1 B N c (blm w p F) → J1 64 = J 64 → J1 44 11 = J 44 11 → post' J1) : v_X5_blame J 44 2 w (p : Int) post' := by
  unfold v_X5_blame
  rw [h.2.1.1]
  unfold blm at hq
  refine ⟨fun c1 => ?_, fun c1 => ?_⟩
  · rw [if_neg c1] at hq; exact hq J h rfl rfl
  · rw [if_pos c1] at hq
    rintro J1 rfl J2 rfl
    obtain ⟨a, b, d⟩ := CM_F (a := w) (b := (p : Int)) h
    exact hq _ a b d
theorem x_breakOff {J0 J : mJ} {B : Nat → Nat} {N : Nat} {c : Tk} {F : Ft} (h : CM J0 J B N c F) {post' : mJ → Prop} (hq : ∀ J1, CM J0 J1 B N c (1, (pl c : Int)) → post' J1) : v_X5_breakOff J 44 2 post' := by
  unfold v_X5_breakOff
  rintro J1 rfl J2 rfl
  rw [show up2 J 44 2 1 44 8 = (pl c : Int) by rw [up2_off _ _ (Or.inr (by decide))]; exact h.1.2.2.1]
  exact hq _ (CM_F h).1
theorem x_weigh {J0 J : mJ} {B : Nat → Nat} {N l i : Nat} {c : Tk} {F : Ft} (hl : l < 8) (hi : i < 4) (h : CM J0 J B N c F) (hk : kd c = 2) {post' : mJ → Prop} (hq : ∀ J1, CM J0 J1 B N c (wgF l i c F) → J1 64 = J 64 → J1 44 11 = J 44 11 → post' J1) : v_X5_weigh J 44 2 (l : Int) (i : Int) post' := by
  have hb : v_X5_weigh_30 44 2 (l : Int) (i : Int) post' J ∨ (loT l i ≤ (nu c : Int) ∧ (nu c : Int) ≤ hiT l i) := by
    by_cases c1 : loT l i ≤ (nu c : Int) ∧ (nu c : Int) ≤ hiT l i
    · exact Or.inr c1
    · refine Or.inl ?_
      unfold v_X5_weigh_30
      rw [h.1.2.2.1]
      unfold wgF at hq
      rw [if_neg c1] at hq
      exact x_blame h hq
  unfold v_X5_weigh
  refine ⟨⟨by omega, by omega⟩, ⟨by omega, by omega⟩, ?_⟩
  intro y ey
  rw [show y = ((l * 4 + i : Nat) : Int) by omega, Int.toNat_natCast, h.1.2.2.2 hk]
  change _ ∧ ((nu c : Int) < loT l i → _) ∧ (¬ (nu c : Int) < loT l i → _ ∧ ((nu c : Int) ≤ hiT l i → _) ∧ (¬ (nu c : Int) ≤ hiT l i → _))
  refine ⟨⟨by omega, by omega⟩, fun c1 => hb.resolve_right (by omega), fun c1 => ⟨⟨by omega, by omega⟩, fun c2 => ?_, fun c2 => hb.resolve_right (by omega)⟩⟩
  unfold wgF at hq
  rw [if_pos (by omega)] at hq
  exact hq J h rfl rfl
theorem CM_v {J0 J : mJ} {B : Nat → Nat} {N i : Nat} {c : Tk} {F : Ft} {a : Int} (h : CM J0 J B N c F) : CM J0 (up2 J 64 i a) B N c F := by
  have e : up2 J 64 i a 44 = J 44 := up2_n _ _ _ (by decide)
  obtain ⟨h1, h2, ⟨p1, p2, p3⟩, h4, h5⟩ := h
  refine ⟨by unfold TkC; rw [e]; exact h1, by rw [e]; exact h2, ⟨p1, by rw [up2_n _ _ _ (by decide)]; exact p2, by rw [e]; exact p3⟩, fun x a1 a2 => by rw [up2_n _ _ _ a2]; exact h4 x a1 a2, by rw [e]; exact h5⟩
theorem x_readValue {J0 J : mJ} {B : Nat → Nat} {N l i : Nat} {c : Tk} {F : Ft} {v : Nat → Int} (hl : l < 8) (hi : i < 4) (h : CM J0 J B N c F) (hN : en c ≤ N) (hv : ∀ j, j < i → J 64 j = v j) {post' : Bool → mJ → Prop} (hq : ∀ J1, ((slS B N l (true, c, F, v) i).1 = true → CM J0 J1 B N (slS B N l (true, c, F, v) i).2.1 (slS B N l (true, c, F, v) i).2.2.1 ∧ ∀ j, j < i + 1 → J1 64 j = (slS B N l (true, c, F, v) i).2.2.2 j) → ((slS B N l (true, c, F, v) i).1 = false → (slS B N l (true, c, F, v) i).2.1 = c ∧ CM J0 J1 B N c F) → post' (slS B N l (true, c, F, v) i).1 J1) : v_X5_readValue J 44 2 (l : Int) (i : Int) post' := by
  have e0 : slS B N l (true, c, F, v) i = if kd c = 2 then (true, tkF B N (en c), wgF l i c F, up1 v i (nu c : Int)) else if l = 7 ∧ i = 3 ∧ kd c = 3 then (true, tkF B N (en c), F, up1 v i (-1)) else (false, c, (1, (pl c : Int)), v) := rfl
  rw [e0] at hq
  have k29 : ¬ (l = 7 ∧ i = 3 ∧ kd c = 3) → v_X5_readValue_29 44 2 (l : Int) (i : Int) post' J := by
    intro hn
    unfold v_X5_readValue_29
    rw [h.1.2.1]
    refine ⟨fun c1 => ?_, fun c1 => x_weigh hl hi h (by omega) (fun J4 h4 e64 e11 => ⟨⟨by omega, by omega⟩, ?_⟩)⟩
    · rw [if_neg (by omega), if_neg hn] at hq
      exact hq J (fun h => Bool.noConfusion h) (fun _ => ⟨rfl, h⟩)
    · rw [if_pos (by omega)] at hq
      rintro J6 rfl
      rw [Int.toNat_natCast]
      unfold v_X5_readValue_58
      refine x_next (CM_v h4) hN (fun J7 h7 e7 _ => hq J7 (fun _ => ⟨h7, fun j hj => ?_⟩) (fun h => Bool.noConfusion h))
      rw [e7]
      show up2 J4 (44 + 20) i _ (44 + 20) j = up1 v i (nu c : Int) j
      rw [up2_s]
      by_cases ee : j = i
      · rw [ee, up1_s, up1_s]; exact h4.1.2.2.2 (by omega)
      · rw [up1_n _ _ ee, up1_n _ _ ee]
        show J4 64 j = _
        rw [e64]; exact hv j (by omega)
  unfold v_X5_readValue
  refine ⟨fun c1 => k29 (by omega), fun c1 => ⟨fun c2 => k29 (by omega), fun c2 => ?_⟩⟩
  rw [h.1.2.1]
  refine ⟨fun c3 => k29 (by omega), fun c3 => ⟨⟨by omega, by omega⟩, ?_⟩⟩
  rw [if_neg (by omega), if_pos (by omega)] at hq
  rintro J2 rfl
  rw [Int.toNat_natCast]
  unfold v_X5_readValue_58
  refine x_next (CM_v h) hN (fun J7 h7 e7 _ => hq J7 (fun _ => ⟨h7, fun j hj => ?_⟩) (fun h => Bool.noConfusion h))
  rw [e7]
  show up2 J (44 + 20) i _ (44 + 20) j = up1 v i (-1) j
  rw [up2_s]
  by_cases ee : j = i
  · rw [ee, up1_s, up1_s]
  · rw [up1_n _ _ ee, up1_n _ _ ee]; exact hv j (by omega)
theorem sl_dead {B : Nat → Nat} {N l : Nat} {s0 : Sl} {i : Nat} (h : (slR B N l s0 i).1 = false) : ∀ d, slR B N l s0 (i + d) = slR B N l s0 i
  | 0 => rfl
  | d + 1 => by
    rw [← Nat.add_assoc, slR, sl_dead h d]
    unfold slS; rw [if_neg (by rw [h]; decide)]
theorem x_slots {J0 J : mJ} {B : Nat → Nat} {N l k0 : Nat} {c : Tk} {F : Ft} {sort : Int} {v : Nat → Int} (hl : l < 8) (h : CM J0 J B N c F) (hV : SlV B N l k0 0 (true, c, F, v)) {post' : mJ → Prop} {k57' : mJ → Prop} {k68' : mJ → Int → Prop} (hq0 : (slR B N l (true, c, F, v) (slN l)).1 = false → ∀ J1 F1, CM J0 J1 B N (slR B N l (true, c, F, v) (slN l)).2.1 F1 → k57' J1) (hq1 : (slR B N l (true, c, F, v) (slN l)).1 = true → ∀ J1, CM J0 J1 B N (slR B N l (true, c, F, v) (slN l)).2.1 (slR B N l (true, c, F, v) (slN l)).2.2.1 → (∀ j, j < slN l → J1 64 j = (slR B N l (true, c, F, v) (slN l)).2.2.2 j) → k68' J1 (l : Int)) : v_X5_readLine_39 44 2 sort post' k57' k68' J (l : Int) 0 := by
  have sr := slN_rng l hl
  have sn : (tb_slots l).toInt = (slN l : Int) := by
    have : ∀ l, l < 8 → (tb_slots l).toInt = (slN l : Int) := by decide
    exact this l hl
  have vv := slR_V hV
  unfold v_X5_readLine_39
  intro ZZ hZ
  refine lpN (S := fun i => (slR B N l (true, c, F, v) i).1 = true → ∀ J1, CM J0 J1 B N (slR B N l (true, c, F, v) i).2.1 (slR B N l (true, c, F, v) i).2.2.1 → (∀ j, j < i → J1 64 j = (slR B N l (true, c, F, v) i).2.2.2 j) → ZZ J1 (l : Int) (i : Int)) (N := slN l) (fun i hi ih ha J1 h1 hv1 => hZ _ _ _ ?_) (fun ha J1 h1 hv1 => hZ _ _ _ ?_) rfl J h (fun j hj => absurd hj (Nat.not_lt_zero _))
  · rw [Int.toNat_natCast, sn]
    have tv := (vv i).1
    have er : slR B N l (true, c, F, v) (i + 1) = slS B N l (true, (slR B N l (true, c, F, v) i).2.1, (slR B N l (true, c, F, v) i).2.2.1, (slR B N l (true, c, F, v) i).2.2.2) i := by
      rw [slR]
      generalize slR B N l (true, c, F, v) i = x at ha
      obtain ⟨x1, x2⟩ := x
      change x1 = true at ha
      subst ha; rfl
    refine ⟨⟨by omega, by omega⟩, fun c1 => by omega, fun _ => x_readValue hl (by omega) h1 tv.1.2 hv1 (fun J2 q1 q0 => ?_)⟩
    rw [← er] at q1 q0 ⊢
    refine ⟨fun c2 => ⟨⟨by omega, by omega⟩, ?_⟩, fun c2 => ?_⟩
    · rintro _ rfl
      exact ih c2 J2 (q1 c2).1 (q1 c2).2
    · have dd := sl_dead c2 (slN l - (i + 1))
      rw [show i + 1 + (slN l - (i + 1)) = slN l by omega] at dd
      rw [dd] at hq0
      refine hq0 c2 J2 (slR B N l (true, c, F, v) i).2.2.1 ?_
      rw [(q0 c2).1]; exact (q0 c2).2
  · rw [Int.toNat_natCast, sn]
    exact ⟨⟨by omega, by omega⟩, fun _ => hq1 ha J1 h1 hv1, fun c1 => absurd (Int.le_refl _) c1⟩
theorem CM_11 {J0 J : mJ} {B : Nat → Nat} {N : Nat} {c : Tk} {F : Ft} {a : Int} (h : CM J0 J B N c F) : CM J0 (up2 J 44 11 a) B N c F := by
  have k : ∀ i, i ≠ 11 → up2 J 44 11 a 44 i = J 44 i := fun i h1 => up2_off _ _ (Or.inr h1)
  have n : ∀ x, x ≠ 44 → up2 J 44 11 a x = J x := fun x hx => up2_n _ _ _ hx
  obtain ⟨⟨t1, t2, t3, t4⟩, h2, ⟨p1, p2, p3⟩, h4, h5⟩ := h
  exact ⟨⟨by rw [k 6 (by decide)]; exact t1, by rw [k 7 (by decide)]; exact t2, by rw [k 8 (by decide)]; exact t3, by rw [k 9 (by decide)]; exact t4⟩, by rw [k 2 (by decide), k 3 (by decide)]; exact h2, ⟨p1, by rw [n 2 (by decide)]; exact p2, by rw [k 5 (by decide)]; exact p3⟩, fun x h1 h2 => by rw [n x h1]; exact h4 x h1 h2, by rw [k 12 (by decide), k 13 (by decide)]; exact h5⟩
theorem x_goals {J0 J : mJ} {B : Nat → Nat} {N k0 : Nat} {c : Tk} {F : Ft} {v : Nat → Int} (h : CM J0 J B N c F) (hG : GlV B N k0 v (c, F, v, 1)) (hv : ∀ j, j < 4 → J 64 j = v j) {post' : mJ → Prop} (hq : ∀ J1, CM J0 J1 B N (glR B N N (c, F, v, 1)).1 (glR B N N (c, F, v, 1)).2.1 → J1 44 11 = ((glR B N N (c, F, v, 1)).2.2.2 : Int) → (∀ j, j < 3 + (glR B N N (c, F, v, 1)).2.2.2 → J1 64 j = (glR B N N (c, F, v, 1)).2.2.1 j) → post' J1) : v_X5_readFurtherGoals J 44 2 post' := by
  unfold v_X5_readFurtherGoals
  rintro J1 rfl
  unfold v_X5_readFurtherGoals_7
  intro ZZ hZ
  refine lpN (S := fun i => ∀ (J1 : mJ) (w : Gl), GlV B N k0 v w → CM J0 J1 B N w.1 w.2.1 → J1 44 11 = (w.2.2.2 : Int) → (∀ j, j < 3 + w.2.2.2 → J1 64 j = w.2.2.1 j) → glR B N (N - i) w = glR B N N (c, F, v, 1) → ZZ J1 (i : Int)) (N := N) (fun i hi ih J1 w hw h1 e11 hv1 er => hZ _ _ ?_) (fun J1 w hw h1 e11 hv1 er => hZ _ _ ?_) _ _ hG (CM_11 h) (by rw [up2_at]; rfl) (fun j hj => ?_) rfl
  · rw [show N - i = (N - (i + 1)) + 1 by omega, glR] at er
    rw [h1.2.2.1.2.2, h1.1.2.1]
    refine ⟨fun c1 => by omega, fun _ => ⟨fun c1 => ?_, fun c1 => ?_⟩⟩
    · rw [if_neg (by omega)] at er
      rw [← er] at hq; exact hq J1 h1 e11 hv1
    · rw [if_pos (by omega)] at er
      obtain ⟨⟨t1, t2, t3, t4, t5, t6⟩, g2, g3, g4, g5, g6⟩ := hw
      have hw' : GlV B N k0 v (glS B N w) := (glS_V (by omega) ⟨⟨t1, t2, t3, t4, t5, t6⟩, g2, g3, g4, g5, g6⟩).elim (fun x => x.1) (fun x => x.1)
      have n6 := h1.2.2.1.1
      refine x_weigh (l := 5) (i := 3) (by decide) (by decide) h1 (by omega) (fun J2 h2 e64 e112 => ?_)
      rw [e112, e11, h2.1.2.2.1]
      unfold glS at ih hw' er
      refine ⟨fun c2 => x_blame h2 (fun J3 h3 e643 e113 => ?_), fun c2 => ⟨⟨by omega, by omega⟩, ⟨by omega, by omega⟩, ?_⟩⟩
      · rw [if_neg (by omega)] at hw' er
        unfold v_X5_readFurtherGoals_75
        refine x_next h3 t1.2 (fun J9 h9 e9 e119 => ⟨⟨by omega, by omega⟩, ?_⟩)
        rintro _ rfl
        refine ih J9 _ hw' h9 (by rw [e119, e113, e112]; exact e11) (fun j hj => ?_) er
        rw [e9, e643, e64]; exact hv1 j hj
      · rw [if_pos (by omega)] at hw' er
        rintro J6 rfl
        rw [show (3 + (w.2.2.2 : Int)).toNat = 3 + w.2.2.2 by omega, show up2 J2 (44 + 20) (3 + w.2.2.2) (J2 44 9) 44 11 = (w.2.2.2 : Int) by rw [up2_n _ _ _ (by decide), e112]; exact e11]
        refine ⟨⟨by omega, by omega⟩, ?_⟩
        rintro J8 rfl
        unfold v_X5_readFurtherGoals_75
        refine x_next (CM_11 (CM_v h2)) t1.2 (fun J9 h9 e9 e119 => ⟨⟨by omega, by omega⟩, ?_⟩)
        rintro _ rfl
        refine ih J9 _ hw' h9 (by rw [e119, up2_at]; rfl) (fun j hj => ?_) er
        rw [e9, up2_n _ _ _ (by decide)]
        show up2 J2 (44 + 20) (3 + w.2.2.2) _ (44 + 20) j = up1 w.2.2.1 (3 + w.2.2.2) (nu w.1 : Int) j
        rw [up2_s]
        change j < 3 + (w.2.2.2 + 1) at hj
        by_cases ee : j = 3 + w.2.2.2
        · rw [ee, up1_s, up1_s]; exact h2.1.2.2.2 (by omega)
        · rw [up1_n _ _ ee, up1_n _ _ ee]
          show J2 64 j = _
          rw [e64]; exact hv1 j (by omega)
  · rw [h1.2.2.1.2.2]
    rw [Nat.sub_self, glR] at er
    rw [← er] at hq
    exact ⟨fun _ => hq J1 h1 e11 hv1, fun c1 => absurd (Int.le_refl _) c1⟩
  · rw [up2_n _ _ _ (by decide)]; exact hv j (by show j < 3 + 1; exact hj)
