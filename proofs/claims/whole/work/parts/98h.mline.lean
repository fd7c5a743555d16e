/-! the reference reads a line -/
def RM (J0 J : mJ) (B : Nat → Nat) (N : Nat) (c : Tk) (F : Ft) (al : Bool) : Prop := (al = true → TkM J c ∧ J 128 8 = 0) ∧ (al = false → J 128 8 = 1) ∧ (J 129 3 = F.1 ∧ J 129 4 = F.2) ∧ TpM J B N ∧ (∀ x, x ≠ 128 → x ≠ 129 → x ≠ 131 → J x = J0 x) ∧ (∀ i, i ≠ 3 → i ≠ 4 → J 129 i = J0 129 i) ∧ (∀ i, (i < 2 ∨ 10 < i) → J 128 i = J0 128 i)
/-- nothing but tokens and faults has changed -/
def Sm (J J1 : mJ) : Prop := J1 131 = J 131 ∧ J1 128 9 = J 128 9 ∧ J1 128 10 = J 128 10
theorem Sm_refl (J : mJ) : Sm J J := ⟨rfl, rfl, rfl⟩
theorem Sm_tr {J J1 J2 : mJ} (h : Sm J J1) (h2 : Sm J1 J2) : Sm J J2 := ⟨h2.1.trans h.1, h2.2.1.trans h.2.1, h2.2.2.trans h.2.2⟩
theorem n_adv {J0 J : mJ} {B : Nat → Nat} {N : Nat} {c : Tk} {F : Ft} (h : RM J0 J B N c F true) (hN : en c ≤ N) {post' : mJ → Prop} (hq : ∀ J1, RM J0 J1 B N (tkF B N (en c)) F true → Sm J J1 → post' J1) : v_X12_advance J 128 post' := by
  obtain ⟨h1, h2, h3, h4, h5, h6, h7⟩ := h
  obtain ⟨tk, w0⟩ := h1 rfl
  refine n_advance h4 tk.1 hN (fun J1 tk1 fr => hq J1 ⟨fun _ => ⟨tk1, by rw [fr.2 8 (by omega)]; exact w0⟩, fun h => Bool.noConfusion h, by rw [fr.1 129 (by decide)]; exact h3, TpM_fr fr h4, fun x a b d => by rw [fr.1 x a]; exact h5 x a b d, fun i a b => by rw [fr.1 129 (by decide)]; exact h6 i a b, fun i hi => by rw [fr.2 i (by omega)]; exact h7 i hi⟩ ⟨fr.1 131 (by decide), fr.2 9 (by omega), fr.2 10 (by omega)⟩)
theorem RM_F {J0 J : mJ} {B : Nat → Nat} {N : Nat} {c : Tk} {F : Ft} {al : Bool} {a b : Int} (h : RM J0 J B N c F al) : RM J0 (up2 (up2 J 129 3 a) 129 4 b) B N c (a, b) al ∧ Sm J (up2 (up2 J 129 3 a) 129 4 b) := by
  obtain ⟨h1, h2, h3, ⟨p1, p2, p3⟩, h5, h6, h7⟩ := h
  have e128 : up2 (up2 J 129 3 a) 129 4 b 128 = J 128 := by rw [u2n (by decide), u2n (by decide)]
  have k : ∀ i, i ≠ 3 → i ≠ 4 → up2 (up2 J 129 3 a) 129 4 b 129 i = J 129 i := fun i x y => by rw [up2_off _ _ (Or.inr y), up2_off _ _ (Or.inr x)]
  refine ⟨⟨fun ha => ?_, fun ha => by rw [e128]; exact h2 ha, ⟨by rw [up2_off _ _ (Or.inr (by decide)), up2_at], by rw [up2_at]⟩, ⟨p1, fun i hi => ⟨(p2 i hi).1, by rw [k _ (by omega) (by omega)]; exact (p2 i hi).2⟩, by rw [e128]; exact p3⟩, fun x a b d => by rw [u2n b, u2n b]; exact h5 x a b d, fun i a b => by rw [k i a b]; exact h6 i a b, fun i hi => by rw [e128]; exact h7 i hi⟩, by rw [u2n (by decide), u2n (by decide)], by rw [e128], by rw [e128]⟩
  unfold TkM; rw [e128]; exact h1 ha
theorem n_ends {J0 J : mJ} {B : Nat → Nat} {N : Nat} {c : Tk} {F : Ft} {al : Bool} (h : RM J0 J B N c F al) {post' : mJ → Prop} (hq : ∀ J1, RM J0 J1 B N c (if al = true then (1, (pl c : Int)) else F) false → Sm J J1 → post' J1) : v_X12_ends J 128 post' := by
  unfold v_X12_ends
  cases al with
  | true =>
    rw [if_pos rfl] at hq
    obtain ⟨tk, w0⟩ := h.1 rfl
    rw [w0]
    refine ⟨fun _ => ?_, fun c1 => absurd rfl c1⟩
    rintro J1 rfl J3 rfl
    have e4 : up2 (up2 J 128 8 1) (128 + 1) 3 1 128 4 = (pl c : Int) := by rw [u2n (by decide), up2_off _ _ (Or.inr (by decide))]; exact tk.2.1
    rw [e4]
    rintro J5 rfl
    have hd : RM J0 (up2 J 128 8 1) B N c F false := by
      obtain ⟨h1, h2, h3, ⟨p1, p2, p3⟩, h5, h6, h7⟩ := h
      have k : ∀ i, i ≠ 8 → up2 J 128 8 1 128 i = J 128 i := fun i hi => up2_off _ _ (Or.inr hi)
      exact ⟨fun h => Bool.noConfusion h, fun _ => up2_at _ _ _ _, by rw [u2n (by decide)]; exact h3, ⟨p1, by rw [u2n (by decide)]; exact p2, by rw [k 2 (by decide)]; exact p3⟩, fun x a b d => by rw [u2n a]; exact h5 x a b d, fun i a b => by rw [u2n (by decide)]; exact h6 i a b, fun i hi => by rw [k i (by omega)]; exact h7 i hi⟩
    obtain ⟨r, s⟩ := RM_F (a := 1) (b := (pl c : Int)) hd
    exact hq _ r (Sm_tr ⟨by rw [u2n (by decide)], by rw [up2_off _ _ (Or.inr (by decide))], by rw [up2_off _ _ (Or.inr (by decide))]⟩ s)
  | false =>
    rw [if_neg (by decide)] at hq
    rw [h.2.1 rfl]
    exact ⟨fun c1 => absurd c1 (by decide), fun _ => hq J h (Sm_refl J)⟩
def alF (w : Int) (p : Nat) (F : Ft) : Ft := if F.1 = 0 then (w, (p : Int)) else if F.2 < (p : Int) then F else if F.2 = (p : Int) then (if w < F.1 then (w, (p : Int)) else F) else (w, (p : Int))
theorem alF_blm {w : Int} {p : Nat} {F : Ft} (h : F.1 = 0 ∨ F.2 < (p : Int)) : alF w p F = blm w p F := by
  unfold alF blm
  by_cases c : F.1 = 0
  · rw [if_pos c, if_pos c]
  · rw [if_neg c, if_neg c, if_pos (h.resolve_left c)]
theorem n_also {J0 J : mJ} {B : Nat → Nat} {N p : Nat} {c : Tk} {F : Ft} {al : Bool} {w : Int} (h : RM J0 J B N c F al) {post' : mJ → Prop} (hq : ∀ J1, RM J0 J1 B N c (if al = true then alF w p F else F) al → Sm J J1 → post' J1) : v_X12_also J 128 w (p : Int) post' := by
  have set : al = true → v_X12_also_47 128 w (p : Int) post' J ∨ alF w p F ≠ (w, (p : Int)) := by
    intro ha
    by_cases c1 : alF w p F = (w, (p : Int))
    · refine Or.inl ?_
      rw [if_pos ha, c1] at hq
      unfold v_X12_also_47
      rintro J6 rfl J8 rfl
      obtain ⟨r, s⟩ := RM_F (a := w) (b := (p : Int)) h
      exact hq _ r s
    · exact Or.inr c1
  unfold v_X12_also
  rw [show J (128 + 1) 3 = _ from h.2.2.1.1, show J (128 + 1) 4 = _ from h.2.2.1.2]
  cases al with
  | true =>
    have set := set rfl
    rw [if_pos rfl] at hq
    rw [(h.1 rfl).2]
    unfold alF at set hq
    refine ⟨fun c1 => absurd rfl c1, fun _ => ⟨fun c1 => ?_, fun c1 => ⟨fun c2 => ?_, fun c2 => ⟨fun c3 => ?_, fun c3 => ⟨fun c4 => ?_, fun c4 => ?_⟩⟩⟩⟩⟩
    · rw [if_pos c1] at set; exact set.resolve_right (fun h => h rfl)
    · rw [if_neg c1, if_pos c2] at hq; exact hq J h (Sm_refl J)
    · rw [if_neg c1, if_neg c2, if_neg c3] at set; exact set.resolve_right (fun h => h rfl)
    · rw [if_neg c1, if_neg c2, if_pos c3, if_pos c4] at set; exact set.resolve_right (fun h => h rfl)
    · rw [if_neg c1, if_neg c2, if_pos c3, if_neg c4] at hq; exact hq J h (Sm_refl J)
  | false =>
    rw [if_neg (by decide)] at hq
    rw [h.2.1 rfl]
    exact ⟨fun _ => hq J h (Sm_refl J), fun c1 => absurd c1 (by decide)⟩
theorem rtk_n {c : Tk} (h : kd c ≤ 5) : (rtk c = 1 ↔ kd c = 2) ∧ (rtk c = 2 ↔ kd c = 4) ∧ (rtk c = 5 ↔ kd c = 3) ∧ (rtk c = 3 ↔ kd c = 1 ∧ wd c < 8) ∧ (rtk c = 0 ↔ kd c = 0) := by
  unfold rtk
  by_cases c0 : kd c = 0
  · rw [if_pos c0]; omega
  · rw [if_neg c0]
    by_cases c2 : kd c = 2
    · rw [if_pos c2]; omega
    · rw [if_neg c2]
      by_cases c4 : kd c = 4
      · rw [if_pos c4]; omega
      · rw [if_neg c4]
        by_cases c3 : kd c = 3
        · rw [if_pos c3]; omega
        · rw [if_neg c3]
          by_cases c1 : kd c = 1 ∧ wd c < 8
          · rw [if_pos c1]; omega
          · rw [if_neg c1]; omega
/-- a number that is there -/
theorem n_num {J0 J : mJ} {B : Nat → Nat} {N : Nat} {c : Tk} {F : Ft} {a1 a2 : Int} (h : RM J0 J B N c F true) (hc : TkV B N c) (hk : kd c = 2) (hl : a1 ≤ a2) {post' : Int → mJ → Prop} (hq : ∀ r J1, RM J0 J1 B N (tkF B N (en c)) (if a1 ≤ (nu c : Int) ∧ (nu c : Int) ≤ a2 then F else alF 2 (pl c) F) true → Sm J J1 → a1 ≤ r → r ≤ a2 → ((a1 ≤ (nu c : Int) ∧ (nu c : Int) ≤ a2) → r = (nu c : Int)) → post' r J1) : v_X12_numbered J 128 a1 a2 post' := by
  obtain ⟨tk, w0⟩ := h.1 rfl
  have rk := (rtk_n hc.2.1).1.mpr hk
  have go : ∀ J3, RM J0 J3 B N c (if a1 ≤ (nu c : Int) ∧ (nu c : Int) ≤ a2 then F else alF 2 (pl c) F) true → Sm J J3 → v_X12_numbered_44 128 a1 a2 post' J3 (nu c : Int) := by
    intro J3 h3 s3
    unfold v_X12_numbered_44
    refine n_adv h3 hc.1.2 (fun J4 h4 s4 => n_isIn (fun cc => ⟨fun _ => ?_, fun c2 => Bool.noConfusion c2⟩) (fun cc => ⟨fun c2 => Bool.noConfusion c2, fun _ => ?_⟩))
    · exact hq a1 J4 h4 (Sm_tr s3 s4) (Int.le_refl _) hl (fun h => absurd h cc)
    · exact hq _ J4 h4 (Sm_tr s3 s4) cc.1 cc.2 (fun _ => rfl)
  unfold v_X12_numbered
  rw [w0, tk.2.2.1, tk.2.2.2.1 hk]
  refine ⟨fun c1 => absurd rfl c1, fun _ => ⟨fun _ => ?_, fun c1 => absurd (by omega) c1⟩⟩
  rintro _ rfl
  refine n_isIn (fun cc => ⟨fun c2 => Bool.noConfusion c2, fun _ => ?_⟩) (fun cc => ⟨fun _ => go J ?_ (Sm_refl J), fun c2 => Bool.noConfusion c2⟩)
  · rw [tk.2.1]
    refine n_also h (fun J3 h3 s3 => go J3 ?_ s3)
    rw [if_neg cc]; rw [if_pos rfl] at h3; exact h3
  · rw [if_pos cc]; exact h
theorem n_nonum {J0 J : mJ} {B : Nat → Nat} {N : Nat} {c : Tk} {F : Ft} {al : Bool} {a1 a2 : Int} (h : RM J0 J B N c F al) (hc : TkV B N c) (hk : al = true → kd c ≠ 2) {post' : Int → mJ → Prop} (hq : ∀ J1, RM J0 J1 B N c (if al = true then (1, (pl c : Int)) else F) false → Sm J J1 → post' a1 J1) : v_X12_numbered J 128 a1 a2 post' := by
  have k15 : v_X12_numbered_15 128 a1 a2 post' J := by
    unfold v_X12_numbered_15
    exact n_ends h (fun J6 h6 s6 => hq J6 h6 s6)
  unfold v_X12_numbered
  cases al with
  | true =>
    obtain ⟨tk, w0⟩ := h.1 rfl
    rw [w0, tk.2.2.1]
    have rk := (rtk_n hc.2.1).1
    exact ⟨fun c1 => absurd rfl c1, fun _ => ⟨fun c1 => absurd (rk.mp (by omega)) (hk rfl), fun _ => k15⟩⟩
  | false =>
    rw [h.2.1 rfl]
    exact ⟨fun _ => k15, fun c1 => absurd c1 (by decide)⟩
theorem n_numbered {J0 J : mJ} {B : Nat → Nat} {N l i k0 m : Nat} {s : Sl} {a1 a2 : Int} (h : RM J0 J B N s.2.1 s.2.2.1 s.1) (hV : SlV B N l k0 m s) (e1 : loT l i = a1) (e2 : hiT l i = a2) (hl : a1 ≤ a2) (hd : l ≠ 7 ∨ i ≠ 3) {post' : Int → mJ → Prop} (hq : ∀ r J1, RM J0 J1 B N (slS B N l s i).2.1 (slS B N l s i).2.2.1 (slS B N l s i).1 → Sm J J1 → a1 ≤ r → r ≤ a2 → ((slS B N l s i).1 = true → (slS B N l s i).2.2.1.1 = 0 → r = (slS B N l s i).2.2.2 i) → post' r J1) : v_X12_numbered J 128 a1 a2 post' := by
  obtain ⟨al, c, F, v⟩ := s
  obtain ⟨hc, _, hF, hdd⟩ := hV
  change TkV B N c at hc
  change RM J0 J B N c F al at h
  cases al with
  | true =>
    have hF : FtV c F := (hF rfl).1
    have es : slS B N l (true, c, F, v) i = if kd c = 2 then (true, tkF B N (en c), wgF l i c F, up1 v i (nu c : Int)) else if l = 7 ∧ i = 3 ∧ kd c = 3 then (true, tkF B N (en c), F, up1 v i (-1)) else (false, c, (1, (pl c : Int)), v) := rfl
    rw [es] at hq
    by_cases hk : kd c = 2
    · rw [if_pos hk] at hq
      refine n_num h hc hk hl (fun r J1 h1 s1 r1 r2 r3 => hq r J1 ?_ s1 r1 r2 (fun _ hz => ?_))
      · show RM J0 J1 B N (tkF B N (en c)) (wgF l i c F) true
        unfold wgF
        rw [e1, e2]
        by_cases cc : a1 ≤ (nu c : Int) ∧ (nu c : Int) ≤ a2
        · rw [if_pos cc] at h1 ⊢; exact h1
        · rw [if_neg cc] at h1 ⊢
          rw [alF_blm (hF.imp id (fun h => h.2))] at h1; exact h1
      · show r = up1 v i (nu c : Int) i
        rw [up1_s]
        have := (wgF_0 hz).2
        rw [e1, e2] at this
        exact r3 this
    · rw [if_neg hk, if_neg (by omega)] at hq
      refine n_nonum h hc (fun _ => hk) (fun J1 h1 s1 => hq a1 J1 ?_ s1 (Int.le_refl _) hl (fun h => Bool.noConfusion h))
      rw [if_pos rfl] at h1; exact h1
  | false =>
    have es : slS B N l (false, c, F, v) i = (false, c, F, v) := rfl
    rw [es] at hq
    refine n_nonum h hc (fun h => Bool.noConfusion h) (fun J1 h1 s1 => hq a1 J1 ?_ s1 (Int.le_refl _) hl (fun h => Bool.noConfusion h))
    rw [if_neg (by decide)] at h1; exact h1
theorem RM_128 {J0 J : mJ} {B : Nat → Nat} {N i : Nat} {c : Tk} {F : Ft} {al : Bool} {a : Int} (hi : i = 9 ∨ i = 10) (h : RM J0 J B N c F al) : RM J0 (up2 J 128 i a) B N c F al := by
  obtain ⟨h1, h2, h3, ⟨p1, p2, p3⟩, h5, h6, h7⟩ := h
  have k : ∀ j, (j < 9 ∨ 10 < j) → up2 J 128 i a 128 j = J 128 j := fun j hj => up2_off _ _ (Or.inr (by omega))
  refine ⟨fun ha => ?_, fun ha => by rw [k 8 (by omega)]; exact h2 ha, by rw [u2n (by decide)]; exact h3, ⟨p1, by rw [u2n (by decide)]; exact p2, by rw [k 2 (by omega)]; exact p3⟩, fun x a b d => by rw [u2n a]; exact h5 x a b d, fun i a b => by rw [u2n (by decide)]; exact h6 i a b, fun j hj => by rw [k j (by omega)]; exact h7 j hj⟩
  unfold TkM; rw [k 3 (by omega), k 4 (by omega), k 5 (by omega), k 6 (by omega), k 7 (by omega), k 8 (by omega)]; exact h1 ha
theorem RM_131 {J0 J : mJ} {B : Nat → Nat} {N i : Nat} {c : Tk} {F : Ft} {al : Bool} {a : Int} (h : RM J0 J B N c F al) : RM J0 (up2 J 131 i a) B N c F al := by
  obtain ⟨h1, h2, h3, ⟨p1, p2, p3⟩, h5, h6, h7⟩ := h
  have e : up2 J 131 i a 128 = J 128 := u2n (by decide)
  have e9 : up2 J 131 i a 129 = J 129 := u2n (by decide)
  refine ⟨fun ha => ?_, fun ha => by rw [e]; exact h2 ha, by rw [e9]; exact h3, ⟨p1, by rw [e9]; exact p2, by rw [e]; exact p3⟩, fun x a b d => by rw [u2n d]; exact h5 x a b d, fun i a b => by rw [e9]; exact h6 i a b, fun j hj => by rw [e]; exact h7 j hj⟩
  unfold TkM; rw [e]; exact h1 ha
theorem mx_if (a b : Int) : maxZ a b = if b ≤ a then a else b := by unfold maxZ; split <;> split <;> omega
theorem n_who {J0 J : mJ} {B : Nat → Nat} {N l i k0 m : Nat} {s : Sl} (h : RM J0 J B N s.2.1 s.2.2.1 s.1) (hV : SlV B N l k0 m s) (e1 : loT l i = 0) (e2 : hiT l i = 5) (hd : l ≠ 7) {post' : Int → mJ → Prop} (hq : ∀ r J1, RM J0 J1 B N (slS B N l s i).2.1 (slS B N l s i).2.2.1 (slS B N l s i).1 → J1 131 = J 131 → J1 128 9 = maxZ (J 128 9) r → J1 128 10 = J 128 10 → 0 ≤ r → r ≤ 5 → ((slS B N l s i).1 = true → (slS B N l s i).2.2.1.1 = 0 → r = (slS B N l s i).2.2.2 i) → post' r J1) : v_X12_who J 128 post' := by
  unfold v_X12_who
  refine n_numbered h hV e1 e2 (by decide) (Or.inl hd) (fun r J2 h2 s2 r1 r2 r3 => ?_)
  have go : ∀ v : Int, v = maxZ (J 128 9) r → v_X12_who_24 128 post' J2 r v := by
    rintro _ rfl
    unfold v_X12_who_24
    rintro J3 rfl
    exact hq r _ (RM_128 (Or.inl rfl) h2) (by rw [u2n (by decide)]; exact s2.1) (up2_at _ _ _ _) (by rw [up2_off _ _ (Or.inr (by decide))]; exact s2.2.2) r1 r2 r3
  rw [s2.2.1]
  exact ⟨fun c1 => go _ (by rw [mx_if, if_pos c1]), fun c1 => go _ (by rw [mx_if, if_neg c1])⟩
theorem n_stepTold {J0 J : mJ} {B : Nat → Nat} {N l i k0 m : Nat} {s : Sl} (h : RM J0 J B N s.2.1 s.2.2.1 s.1) (hV : SlV B N l k0 m s) (e1 : loT l i = 0) (e2 : hiT l i = 23) (hd : l ≠ 7) {post' : Int → mJ → Prop} (hq : ∀ r J1, RM J0 J1 B N (slS B N l s i).2.1 (slS B N l s i).2.2.1 (slS B N l s i).1 → J1 131 = J 131 → J1 128 9 = J 128 9 → J1 128 10 = maxZ (J 128 10) r → 0 ≤ r → r ≤ 23 → ((slS B N l s i).1 = true → (slS B N l s i).2.2.1.1 = 0 → r = (slS B N l s i).2.2.2 i) → post' r J1) : v_X12_stepTold J 128 post' := by
  unfold v_X12_stepTold
  refine n_numbered h hV e1 e2 (by decide) (Or.inl hd) (fun r J2 h2 s2 r1 r2 r3 => ?_)
  have go : ∀ v : Int, v = maxZ (J 128 10) r → v_X12_stepTold_25 128 post' J2 r v := by
    rintro _ rfl
    unfold v_X12_stepTold_25
    rintro J3 rfl
    exact hq r _ (RM_128 (Or.inr rfl) h2) (by rw [u2n (by decide)]; exact s2.1) (by rw [up2_off _ _ (Or.inr (by decide))]; exact s2.2.1) (up2_at _ _ _ _) r1 r2 r3
  rw [s2.2.2]
  exact ⟨fun c1 => go _ (by rw [mx_if, if_pos c1]), fun c1 => go _ (by rw [mx_if, if_neg c1])⟩
theorem n_takes {J0 J : mJ} {B : Nat → Nat} {N : Nat} {c : Tk} {F : Ft} {a1 a2 : Int} (h : RM J0 J B N c F true) (hc : TkV B N c) {post' : Int → mJ → Prop} (h0 : ¬ (kd c = 1 ∧ wd c < 8 ∧ a1 ≤ (wd c : Int) + 1 ∧ (wd c : Int) + 1 ≤ a2) → ∀ J1, RM J0 J1 B N c (1, (pl c : Int)) false → Sm J J1 → post' 0 J1) (h1 : (kd c = 1 ∧ wd c < 8 ∧ a1 ≤ (wd c : Int) + 1 ∧ (wd c : Int) + 1 ≤ a2) → ∀ J1, RM J0 J1 B N (tkF B N (en c)) F true → Sm J J1 → post' ((wd c : Int) + 1) J1) : v_X12_takes J 128 a1 a2 post' := by
  obtain ⟨tk, w0⟩ := h.1 rfl
  have rk := (rtk_n hc.2.1).2.2.2.1
  have bad : ¬ (kd c = 1 ∧ wd c < 8 ∧ a1 ≤ (wd c : Int) + 1 ∧ (wd c : Int) + 1 ≤ a2) → v_X12_takes_27 128 a1 a2 post' J := fun hn => by
    unfold v_X12_takes_27
    refine n_ends h (fun J4 h4 s4 => h0 hn J4 ?_ s4)
    rw [if_pos rfl] at h4; exact h4
  unfold v_X12_takes
  rw [w0, tk.2.2.1]
  refine ⟨fun c1 => absurd rfl c1, fun _ => ⟨fun c1 => bad (fun hh => c1 (by rw [rk.mpr ⟨hh.1, hh.2.1⟩]; rfl)), fun c1 => ?_⟩⟩
  have r3 : rtk c = 3 := by omega
  rw [tk.2.2.2.2 r3]
  obtain ⟨k1, k2⟩ := rk.mp r3
  refine n_isIn (fun cc => ⟨fun c2 => Bool.noConfusion c2, fun _ => bad (fun hh => cc hh.2.2)⟩) (fun cc => ⟨fun _ => ?_, fun c2 => Bool.noConfusion c2⟩)
  rintro _ rfl
  exact n_adv h hc.1.2 (fun J3 h3 s3 => h1 ⟨k1, k2, cc⟩ J3 h3 s3)
/-- between lines -/
def BK (J : mJ) (D : Dt) : Prop := (∀ j, j < 149 → J 131 j = D.1 j) ∧ J 128 10 = D.2.1 ∧ J 128 9 = D.2.2
def CB (sort : Int) (J : mJ) : Prop := (sort = 0 → (0 ≤ J 131 2 ∧ J 131 2 ≤ 6) ∧ (0 ≤ J 131 3 ∧ J 131 3 ≤ 6) ∧ (0 ≤ J 131 4 ∧ J 131 4 ≤ 8)) ∧ (¬ sort = 0 → 0 ≤ J 131 0 ∧ J 131 0 ≤ 10)
def RS (J0 J : mJ) (B : Nat → Nat) (N : Nat) (sort : Int) (st : St) : Prop := RM J0 J B N st.1 st.2.1 (decide (st.2.1.1 ≠ 1)) ∧ (st.2.1.1 = 0 → BK J st.2.2) ∧ CB sort J
theorem CB_of {sort : Int} {J J1 : mJ} (h : CB sort J) (e : ∀ j, (sort = 0 → j = 2 ∨ j = 3 ∨ j = 4) → (¬ sort = 0 → j = 0) → J1 131 j = J 131 j) : CB sort J1 := by
  refine ⟨fun s => ?_, fun s => ?_⟩
  · rw [e 2 (fun _ => by omega) (fun h => absurd s h), e 3 (fun _ => by omega) (fun h => absurd s h), e 4 (fun _ => by omega) (fun h => absurd s h)]; exact h.1 s
  · rw [e 0 (fun h => absurd h s) (fun _ => rfl)]; exact h.2 s
def lnH (B : Nat → Nat) (N l : Nat) (s : Sl) : Tk × Ft := if s.1 = true then ((lnG B N l s).1, (lnG B N l s).2.1) else (s.2.1, s.2.2.1)
theorem n_lineEnd {J0 J : mJ} {B : Nat → Nat} {N l k0 : Nat} {sort : Int} {s : Sl} {D : Dt} (hl : l < 8) (hV : SlV B N l k0 (slN l) s) (h : RM J0 J B N (lnH B N l s).1 (lnH B N l s).2 s.1) (hB : s.1 = true → (lnG B N l s).2.1.1 = 0 → BK J (tlF l D (lnG B N l s).2.2.1 (lnG B N l s).2.2.2)) (hC : CB sort J) {post' : mJ → Prop} (hq : ∀ J1, RS J0 J1 B N sort (lnB B N l D s) → post' J1) : v_X12_endsLine J 128 post' := by
  have k22 : ∀ post2 : mJ → Prop, (∀ J1, RM J0 J1 B N (lnH B N l s).1 (if s.1 = true then (1, (pl (lnH B N l s).1 : Int)) else (lnH B N l s).2) false → Sm J J1 → post2 J1) → v_X12_endsLine_22 128 post2 J := fun post2 h2 => by
    unfold v_X12_endsLine_22
    exact n_ends h h2
  unfold lnB at hq
  unfold v_X12_endsLine
  by_cases al : s.1 = true
  · rw [if_pos al] at hq
    have eH : lnH B N l s = ((lnG B N l s).1, (lnG B N l s).2.1) := by unfold lnH; rw [if_pos al]
    have lg := lnG_V hl hV al
    have w1 : TkV B N (lnG B N l s).1 ∧ FtV (lnG B N l s).1 (lnG B N l s).2.1 := by
      rcases lg with g | ⟨_, g⟩
      · exact ⟨g.1, g.2.2.1⟩
      · rw [g]; exact ⟨hV.1, (hV.2.2.1 al).1⟩
    rw [eH] at h k22
    rw [al] at h k22
    have hB := hB al
    generalize lnG B N l s = w at *
    change RM J0 J B N w.1 w.2.1 true at h
    obtain ⟨tk, w0⟩ := h.1 rfl
    have rk := (rtk_n w1.1.2.1).2.1
    have ne1 : w.2.1.1 ≠ 1 := by
      rcases w1.2 with z | z
      · rw [z]; decide
      · exact z.1
    rw [w0, tk.2.2.1]
    unfold lnE at hq
    refine ⟨fun c1 => absurd rfl c1, fun _ => ⟨fun c1 => k22 _ (fun J1 h1 s1 => ?_), fun c1 => ?_⟩⟩
    · rw [if_neg (fun h => c1 (by rw [rk.mpr h]; rfl))] at hq
      rw [if_pos rfl] at h1
      refine hq J1 ⟨?_, fun hz => absurd hz (by show ¬ ((1 : Int) = 0); decide), CB_of hC (fun j _ _ => by rw [s1.1])⟩
      show RM J0 J1 B N w.1 (1, (pl w.1 : Int)) (decide ((1 : Int) ≠ 1))
      rw [decide_eq_false (by decide)]; exact h1
    · rw [if_pos (rk.mp (by omega))] at hq
      refine n_adv h w1.1.1.2 (fun J1 h1 s1 => hq J1 ⟨?_, fun hz => ?_, CB_of hC (fun j _ _ => by rw [s1.1])⟩)
      · show RM J0 J1 B N (tkF B N (en w.1)) w.2.1 (decide (w.2.1.1 ≠ 1))
        rw [decide_eq_true ne1]; exact h1
      · change w.2.1.1 = 0 at hz
        show BK J1 (if w.2.1.1 = 0 then _ else _)
        rw [if_pos hz]
        obtain ⟨b1, b2, b3⟩ := hB hz
        exact ⟨by rw [s1.1]; exact b1, by rw [s1.2.2]; exact b2, by rw [s1.2.1]; exact b3⟩
  · have af : s.1 = false := Bool.eq_false_iff.mpr al
    rw [if_neg al] at hq
    have eH : lnH B N l s = (s.2.1, s.2.2.1) := by unfold lnH; rw [if_neg al]
    have ef := hV.2.2.2 af
    rw [eH, af] at h k22
    rw [h.2.1 rfl]
    refine ⟨fun _ => k22 _ (fun J1 h1 s1 => ?_), fun c1 => absurd c1 (by decide)⟩
    rw [if_neg (by decide)] at h1
    refine hq J1 ⟨?_, fun hz => ?_, CB_of hC (fun j _ _ => by rw [s1.1])⟩
    · show RM J0 J1 B N s.2.1 s.2.2.1 (decide (s.2.2.1.1 ≠ 1))
      change RM J0 J1 B N s.2.1 s.2.2.1 false at h1
      rw [ef] at h1 ⊢
      rw [decide_eq_false (fun h => h rfl)]; exact h1
    · change s.2.2.1.1 = 0 at hz
      rw [ef] at hz; exact absurd hz (by show ¬ ((1 : Int) = 0); decide)
