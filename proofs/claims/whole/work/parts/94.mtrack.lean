/-! track: the reference -/
theorem n_isGone {J : mJ} {b c p i len : Nat} {g r : Nat → Int} {w : Nat → Nat} (h : MH J b g (J 128)) (hS : MS J c r) (hp3 : (p : Int) < g 3) (hw : ∀ i, i < len → J 148 i = (w i : Int)) (hI : IsOr r (hsB g r p) (r 0).toNat len w) (hi : i + 1 < len) {s t : Nat} (hs : s < 24) (ht : t < 24) {post' : Bool → Prop} (hq : post' (nrB (rcW g r p w) i s t)) : v_X12_isGone J 128 (p : Int) (i : Int) (s : Int) (t : Int) post' := by
  have hv := h.2.2.2.1
  have rv := hS.2.2.2
  have h3 := hv.2.2.2.1
  have r0 := rv.1
  have hl := or_len hI
  obtain ⟨q1, q2, q3⟩ := rcW_rng hv rv hp3 hI hi
  have a := (hI.1 i (by omega)).1
  have b' := (hI.1 (i + 1) hi).1
  have go : ∀ s0 : Int, (s0 ≤ rcW g r p w i ↔ nrB (rcW g r p w) i s t = true) → v_X12_isGone_17 J 128 (p : Int) (i : Int) (s : Int) (t : Int) post' s0 := by
    intro s0 e
    unfold v_X12_isGone_17
    refine n_told h p 2 (43 + 14 * p) rfl rfl ⟨by omega, by omega⟩ (by omega) ⟨⟨by omega, by omega⟩, ⟨by omega, by omega⟩, ?_⟩
    rw [show ((i : Int) + 1).toNat = i + 1 by omega, show J (128 + 20) (i + 1) = _ from hw (i + 1) hi]
    refine n_soundOf hS (w (i + 1)) 1 (2 + 4 * w (i + 1)) rfl rfl ⟨by omega, by omega⟩ (by omega) ⟨⟨by omega, by omega⟩, ?_⟩
    rw [Int.toNat_natCast, show J (128 + 20) i = _ from hw i (by omega)]
    refine n_soundOf hS (w i) 1 (2 + 4 * w i) rfl rfl ⟨by omega, by omega⟩ (by omega) ⟨⟨by omega, by omega⟩, ⟨?_, ?_⟩, fun c => ?_, fun c => ?_⟩
    · exact Int.le_trans (by decide) q1.1
    · exact Int.le_trans q1.2 (by decide)
    · change rcW g r p w i < s0 at c
      rw [show nrB (rcW g r p w) i s t = false from Bool.eq_false_iff.mpr (fun c2 => absurd (e.mpr c2) (by omega))] at hq; exact hq
    · change ¬ rcW g r p w i < s0 at c
      rw [e.mp (by omega)] at hq; exact hq
  unfold v_X12_isGone
  refine ⟨fun c => ⟨⟨by omega, by omega⟩, go _ ?_⟩, fun c => ⟨⟨by omega, by omega⟩, go _ ?_⟩⟩
  · unfold nrB; rw [decide_eq_true_eq]; omega
  · unfold nrB; rw [decide_eq_true_eq]; omega
theorem fw_z {S : Nat} {st : Nat → Nat} {rc : Nat → Int} {s : Nat} : ∀ {i : Nat}, ¬ (st i).testBit s = true → fwN S st rc i s = 0
  | 0, h => by rw [fwN, if_neg h]
  | i + 1, h => by rw [fwN, if_neg h]
theorem bk_z {S : Nat} {st : Nat → Nat} {rc : Nat → Int} {s i : Nat} : ∀ {d : Nat}, ¬ (st i).testBit s = true → bkD S st rc d i s = 0
  | 0, h => by rw [bkD, if_neg h]
  | d + 1, h => by rw [bkD, if_neg h]
theorem n_fw85 {J : mJ} {L : mL} {b c p i s S len : Nat} {g r : Nat → Int} {w : Nat → Nat} (h : MH J b g (J 128)) (hS : MS J c r) (hp3 : (p : Int) < g 3) (hSg : g 0 = (S : Int)) (hw : ∀ i, i < len → J 148 i = (w i : Int)) (hI : IsOr r (hsB g r p) (r 0).toNat len w) (hi : i < len) (hs : s < S) (hbit : (stW g r p w i).testBit s = true) (hL : ∀ i', i' < i → ∀ t, t < S → L 149 (24 * i' + t) = nL (fwN S (stW g r p w) (rcW g r p w) i' t)) {post' : mJ → mL → Prop} {k30' : mJ → mL → Int → Int → Int → Prop} {can : Int} {v : Int64} (ev : v = if i = 0 then 1 else 0) (hq : k30' J (up2 L 149 (24 * i + s) (nL (fwN S (stW g r p w) (rcW g r p w) i s))) (i : Int) can ((s + 1 : Nat) : Int)) : v_X12_tracks_85 128 (p : Int) post' k30' J (up2 L 149 (24 * i + s) 0) (i : Int) can (s : Int) (24 * (i : Int) + (s : Int)) v := by
  have hv := h.2.2.2.1
  have h0 := hv.1
  have r0 := hS.2.2.2.1
  have hl := or_len hI
  unfold v_X12_tracks_85
  rw [show (24 * (i : Int) + (s : Int)).toNat = 24 * i + s by omega]
  refine ⟨⟨by omega, by omega⟩, ?_⟩
  rintro L1 rfl
  rw [show (128 + 21 : Nat) = 149 from rfl, up2_up2, ev]
  unfold v_X12_tracks_89
  intro ZZ hZ
  by_cases hi0 : i = 0
  · have e : fwN S (stW g r p w) (rcW g r p w) i s = 1 := by subst hi0; rw [fwN, if_pos hbit]
    rw [e] at hq
    rw [if_pos hi0]
    refine hZ _ _ _ _ _ _ (n_of h (j := 0) rfl (by decide) ⟨fun c => by omega, fun _ => ⟨fun _ => ⟨⟨by omega, by omega⟩, ?_⟩, fun c => by omega⟩⟩)
    rintro _ rfl
    exact hq
  · obtain ⟨j, rfl⟩ : ∃ j, i = j + 1 := ⟨i - 1, by omega⟩
    generalize hF : (fun t => if nrB (rcW g r p w) j t s = true then fwN S (stW g r p w) (rcW g r p w) j t else 0) = F
    have ef : fwN S (stW g r p w) (rcW g r p w) (j + 1) s = sumF F S := by rw [fwN, if_pos hbit, hF]
    rw [ef] at hq
    rw [if_neg hi0]
    refine lpN (S := fun t => ZZ J (up2 L 149 (24 * (j + 1) + s) (nL (sumF F t))) ((j + 1 : Nat) : Int) can (s : Int) (t : Int)) (N := S) (fun t ht ih => hZ _ _ _ _ _ _ (n_of h (j := 0) rfl (by decide) ?_)) (hZ _ _ _ _ _ _ (n_of h (j := 0) rfl (by decide) ⟨fun _ => ⟨⟨by omega, by omega⟩, ?_⟩, fun c => by omega⟩))
    · rw [show ((j + 1 : Nat) : Int) - 1 = (j : Int) by omega, show (24 * ((j + 1 : Nat) : Int) + (s : Int)).toNat = 24 * (j + 1) + s by omega, show (24 * (j : Int) + (t : Int)).toNat = 24 * j + t by omega]
      refine ⟨fun c => by omega, fun _ => ⟨fun c => by omega, fun _ => ⟨⟨by omega, by omega⟩, n_isGone h hS hp3 hw hI (by omega) (by omega) (by omega) ⟨fun c => ⟨⟨by omega, by omega⟩, ?_⟩, fun c => ⟨⟨by omega, by omega⟩, ⟨by omega, by omega⟩, ⟨by omega, by omega⟩, ⟨by omega, by omega⟩, ⟨by omega, by omega⟩, ⟨by omega, by omega⟩, ⟨by omega, by omega⟩, ⟨by omega, by omega⟩, ?_⟩⟩⟩⟩⟩
      · rintro _ rfl
        rw [sumF, show F t = 0 by rw [← hF]; exact if_neg (by rw [c]; decide)] at ih; exact ih
      · rintro L2 rfl
        refine ⟨⟨by omega, by omega⟩, ?_⟩
        rintro _ rfl
        rw [show (128 + 21 : Nat) = 149 from rfl, up2_up2, up2_at, up2_off _ _ (Or.inr (by omega)), hL j (by omega) t ht, nL_add]
        rw [sumF, show F t = fwN S (stW g r p w) (rcW g r p w) j t by rw [← hF]; exact if_pos c] at ih; exact ih
    · rintro _ rfl
      exact hq
theorem n_bk252 {J : mJ} {L : mL} {b c p i s S len : Nat} {g r : Nat → Int} {w : Nat → Nat} (h : MH J b g (J 128)) (hS : MS J c r) (hp3 : (p : Int) < g 3) (hSg : g 0 = (S : Int)) (h45 : J 128 45 = (len : Int)) (hw : ∀ i, i < len → J 148 i = (w i : Int)) (hI : IsOr r (hsB g r p) (r 0).toNat len w) (hi : i < len) (hs : s < S) (hbit : (stW g r p w i).testBit s = true) (hL : ∀ i', i < i' → i' < len → ∀ t, t < S → L 150 (24 * i' + t) = nL (bkD S (stW g r p w) (rcW g r p w) (len - 1 - i') i' t)) {post' : mJ → mL → Prop} {k191' : mJ → mL → Int → Int → Int → Prop} {can : Int} {v : Int64} (ev : v = if i = len - 1 then 1 else 0) (hq : k191' J (up2 L 150 (24 * i + s) (nL (bkD S (stW g r p w) (rcW g r p w) (len - 1 - i) i s))) (i : Int) can ((s + 1 : Nat) : Int)) : v_X12_tracks_252 128 (p : Int) post' k191' J (up2 L 150 (24 * i + s) 0) (i : Int) can (s : Int) (24 * (i : Int) + (s : Int)) v := by
  have hv := h.2.2.2.1
  have h0 := hv.1
  have r0 := hS.2.2.2.1
  have hl := or_len hI
  unfold v_X12_tracks_252
  rw [show (24 * (i : Int) + (s : Int)).toNat = 24 * i + s by omega]
  refine ⟨⟨by omega, by omega⟩, ?_⟩
  rintro L1 rfl
  rw [show (128 + 22 : Nat) = 150 from rfl, up2_up2, ev]
  unfold v_X12_tracks_256
  intro ZZ hZ
  by_cases hi0 : i = len - 1
  · have e : bkD S (stW g r p w) (rcW g r p w) (len - 1 - i) i s = 1 := by rw [show len - 1 - i = 0 by omega, bkD, if_pos hbit]
    rw [e] at hq
    rw [if_pos hi0]
    refine hZ _ _ _ _ _ _ (n_of h (j := 0) rfl (by decide) ?_)
    rw [h45]
    refine ⟨fun c => by omega, fun _ => ⟨⟨by omega, by omega⟩, fun _ => ⟨⟨by omega, by omega⟩, ?_⟩, fun c => by omega⟩⟩
    rintro _ rfl
    exact hq
  · generalize hF : (fun t => if nrB (rcW g r p w) i s t = true then bkD S (stW g r p w) (rcW g r p w) (len - 1 - (i + 1)) (i + 1) t else 0) = F
    have ef : bkD S (stW g r p w) (rcW g r p w) (len - 1 - i) i s = sumF F S := by rw [show len - 1 - i = (len - 1 - (i + 1)) + 1 by omega, bkD, if_pos hbit, hF]
    rw [ef] at hq
    rw [if_neg hi0]
    refine lpN (S := fun t => ZZ J (up2 L 150 (24 * i + s) (nL (sumF F t))) (i : Int) can (s : Int) (t : Int)) (N := S) (fun t ht ih => hZ _ _ _ _ _ _ (n_of h (j := 0) rfl (by decide) ?_)) (hZ _ _ _ _ _ _ (n_of h (j := 0) rfl (by decide) ⟨fun _ => ⟨⟨by omega, by omega⟩, ?_⟩, fun c => by omega⟩))
    · rw [h45, show (24 * (i : Int) + (s : Int)).toNat = 24 * i + s by omega, show (24 * ((i : Int) + 1) + (t : Int)).toNat = 24 * (i + 1) + t by omega]
      refine ⟨fun c => by omega, fun _ => ⟨⟨by omega, by omega⟩, fun c => by omega, fun _ => n_isGone h hS hp3 hw hI (by omega) (by omega) (by omega) ⟨fun c => ⟨⟨by omega, by omega⟩, ?_⟩, fun c => ⟨⟨by omega, by omega⟩, ⟨by omega, by omega⟩, ⟨by omega, by omega⟩, ⟨by omega, by omega⟩, ⟨by omega, by omega⟩, ⟨by omega, by omega⟩, ⟨by omega, by omega⟩, ⟨by omega, by omega⟩, ?_⟩⟩⟩⟩
      · rintro _ rfl
        rw [sumF, show F t = 0 by rw [← hF]; exact if_neg (by rw [c]; decide)] at ih; exact ih
      · rintro L2 rfl
        refine ⟨⟨by omega, by omega⟩, ?_⟩
        rintro _ rfl
        rw [show (128 + 22 : Nat) = 150 from rfl, up2_up2, up2_at, up2_off _ _ (Or.inr (by omega)), hL (i + 1) (by omega) (by omega) t ht, nL_add]
        rw [sumF, show F t = bkD S (stW g r p w) (rcW g r p w) (len - 1 - (i + 1)) (i + 1) t by rw [← hF]; exact if_pos c] at ih; exact ih
    · rintro _ rfl
      exact hq
/-- what the reference's tracks leave -/
def TkL (L : mL) (S len : Nat) (st : Nat → Nat) (rc : Nat → Int) : Prop := (∀ i, i < len → ∀ t, t < S → L 149 (24 * i + t) = nL (fwN S st rc i t)) ∧ (∀ i, i < len → ∀ t, t < S → L 150 (24 * i + t) = nL (bkD S st rc (len - 1 - i) i t))
theorem n_tracks {J : mJ} {L : mL} {b c p S : Nat} {g r : Nat → Int} (h : MH J b g (J 128)) (hp : UP (J 128)) (hS : MS J c r) (hp3 : (p : Int) < g 3) (hSg : g 0 = (S : Int)) {post' : mJ → mL → Prop} (hq : ∀ J1 L1 len w, MoS J J1 b c g r p len w → IsOr r (hsB g r p) (r 0).toNat len w → TkL L1 S len (stW g r p w) (rcW g r p w) → post' J1 L1) : v_X12_tracks J L 128 (p : Int) post' := by
  have hv := h.2.2.2.1
  have h0 := hv.1
  have r0 := hS.2.2.2.1
  unfold v_X12_tracks
  refine n_sorts h hp hS hp3 (fun J1 len w hM hI => ?_)
  have hq := fun L1 => hq J1 L1 len w hM hI
  obtain ⟨m1, m2, m3, h45, hw, fr⟩ := hM
  have hl := or_len hI
  have lt24 := fun i => stepsF_lt (r := r) hv (w i) p
  have eb : ∀ i s, bt ((stepsF g r (w i) p : Nat) : Int) s = (stW g r p w i).testBit s := fun i s => by unfold bt stW; rw [Int.toNat_natCast]
  unfold v_X12_tracks_7
  intro ZZ hZ
  refine lpN (S := fun i => ∀ L1 : mL, (∀ i', i' < i → ∀ t, t < S → L1 149 (24 * i' + t) = nL (fwN S (stW g r p w) (rcW g r p w) i' t)) → ZZ J1 L1 (i : Int)) (N := len) (fun i hi ih L1 hL => hZ _ _ _ ?_) (fun L1 hL => hZ _ _ _ ?_) L (fun i' h => absurd h (Nat.not_lt_zero _))
  · rw [h45, Int.toNat_natCast, show J1 (128 + 20) i = _ from hw i hi]
    have hwi := (hI.1 i hi).1
    have li := lt24 i
    refine ⟨fun c => by omega, fun _ => ⟨⟨by omega, by omega⟩, n_madeOn m1 m2 m3 (by omega) hp3 ?_⟩⟩
    unfold v_X12_tracks_30
    intro Z2 hZ2
    refine lpN (S := fun s => ∀ L2 : mL, (∀ i', i' < i → ∀ t, t < S → L2 149 (24 * i' + t) = nL (fwN S (stW g r p w) (rcW g r p w) i' t)) → (∀ t, t < s → L2 149 (24 * i + t) = nL (fwN S (stW g r p w) (rcW g r p w) i t)) → Z2 J1 L2 (i : Int) ((stepsF g r (w i) p : Nat) : Int) (s : Int)) (N := S) (fun s hs ih2 L2 hA hB => hZ2 _ _ _ _ _ (n_of m1 (j := 0) rfl (by decide) ?_)) (fun L2 hA hB => hZ2 _ _ _ _ _ (n_of m1 (j := 0) rfl (by decide) ⟨fun _ => ⟨⟨by omega, by omega⟩, ?_⟩, fun c => by omega⟩)) L1 hL (fun t ht => absurd ht (Nat.not_lt_zero _))
    · rw [show (24 * (i : Int) + (s : Int)).toNat = 24 * i + s by omega, show (128 + 21 : Nat) = 149 from rfl, bit1 (by omega) (by omega), eb i s]
      refine ⟨fun c => by omega, fun _ => ⟨⟨by omega, by omega⟩, ⟨by omega, by omega⟩, ⟨by omega, by omega⟩, ?_⟩⟩
      rintro L3 rfl
      have nx : Z2 J1 (up2 L2 149 (24 * i + s) (nL (fwN S (stW g r p w) (rcW g r p w) i s))) (i : Int) ((stepsF g r (w i) p : Nat) : Int) ((s + 1 : Nat) : Int) := ih2 _ (fun i' hi' t ht => by rw [up2_off _ _ (Or.inr (by omega))]; exact hA i' hi' t ht) (fun t ht => by
        by_cases e : t = s
        · subst e; exact up2_at _ _ _ _
        · rw [up2_off _ _ (Or.inr (by omega))]; exact hB t (by omega))
      have hb : ¬ (if (stW g r p w i).testBit s = true then (1 : Int) else 0) = 0 → (stW g r p w i).testBit s = true := fun c => by
        by_cases e : (stW g r p w i).testBit s = true
        · exact e
        · rw [if_neg e] at c; exact absurd rfl c
      refine ⟨fun c => ⟨⟨by omega, by omega⟩, ⟨by omega, by omega⟩, fun c0 => n_fw85 m1 m3 hp3 hSg hw hI hi hs (hb c) hA ?_ nx, fun c0 => n_fw85 m1 m3 hp3 hSg hw hI hi hs (hb c) hA ?_ nx⟩, fun c => ⟨⟨by omega, by omega⟩, ?_⟩⟩
      · rw [if_neg (by omega)]
      · rw [if_pos (by omega)]
      · rintro _ rfl
        rw [fw_z (fun e => by rw [if_pos e] at c; exact absurd c (by decide))] at nx
        exact nx
    · rintro _ rfl
      refine ih L2 (fun i' hi' t ht => ?_)
      by_cases e : i' = i
      · subst e; exact hB t ht
      · exact hA i' (by omega) t ht
  · rw [h45]
    refine ⟨fun _ => ⟨⟨by omega, by omega⟩, ?_⟩, fun c => absurd (Int.le_refl _) c⟩
    rintro _ rfl
    unfold v_X12_tracks_172
    intro Z3 hZ3
    have k0 := lpN (S := fun k => ∀ L2 : mL, (∀ i', i' < len → ∀ t, t < S → L2 149 (24 * i' + t) = nL (fwN S (stW g r p w) (rcW g r p w) i' t)) → (∀ i', len < i' + 1 + k → i' < len → ∀ t, t < S → L2 150 (24 * i' + t) = nL (bkD S (stW g r p w) (rcW g r p w) (len - 1 - i') i' t)) → ∀ v : Int, v = (len : Int) - 1 - (k : Int) → Z3 J1 L2 v) (N := len) (fun k hk ih L2 hA hB v ev => hZ3 _ _ _ ?_) (fun L2 hA hB v ev => hZ3 _ _ _ ⟨fun _ => hq L2 ⟨hA, fun i' hi' t ht => hB i' (by omega) hi' t ht⟩, fun c => by omega⟩)
    · exact k0 L1 hL (fun i' h1 h2 => by omega) _ (by omega)
    · obtain ⟨i, rfl⟩ : ∃ i : Nat, v = (i : Int) := ⟨v.toNat, by omega⟩
      have hi : i < len := by omega
      rw [Int.toNat_natCast, show J1 (128 + 20) i = _ from hw i hi]
      have hwi := (hI.1 i hi).1
      have li := lt24 i
      refine ⟨fun c => by omega, fun _ => ⟨⟨by omega, by omega⟩, n_madeOn m1 m2 m3 (by omega) hp3 ?_⟩⟩
      unfold v_X12_tracks_191
      intro Z2 hZ2
      refine lpN (S := fun s => ∀ L3 : mL, (∀ i', i' < len → ∀ t, t < S → L3 149 (24 * i' + t) = nL (fwN S (stW g r p w) (rcW g r p w) i' t)) → (∀ i', i < i' → i' < len → ∀ t, t < S → L3 150 (24 * i' + t) = nL (bkD S (stW g r p w) (rcW g r p w) (len - 1 - i') i' t)) → (∀ t, t < s → L3 150 (24 * i + t) = nL (bkD S (stW g r p w) (rcW g r p w) (len - 1 - i) i t)) → Z2 J1 L3 (i : Int) ((stepsF g r (w i) p : Nat) : Int) (s : Int)) (N := S) (fun s hs ih2 L3 hA hB hC => hZ2 _ _ _ _ _ (n_of m1 (j := 0) rfl (by decide) ?_)) (fun L3 hA hB hC => hZ2 _ _ _ _ _ (n_of m1 (j := 0) rfl (by decide) ⟨fun _ => ⟨⟨by omega, by omega⟩, ?_⟩, fun c => by omega⟩)) L2 hA (fun i' h1 h2 => hB i' (by omega) h2) (fun t ht => absurd ht (Nat.not_lt_zero _))
      · rw [h45, show (24 * (i : Int) + (s : Int)).toNat = 24 * i + s by omega, show (128 + 22 : Nat) = 150 from rfl, bit1 (by omega) (by omega), eb i s]
        refine ⟨fun c => by omega, fun _ => ⟨⟨by omega, by omega⟩, ⟨by omega, by omega⟩, ⟨by omega, by omega⟩, ?_⟩⟩
        rintro L4 rfl
        have nx : Z2 J1 (up2 L3 150 (24 * i + s) (nL (bkD S (stW g r p w) (rcW g r p w) (len - 1 - i) i s))) (i : Int) ((stepsF g r (w i) p : Nat) : Int) ((s + 1 : Nat) : Int) := ih2 _ (fun i' hi' t ht => by rw [up2_off _ _ (Or.inl (by decide))]; exact hA i' hi' t ht) (fun i' h1 h2 t ht => by rw [up2_off _ _ (Or.inr (by omega))]; exact hB i' h1 h2 t ht) (fun t ht => by
          by_cases e : t = s
          · subst e; exact up2_at _ _ _ _
          · rw [up2_off _ _ (Or.inr (by omega))]; exact hC t (by omega))
        have hb : ¬ (if (stW g r p w i).testBit s = true then (1 : Int) else 0) = 0 → (stW g r p w i).testBit s = true := fun c => by
          by_cases e : (stW g r p w i).testBit s = true
          · exact e
          · rw [if_neg e] at c; exact absurd rfl c
        refine ⟨fun c => ⟨⟨by omega, by omega⟩, ⟨by omega, by omega⟩, ⟨by omega, by omega⟩, fun c0 => n_bk252 m1 m3 hp3 hSg h45 hw hI hi hs (hb c) hB ?_ nx, fun c0 => n_bk252 m1 m3 hp3 hSg h45 hw hI hi hs (hb c) hB ?_ nx⟩, fun c => ⟨⟨by omega, by omega⟩, ?_⟩⟩
        · rw [if_neg (by omega)]
        · rw [if_pos (by omega)]
        · rintro _ rfl
          rw [bk_z (fun e => by rw [if_pos e] at c; exact absurd c (by decide))] at nx
          exact nx
      · rintro _ rfl
        refine ih L3 hA (fun i' h1 h2 t ht => ?_) _ (by omega)
        by_cases e : i' = i
        · subst e; exact hC t ht
        · exact hB i' (by omega) h2 t ht
theorem fwN_cong {S : Nat} {st st' : Nat → Nat} {rc rc' : Nat → Int} : ∀ n, (∀ i, i ≤ n → st i = st' i) → (∀ i, i < n → rc i = rc' i) → fwN S st rc n = fwN S st' rc' n
  | 0, h, _ => by funext s; rw [fwN, fwN, h 0 (Nat.le_refl _)]
  | n + 1, h, h2 => by
    have ih := fwN_cong (S := S) n (fun i hi => h i (by omega)) (fun i hi => h2 i (by omega))
    funext s
    rw [fwN, fwN, h (n + 1) (Nat.le_refl _)]
    have : ∀ t, nrB rc n t s = nrB rc' n t s := fun t => by unfold nrB; rw [h2 n (by omega)]
    simp only [this, ih]
theorem bkD_cong {S : Nat} {st st' : Nat → Nat} {rc rc' : Nat → Int} : ∀ d i, (∀ j, j ≤ i + d → st j = st' j) → (∀ j, j < i + d → rc j = rc' j) → bkD S st rc d i = bkD S st' rc' d i
  | 0, i, h, _ => by funext s; rw [bkD, bkD, h i (by omega)]
  | d + 1, i, h, h2 => by
    have ih := bkD_cong (S := S) d (i + 1) (fun j hj => h j (by omega)) (fun j hj => h2 j (by omega))
    funext s
    rw [bkD, bkD, h i (by omega)]
    have : ∀ t, nrB rc i s t = nrB rc' i s t := fun t => by unfold nrB; rw [h2 i (by omega)]
    simp only [this, ih]
theorem stW_eq {g r : Nat → Int} {p i : Nat} {w w' : Nat → Nat} (h : w i = w' i) : stW g r p w i = stW g r p w' i := by unfold stW; rw [h]
theorem rcW_eq {g r : Nat → Int} {p i : Nat} {w w' : Nat → Nat} (h : w i = w' i) (h2 : w (i + 1) = w' (i + 1)) : rcW g r p w i = rcW g r p w' i := by unfold rcW; rw [h, h2]
theorem m_track {J : mJ} {L : mL} {a1 a2 a3 : Int} {x : Int64} {t : Nat} (hI : TI J t (J 129)) (hU : UV (J 128)) (hA : isTr (J 129) a1 a2 a3 x) {post' : Int64 → mJ → mL → Prop} (hq : ∀ J1 L1, MF J J1 → post' x J1 L1) : v_X12_track J L 128 a1 a2 a3 post' := by
  have bad : ¬ ((0 ≤ a1 ∧ a1 < J 129 0) ∧ (0 ≤ a2 ∧ a2 < J 129 1) ∧ 0 ≤ a3 ∧ a3 < gH (J 129) a1.toNat 3) → x = -1 := fun c => by unfold isTr at hA; rw [if_neg c] at hA; exact hA
  unfold v_X12_track
  refine n_areRead hI hU (fun c J1 hF => ⟨fun _ => ?_, fun c2 => Bool.noConfusion c2⟩) (fun k l J1 ek el hk hl hM hp hS f1 => ⟨fun c2 => Bool.noConfusion c2, fun _ => ?_⟩)
  · have := hq J1 L hF
    rw [bad (fun c2 => c ⟨c2.1, c2.2.1⟩)] at this; exact this
  · subst ek; subst el
    rw [Int.toNat_natCast] at bad
    have hv := hM.2.2.2.1
    have h0 := hv.1
    refine n_isPerson hM (fun c => ⟨fun c2 => Bool.noConfusion c2, fun _ => ?_⟩) (fun p ep hp3 hp6 => ⟨fun _ => ?_, fun c2 => Bool.noConfusion c2⟩)
    · have := hq J1 L (MF_one f1 (UV_of hM))
      rw [bad (fun c2 => c c2.2.2)] at this; exact this
    · subst ep
      unfold isTr at hA
      rw [Int.toNat_natCast, Int.toNat_natCast, Int.toNat_natCast, if_pos ⟨⟨by omega, hk⟩, ⟨by omega, hl⟩, by omega, hp3⟩] at hA
      obtain ⟨len', w', hI', rfl⟩ := hA
      refine n_tracks (S := (gH (J 129) k 0).toNat) hM hp hS hp3 (by omega) (fun J2 L2 len w hMo hOr hT => ?_)
      have hMF : MF J J2 := ⟨fun c hc => by rw [hMo.2.2.2.2.2 c (by omega) (by omega), f1 c (by omega)], UV_of hMo.1⟩
      have hq := hq J2 L2 hMF
      obtain ⟨el, ew⟩ := or_uniq hOr hI'
      subst el
      rw [hMo.2.2.2.1]
      refine ⟨fun c => ?_, fun c => ?_⟩
      · rintro _ rfl
        rw [if_neg (by omega)] at hq
        rw [← fwN_cong (len - 1) (fun i hi => stW_eq (ew i (by omega))) (fun i hi => rcW_eq (ew i (by omega)) (ew (i + 1) (by omega))), fw_bk] at hq
        unfold v_X12_track_41
        intro ZZ hZ
        refine lpN (S := fun s => ZZ J2 L2 (nL (sumF (bkD (gH (J 129) k 0).toNat (stW (gH (J 129) k) (rH (J 129) l) p w) (rcW (gH (J 129) k) (rH (J 129) l) p w) (len - 1) 0) s)) (s : Int)) (N := (gH (J 129) k 0).toNat) (fun s hs ih => hZ _ _ _ _ (n_of hMo.1 (j := 0) rfl (by decide) ?_)) (hZ _ _ _ _ (n_of hMo.1 (j := 0) rfl (by decide) ⟨fun _ => hq, fun c => by omega⟩))
        have := hT.2 0 (by omega) s hs
        rw [Nat.mul_zero, Nat.zero_add, Nat.sub_zero] at this
        refine ⟨fun c => by omega, fun _ => ⟨⟨by omega, by omega⟩, ?_⟩⟩
        rw [Int.toNat_natCast, show L2 (128 + 22) s = _ from this, nL_add]
        rintro _ rfl
        refine ⟨⟨by omega, by omega⟩, ?_⟩
        rintro _ rfl
        exact ih
      · rw [if_pos (by omega)] at hq; exact hq
