/-! feed, end, fault, count, house, sound -/
theorem and255 (y : Int32) : (y &&& 255).toInt = y.toInt % 256 := by
  have hn := y.toBitVec.isLt
  have h1 : (y &&& 255).toBitVec.toNat = y.toBitVec.toNat % 256 := by
    rw [Int32.toBitVec_and, BitVec.toNat_and]
    exact Nat.and_two_pow_sub_one_eq_mod _ 8
  rw [← Int32.toInt_toBitVec, ← Int32.toInt_toBitVec, BitVec.toInt_eq_toNat_cond, BitVec.toInt_eq_toNat_cond, h1]
  split <;> split <;> omega
theorem andZ_255 (x : Int) : andZ x 255 = (zi x).toInt % 256 := by
  unfold andZ; exact and255 (zi x)
theorem b8Z_eq (x : Int) : b8Z x = Int.bmod (zi x).toInt 256 := by
  unfold b8Z
  rw [Int8.toInt_toInt32, Int32.toInt_toInt8]
theorem sb_b8 (x : Int) : sb (andZ x 255) = b8Z (b8Z x) := by
  have e : b8Z (b8Z x) = b8Z x := by
    rw [b8Z_eq (b8Z x), zi_toInt (by unfold b8Z; exact ir_toInt _), b8Z_eq x]
    exact Int.bmod_bmod
  rw [e, andZ_255, b8Z_eq]
  unfold sb Int.bmod
  show (if (zi x).toInt % 256 < 128 then _ else _) = (if (zi x).toInt % 256 < 128 then _ else _)
  split <;> rfl
theorem and255_rng (x : Int) : 0 ≤ andZ x 255 ∧ andZ x 255 ≤ 255 := by rw [andZ_255]; omega
theorem remZ_nat {a d : Nat} (ha : a < 2 ^ 31) (h0 : 0 < d) (hd : d < 2 ^ 31) : remZ (a : Int) (d : Int) = ((a % d : Nat) : Int) := by
  unfold remZ irem
  rw [zi_nI, zi_nI, pk_rem ha h0 hd]
  exact nI_toI (Nat.lt_of_le_of_lt (Nat.mod_le _ _) ha)
/-- the tape with i bytes more -/
def fdW (a1 a2 a3 a4 a5 : Int) (i : Nat) : Int := if i < 4 then a1 else if i < 8 then a2 else if i < 12 then a3 else if i < 16 then a4 else a5
def fdB (a1 a2 a3 a4 a5 : Int) (i : Nat) : Int := andZ (shrZ (fdW a1 a2 a3 a4 a5 i) ((24 - 8 * (i % 4) : Nat) : Int)) 255
def fdA (A : Nat → Int) (a1 a2 a3 a4 a5 : Int) (n : Nat) : Nat → Int := fun j => if 10 + (A 2).toNat ≤ j ∧ j < 10 + (A 2).toNat + n then fdB a1 a2 a3 a4 a5 (j - (10 + (A 2).toNat)) else if j = 2 then A 2 + (n : Int) else A j
theorem TI_tape {J J1 : mJ} {t : Nat} {A A1 : Nat → Int} (h : TI J t A) (hA : ∀ j, (j < 2 ∨ 3 ≤ j ∧ j < 10 ∨ 610 ≤ j) → A1 j = A j) (h2 : 0 ≤ A1 2 ∧ A1 2 ≤ 600) (hs : J1 t 1 = A1 2) (ht : ∀ i : Nat, i < 600 → (0 ≤ A1 (10 + i) ∧ A1 (10 + i) ≤ 255) ∧ J1 (t + 1) i = sb (A1 (10 + i))) (hf : ∀ i, i ≠ 1 → J1 t i = J t i) (hg : ∀ k, 2 ≤ k → k < 42 → J1 (t + k) = J (t + k)) : TI J1 t A1 := by
  obtain ⟨⟨b1, b2, b3, b4, b5⟩, a2, a3, a4, a5, a6, a7⟩ := h
  have g0 : ∀ k : Nat, gH A1 k = gH A k := fun k => gH_e (fun j _ => hA _ (by omega))
  have r0 : ∀ k : Nat, rH A1 k = rH A k := fun k => by funext j; unfold rH; exact hA _ (by omega)
  have e0 := hA 0 (by omega)
  have e1 := hA 1 (by omega)
  refine ⟨⟨?_, ?_, hs, ?_, ?_⟩, by rw [e0]; exact a2, by rw [e1]; exact a3, h2, ht, fun k hk => ?_, fun k hk => ?_⟩
  · rw [hf 4 (by decide), e0]; exact b1
  · rw [hf 5 (by decide), e1]; exact b2
  · rw [hf 2 (by decide), hA 3 (by omega)]; exact b4
  · rw [hf 3 (by decide), hA 4 (by omega)]; exact b5
  · rw [e0] at hk
    rw [g0]
    have := a6 k hk
    refine ⟨this.1, HR_frame (fun q hq => ?_) this.2⟩
    have := hg (4 + 19 * k + q) (by omega) (by omega)
    rw [show t + 4 + 19 * k + q = t + (4 + 19 * k + q) by omega]; exact this
  · rw [e1] at hk
    rw [r0]
    have := a7 k hk
    refine ⟨this.1, RdR_frame (fun q hq => ?_) this.2⟩
    have := hg (18 + 19 * k + q) (by omega) (by omega)
    rw [show t + 18 + 19 * k + q = t + (18 + 19 * k + q) by omega]; exact this
def FdP (J J1 : mJ) (sz : Nat) (w : Nat → Int) (n : Nat) : Prop := (∀ c, c ≠ 1 → c ≠ 2 → J1 c = J c) ∧ (∀ i, i ≠ 1 → J1 1 i = J 1 i) ∧ J1 1 1 = ((sz + n : Nat) : Int) ∧ ∀ i, J1 2 i = if sz ≤ i ∧ i < sz + n then sb (w (i - sz)) else J 2 i
theorem x_append {J J1 : mJ} {sz m : Nat} {a1 a2 a3 a4 a5 a : Int} (hs : sz + 20 ≤ 600) (hm : m < 5) (ha : ∀ r, r < 4 → fdW a1 a2 a3 a4 a5 (4 * m + r) = a) (h : FdP J J1 sz (fdB a1 a2 a3 a4 a5) (4 * m)) {post' : mJ → Prop} (hq : ∀ J2, FdP J J2 sz (fdB a1 a2 a3 a4 a5) (4 * m + 4) → post' J2) : v_X8_append J1 1 a post' := by
  unfold v_X8_append v_X8_append_3
  intro ZZ hZ
  refine lpN (S := fun r => ∀ J2, FdP J J2 sz (fdB a1 a2 a3 a4 a5) (4 * m + r) → ∀ v : Int, v = 24 - 8 * (r : Int) → ZZ J2 v) (N := 4) (fun r hr ih J2 h2 v ev => hZ _ _ ?_) (fun J2 h2 v ev => hZ _ _ ⟨fun _ => hq J2 h2, fun c => by omega⟩) J1 h 24 rfl
  obtain ⟨f1, f2, f3, f4⟩ := h2
  rw [f3]
  simp only [Int.toNat_natCast]
  refine ⟨fun c => by omega, fun _ => ⟨fun c => by omega, fun _ => ⟨⟨by omega, by omega⟩, ?_⟩⟩⟩
  rintro J3 rfl
  have e1 : up2 J2 (1 + 1) (sz + (4 * m + r)) (b8Z (b8Z (shrZ a v))) 1 = J2 1 := up2_n _ _ _ (by decide)
  rw [e1, f3]
  refine ⟨⟨by omega, by omega⟩, ?_⟩
  rintro J4 rfl
  refine ⟨⟨by omega, by omega⟩, ?_⟩
  rintro _ rfl
  refine ih _ ⟨fun c h1 h2 => ?_, fun i hi => ?_, ?_, fun i => ?_⟩ _ (by omega)
  · rw [up2_n _ _ _ h1, up2_n _ _ _ h2]; exact f1 c h1 h2
  · rw [up2_s, up1_n _ _ hi, e1]; exact f2 i hi
  · rw [up2_s, up1_s]; omega
  · rw [up2_n _ _ _ (by decide), show (2 : Nat) = 1 + 1 from rfl, up2_s]
    by_cases hi : i = sz + (4 * m + r)
    · rw [hi, up1_s, if_pos (by omega), ← sb_b8]
      unfold fdB
      rw [show sz + (4 * m + r) - sz = 4 * m + r by omega, ha r hr, show (4 * m + r) % 4 = r by omega, ev, show ((24 - 8 * r : Nat) : Int) = 24 - 8 * (r : Int) by omega]
    · rw [up1_n _ _ hi, show (1 + 1 : Nat) = 2 from rfl, f4 i]
      by_cases hc : sz ≤ i ∧ i < sz + (4 * m + r)
      · rw [if_pos hc, if_pos (by omega)]
      · rw [if_neg hc, if_neg (by omega)]
theorem x_feed {J : mJ} {a1 a2 a3 a4 a5 : Int} (hI : TI J 1 (J 129)) {post' : Int → mJ → Prop} (h0 : ¬ J 129 2 + 20 ≤ 600 → post' (-1) J) (hq : J 129 2 + 20 ≤ 600 → ∀ J1, TI J1 1 (fdA (J 129) a1 a2 a3 a4 a5 20) → (∀ c, c ≠ 1 → c ≠ 2 → J1 c = J c) → post' (J 129 2 + 20) J1) : v_X11_feed J a1 a2 a3 a4 a5 post' := by
  unfold v_X11_feed
  have h2 := hI.2.2.2.1
  rw [hI.1.2.2.1]
  refine ⟨⟨by omega, by omega⟩, fun c => ?_, fun c => h0 c⟩
  obtain ⟨sz, hsz⟩ : ∃ sz : Nat, J 129 2 = (sz : Int) := ⟨(J 129 2).toNat, by omega⟩
  have f0 : FdP J J sz (fdB a1 a2 a3 a4 a5) (4 * 0) := ⟨fun _ _ _ => rfl, fun _ _ => rfl, by rw [hI.1.2.2.1, hsz]; rfl, fun i => by rw [if_neg (by omega)]⟩
  have ww : ∀ m r : Nat, r < 4 → (m = 0 → fdW a1 a2 a3 a4 a5 (4 * m + r) = a1) ∧ (m = 1 → fdW a1 a2 a3 a4 a5 (4 * m + r) = a2) ∧ (m = 2 → fdW a1 a2 a3 a4 a5 (4 * m + r) = a3) ∧ (m = 3 → fdW a1 a2 a3 a4 a5 (4 * m + r) = a4) ∧ (m = 4 → fdW a1 a2 a3 a4 a5 (4 * m + r) = a5) := by
    intro m r hr
    unfold fdW
    refine ⟨fun e => ?_, fun e => ?_, fun e => ?_, fun e => ?_, fun e => ?_⟩
    · rw [if_pos (by omega)]
    · rw [if_neg (by omega), if_pos (by omega)]
    · rw [if_neg (by omega), if_neg (by omega), if_pos (by omega)]
    · rw [if_neg (by omega), if_neg (by omega), if_neg (by omega), if_pos (by omega)]
    · rw [if_neg (by omega), if_neg (by omega), if_neg (by omega), if_neg (by omega)]
  refine x_append (m := 0) (by omega) (by decide) (fun r hr => (ww 0 r hr).1 rfl) f0 (fun J2 f2 => x_append (m := 1) (by omega) (by decide) (fun r hr => (ww 1 r hr).2.1 rfl) f2 (fun J3 f3 => x_append (m := 2) (by omega) (by decide) (fun r hr => (ww 2 r hr).2.2.1 rfl) f3 (fun J4 f4 => x_append (m := 3) (by omega) (by decide) (fun r hr => (ww 3 r hr).2.2.2.1 rfl) f4 (fun J5 f5 => x_append (m := 4) (by omega) (by decide) (fun r hr => (ww 4 r hr).2.2.2.2 rfl) f5 (fun J6 f6 => ?_)))))
  obtain ⟨g1, g2, g3, g4⟩ := f6
  refine lf (hq c J6 (TI_tape hI (fun j hj => ?_) ?_ ?_ (fun i hi => ?_) g2 (fun k hk hk2 => g1 _ (by omega) (by omega))) g1) ?_
  · unfold fdA; rw [hsz, Int.toNat_natCast, if_neg (by omega), if_neg (by omega)]
  · unfold fdA; rw [hsz, Int.toNat_natCast, if_neg (by omega), if_pos rfl]; omega
  · unfold fdA; rw [hsz, Int.toNat_natCast, if_neg (by omega), if_pos rfl, g3]; omega
  · have ht := hI.2.2.2.2.1 i hi
    unfold fdA
    rw [hsz, Int.toNat_natCast, show (1 + 1 : Nat) = 2 from rfl, g4 i]
    by_cases hc : sz ≤ i ∧ i < sz + (4 * 4 + 4)
    · rw [if_pos hc, if_pos (by omega), show 10 + i - (10 + sz) = i - sz by omega]
      exact ⟨and255_rng _, rfl⟩
    · rw [if_neg hc, if_neg (by omega), if_neg (by omega)]; exact ht
  · rw [g3, hsz]; omega
theorem m_feed {J : mJ} {a1 a2 a3 a4 a5 : Int} (h2 : 0 ≤ J 129 2 ∧ J 129 2 ≤ 600) {post' : Int → mJ → Prop} (h0 : ¬ J 129 2 + 20 ≤ 600 → post' (-1) J) (hq : J 129 2 + 20 ≤ 600 → ∀ J1, J1 129 = fdA (J 129) a1 a2 a3 a4 a5 20 → (∀ c, c ≠ 129 → J1 c = J c) → post' (J 129 2 + 20) J1) : v_X12_feed J 128 a1 a2 a3 a4 a5 post' := by
  unfold v_X12_feed
  refine ⟨⟨by show _ ≤ J 129 2 + 20; omega, by show J 129 2 + 20 ≤ _; omega⟩, fun c => ?_, fun c => h0 c⟩
  have c : J 129 2 + 20 ≤ 600 := c
  have hq := hq c
  obtain ⟨sz, hsz⟩ : ∃ sz : Nat, J 129 2 = (sz : Int) := ⟨(J 129 2).toNat, by omega⟩
  unfold v_X12_feed_20
  intro ZZ hZ
  refine lpN (S := fun i => ∀ J1, J1 129 = fdA (J 129) a1 a2 a3 a4 a5 i → (∀ c, c ≠ 129 → J1 c = J c) → ZZ J1 (i : Int)) (N := 20) (fun i hi ih J1 e1 f1 => hZ _ _ ?_) (fun J1 e1 f1 => hZ _ _ ⟨fun _ => lf (hq J1 e1 f1) ?_, fun c => absurd (Int.le_refl _) c⟩) J ?_ (fun _ _ => rfl)
  · have go : ∀ w, w = fdW a1 a2 a3 a4 a5 i → v_X12_feed_73 128 a1 a2 a3 a4 a5 post' ZZ J1 (i : Int) w := by
      rintro w rfl
      unfold v_X12_feed_73
      have er := remZ_nat (a := i) (d := 4) (by omega) (by decide) (by decide)
      rw [show ((4 : Nat) : Int) = 4 from rfl] at er
      rw [er]
      have s1 : J1 (128 + 1) 2 = ((sz + i : Nat) : Int) := by
        show J1 129 2 = _
        rw [e1]; unfold fdA; rw [hsz, Int.toNat_natCast, if_neg (by omega), if_pos rfl]; omega
      rw [s1, show (10 + ((sz + i : Nat) : Int)).toNat = 10 + (sz + i) by omega]
      refine ⟨⟨by omega, by omega⟩, ⟨by omega, by omega⟩, ⟨by omega, by omega⟩, ⟨by omega, by omega⟩, ?_⟩
      rintro J2 rfl
      have s2 : up2 J1 (128 + 1) (10 + (sz + i)) (andZ (shrZ (fdW a1 a2 a3 a4 a5 i) (24 - 8 * ((i % 4 : Nat) : Int))) 255) (128 + 1) 2 = ((sz + i : Nat) : Int) := by
        rw [up2_s, up1_n _ _ (by omega)]; exact s1
      rw [s2]
      refine ⟨⟨by omega, by omega⟩, ?_⟩
      rintro J3 rfl
      refine ⟨⟨by omega, by omega⟩, ?_⟩
      rintro _ rfl
      refine ih _ ?_ (fun c hc => by rw [up2_n _ _ _ hc, up2_n _ _ _ hc]; exact f1 c hc)
      funext j
      show up2 _ (128 + 1) 2 _ (128 + 1) j = _
      rw [up2_s, up2_s]
      unfold fdA
      rw [hsz, Int.toNat_natCast]
      by_cases hj : j = 2
      · subst hj; rw [up1_s, if_neg (by omega), if_pos rfl]; omega
      · rw [up1_n _ _ hj]
        by_cases hj2 : j = 10 + (sz + i)
        · rw [hj2, up1_s, if_pos (by omega), show 10 + (sz + i) - (10 + sz) = i by omega]
          unfold fdB; rw [show ((24 - 8 * (i % 4) : Nat) : Int) = 24 - 8 * ((i % 4 : Nat) : Int) by omega]
        · rw [up1_n _ _ hj2]
          show J1 129 j = _
          rw [e1]; unfold fdA
          rw [hsz, Int.toNat_natCast]
          by_cases hc : 10 + sz ≤ j ∧ j < 10 + sz + i
          · rw [if_pos hc, if_pos (by omega)]
          · rw [if_neg hc, if_neg hj, if_neg (by omega), if_neg hj]
    unfold fdW at go
    refine ⟨fun c => by omega, fun _ => ⟨fun c4 => ⟨fun c8 => ⟨fun c12 => ⟨fun c16 => go _ ?_, fun c16 => go _ ?_⟩, fun c12 => go _ ?_⟩, fun c8 => go _ ?_⟩, fun c4 => go _ ?_⟩⟩
    · rw [if_neg (by omega), if_neg (by omega), if_neg (by omega), if_neg (by omega)]
    · rw [if_neg (by omega), if_neg (by omega), if_neg (by omega), if_pos (by omega)]
    · rw [if_neg (by omega), if_neg (by omega), if_pos (by omega)]
    · rw [if_neg (by omega), if_pos (by omega)]
    · rw [if_pos (by omega)]
  · show J1 129 2 = _
    rw [e1]; unfold fdA; rw [if_neg (by omega), if_pos rfl]; rfl
  · funext j; unfold fdA
    rw [if_neg (by omega)]
    split
    · next e => rw [e]; exact (Int.add_zero _).symm
    · rfl
/-- end -/
theorem x_end {J : mJ} {a1 : Int} (hI : TI J 1 (J 129)) {post' : Int → mJ → Prop} (h0 : ¬ (0 ≤ a1 ∧ a1 ≤ J 129 2) → post' (-1) J) (hq : 0 ≤ a1 ∧ a1 ≤ J 129 2 → ∀ J1, TI J1 1 (up1 (J 129) 2 a1) → (∀ c, c ≠ 1 → c ≠ 2 → J1 c = J c) → post' a1 J1) : v_X11_end J a1 post' := by
  unfold v_X11_end
  have h2 := hI.2.2.2.1
  rw [hI.1.2.2.1]
  refine ⟨fun c => h0 (by omega), fun c => ⟨fun c2 => ?_, fun c2 => h0 (by omega)⟩⟩
  rintro J1 rfl
  refine hq ⟨by omega, by omega⟩ _ (TI_tape hI (fun j hj => up1_n _ _ (by omega)) (by rw [up1_s]; omega) (by rw [up2_s, up1_s, up1_s]) (fun i hi => ?_) (fun i hi => by rw [up2_s, up1_n _ _ hi]) (fun k hk hk2 => up2_n _ _ _ (by omega))) (fun c h1 h2 => up2_n _ _ _ h1)
  rw [up1_n _ _ (by omega), up2_n _ _ _ (by decide)]
  exact hI.2.2.2.2.1 i hi
theorem m_end {J : mJ} {a1 : Int} {post' : Int → mJ → Prop} (h0 : ¬ (0 ≤ a1 ∧ a1 ≤ J 129 2) → post' (-1) J) (hq : 0 ≤ a1 ∧ a1 ≤ J 129 2 → ∀ J1, J1 129 = up1 (J 129) 2 a1 → (∀ c, c ≠ 129 → J1 c = J c) → post' a1 J1) : v_X12_end J 128 a1 post' := by
  unfold v_X12_end
  refine ⟨fun c => h0 (by omega), fun c => ⟨fun c2 => ?_, fun c2 => h0 (fun c3 => c2 c3.2)⟩⟩
  rintro J1 rfl
  exact hq ⟨by omega, c2⟩ _ (up2_s _ _ _ _) (fun c hc => up2_n _ _ _ hc)
/-- fault, count -/
def aFault (A : Nat → Int) (a1 : Int) : Int := if a1 = 0 then A 3 else if a1 = 1 then A 4 else -1
theorem x_fault {J : mJ} {a1 : Int} (hI : TI J 1 (J 129)) {post' : Int → Prop} (hq : post' (aFault (J 129) a1)) : v_X11_fault J a1 post' := by
  unfold aFault at hq
  refine ⟨fun c => ⟨fun c2 => ?_, fun c2 => ?_⟩, fun c => ?_⟩
  · rw [if_neg c, if_neg c2] at hq; exact hq
  · rw [if_neg c, if_pos c2] at hq; exact lf1 hq hI.1.2.2.2.2
  · rw [if_pos c] at hq; exact lf1 hq hI.1.2.2.2.1
theorem m_fault {J : mJ} {a1 : Int} {post' : Int → Prop} (hq : post' (aFault (J 129) a1)) : v_X12_fault J 128 a1 post' := by
  unfold aFault at hq
  refine ⟨fun c => ⟨fun c2 => ?_, fun c2 => ?_⟩, fun c => ?_⟩
  · rw [if_neg c, if_neg c2] at hq; exact hq
  · rw [if_neg c, if_pos c2] at hq; exact hq
  · rw [if_pos c] at hq; exact hq
def aCount (A : Nat → Int) (a1 : Int) : Int := if a1 = 0 then A 0 else if a1 = 1 then A 1 else -2
theorem x_count {J : mJ} {a1 : Int} (hI : TI J 1 (J 129)) {post' : Int → Prop} (hq : post' (aCount (J 129) a1)) : v_X11_count J a1 post' := by
  unfold aCount at hq
  refine ⟨fun c => ⟨fun c2 => ?_, fun c2 => ?_⟩, fun c => ?_⟩
  · rw [if_neg c, if_neg c2] at hq; exact hq
  · rw [if_neg c, if_pos c2] at hq; exact lf1 hq hI.1.2.1
  · rw [if_pos c] at hq; exact lf1 hq hI.1.1
theorem m_count {J : mJ} {a1 : Int} {post' : Int → Prop} (hq : post' (aCount (J 129) a1)) : v_X12_count J 128 a1 post' := by
  unfold aCount at hq
  refine n_isIn (fun c => ⟨fun _ => ?_, fun c2 => Bool.noConfusion c2⟩) (fun c => ⟨fun c2 => Bool.noConfusion c2, fun _ => ⟨⟨by omega, by omega⟩, ?_⟩⟩)
  · rw [if_neg (by omega), if_neg (by omega)] at hq; exact hq
  · by_cases c0 : a1 = 0
    · rw [if_pos c0] at hq; rw [c0]; exact hq
    · have c1 : a1 = 1 := by omega
      rw [if_neg c0, if_pos c1] at hq; rw [c1]; exact hq
/-- house -/
def bHouse (g : Nat → Int) (w : Int) : Int := if 0 ≤ w ∧ w ≤ 4 then g w.toNat else if 100 ≤ w ∧ w < 100 + g 0 then g (5 + (w - 100).toNat) else if 10 ≤ w ∧ w ≤ 29 ∧ w % 10 < g 2 then g (28 + 2 * (w.toNat % 10) + w.toNat / 10) else if 30 ≤ w ∧ w ≤ 59 ∧ w % 10 < g 4 then g (122 + 3 * (w.toNat % 10) + w.toNat / 10) else -1
def aHouse (A : Nat → Int) (a1 a2 : Int) : Int := if 0 ≤ a1 ∧ a1 < A 0 then bHouse (gH A a1.toNat) a2 else -1
theorem x_house {J : mJ} {a1 a2 : Int} (hI : TI J 1 (J 129)) (hw : ir a2) {post' : Int → Prop} (hq : post' (aHouse (J 129) a1 a2)) : v_X11_house J a1 a2 post' := by
  unfold v_X11_house
  refine x_houseAt hI (fun c => ⟨fun _ => ?_, fun q c2 => (by cases c2)⟩) (fun k ek hk hk2 hv hr => ⟨fun c2 => (by cases c2), fun q eq => ?_⟩)
  · unfold aHouse at hq; rw [if_neg c] at hq; exact hq
  · cases eq
    subst ek
    unfold aHouse at hq
    rw [if_pos ⟨by omega, hk⟩, Int.toNat_natCast] at hq
    generalize gH (J 129) k = g at hv hr hq
    obtain ⟨⟨r0, r1, r2, r3, r4⟩, rc, rf, rp, rs⟩ := hr
    have v0 := hv.1
    have v2 := hv.2.2.1
    have v4 := hv.2.2.2.2.1
    refine ⟨fun c1 => ⟨fun c2 => ?_, fun c2 => ?_⟩, fun c1 => ⟨⟨by omega, by omega⟩, p_X11_pick (by decide) (lf1 hq ?_)⟩⟩
    · obtain ⟨w, rfl⟩ : ∃ w : Nat, a2 = (w : Int) := ⟨a2.toNat, by omega⟩
      rintro _ rfl
      rintro _ rfl
      have er := remZ_nat (a := w) (d := 10) (by omega) (by decide) (by decide)
      have ed := divZ_nat (a := w) (d := 10) (by omega) (by decide) (by decide)
      rw [show ((10 : Nat) : Int) = 10 from rfl] at er ed
      rw [er, ed]
      refine ⟨fun e => p_X11_pick (by decide) (lf1 hq ?_), fun e => p_X11_pick (by decide) (lf1 hq ?_), fun e => p_X11_pick (by decide) (lf1 hq ?_), fun e => p_X11_pick (by decide) (lf1 hq ?_), fun e => p_X11_pick (by decide) (lf1 hq ?_), fun e1 e2 e3 e4 e5 => lf1 hq ?_⟩
      · by_cases c : ((w % 10 : Nat) : Int) < g 2
        · rw [r2, if_pos ⟨by omega, c, by omega⟩]; unfold bHouse
          rw [if_neg (by omega), if_neg (by omega), if_pos (by omega), Int.toNat_natCast, Int.toNat_natCast, (rf _ c).1]; exact congrArg g (by omega)
        · rw [r2, if_neg (by omega)]; unfold bHouse
          rw [if_neg (by omega), if_neg (by omega), if_neg (by omega), if_neg (by omega)]
      · by_cases c : ((w % 10 : Nat) : Int) < g 2
        · rw [r2, if_pos ⟨by omega, c, by omega⟩]; unfold bHouse
          rw [if_neg (by omega), if_neg (by omega), if_pos (by omega), Int.toNat_natCast, Int.toNat_natCast, (rf _ c).2]; exact congrArg g (by omega)
        · rw [r2, if_neg (by omega)]; unfold bHouse
          rw [if_neg (by omega), if_neg (by omega), if_neg (by omega), if_neg (by omega)]
      · by_cases c : ((w % 10 : Nat) : Int) < g 4
        · rw [r4, if_pos ⟨by omega, c, by omega⟩]; unfold bHouse
          rw [if_neg (by omega), if_neg (by omega), if_neg (by omega), if_pos (by omega), Int.toNat_natCast, Int.toNat_natCast, (rs _ c).1]; exact congrArg g (by omega)
        · rw [r4, if_neg (by omega)]; unfold bHouse
          rw [if_neg (by omega), if_neg (by omega), if_neg (by omega), if_neg (by omega)]
      · by_cases c : ((w % 10 : Nat) : Int) < g 4
        · rw [r4, if_pos ⟨by omega, c, by omega⟩]; unfold bHouse
          rw [if_neg (by omega), if_neg (by omega), if_neg (by omega), if_pos (by omega), Int.toNat_natCast, Int.toNat_natCast, (rs _ c).2.1]; exact congrArg g (by omega)
        · rw [r4, if_neg (by omega)]; unfold bHouse
          rw [if_neg (by omega), if_neg (by omega), if_neg (by omega), if_neg (by omega)]
      · by_cases c : ((w % 10 : Nat) : Int) < g 4
        · rw [r4, if_pos ⟨by omega, c, by omega⟩]; unfold bHouse
          rw [if_neg (by omega), if_neg (by omega), if_neg (by omega), if_pos (by omega), Int.toNat_natCast, Int.toNat_natCast, (rs _ c).2.2]; exact congrArg g (by omega)
        · rw [r4, if_neg (by omega)]; unfold bHouse
          rw [if_neg (by omega), if_neg (by omega), if_neg (by omega), if_neg (by omega)]
      · unfold bHouse; rw [if_neg (by omega), if_neg (by omega), if_neg (by omega), if_neg (by omega)]
    · refine ⟨fun e => lf1 hq ?_, fun e => lf1 hq ?_, fun e => lf1 hq ?_, fun e => lf1 hq ?_, fun e => lf1 hq ?_, fun e0 e1 e2 e3 e4 => lf1 hq ?_⟩
      · subst e; unfold bHouse; rw [if_pos (by omega)]; exact r0
      · subst e; unfold bHouse; rw [if_pos (by omega)]; exact r1
      · subst e; unfold bHouse; rw [if_pos (by omega)]; exact r2
      · subst e; unfold bHouse; rw [if_pos (by omega)]; exact r3
      · subst e; unfold bHouse; rw [if_pos (by omega)]; exact r4
      · unfold bHouse; rw [if_neg (by omega), if_neg (by omega), if_neg (by omega), if_neg (by omega)]
    · by_cases c : a2 < 100 + g 0
      · rw [r0, if_pos ⟨by omega, by omega, by omega⟩]; unfold bHouse
        rw [if_neg (by omega), if_pos ⟨by omega, c⟩, rc _ (by omega)]
      · rw [r0, if_neg (by omega)]; unfold bHouse
        rw [if_neg (by omega), if_neg (by omega), if_neg (by omega), if_neg (by omega)]
theorem m_house {J : mJ} {a1 a2 : Int} {t : Nat} (hI : TI J t (J 129)) (hU : UV (J 128)) {post' : Int → mJ → Prop} (hq : ∀ J1, MF J J1 → post' (aHouse (J 129) a1 a2) J1) : v_X12_house J 128 a1 a2 post' := by
  unfold v_X12_house
  refine n_isHouse hI hU (fun c => ⟨fun c2 => Bool.noConfusion c2, fun _ => lf (hq J (MF_refl hU)) ?_⟩) (fun k J1 ek hk hk2 hM hp f1 f2 => ⟨fun _ => ?_, fun c2 => Bool.noConfusion c2⟩)
  · unfold aHouse; rw [if_neg c]
  · have h := hq J1 (MF_one f1 (UV_of hM))
    subst ek
    unfold aHouse at h
    rw [if_pos ⟨by omega, hk⟩, Int.toNat_natCast] at h
    have hv := hM.2.2.2.1
    have v0 := hv.1
    have v2 := hv.2.2.1
    have v4 := hv.2.2.2.2.1
    refine n_isIn (fun c => ⟨fun _ => n_of hM (j := 0) rfl (by decide) ⟨⟨by omega, by omega⟩, n_isIn (fun c2 => ⟨fun _ => ?_, fun c2 => Bool.noConfusion c2⟩) (fun c2 => ⟨fun c2 => Bool.noConfusion c2, fun _ => ⟨⟨by omega, by omega⟩, ⟨by omega, by omega⟩, n_of hM (j := 5 + (a2 - 100).toNat) (by omega) (by omega) (lf h ?_)⟩⟩)⟩, fun c2 => Bool.noConfusion c2⟩) (fun c => ⟨fun c2 => Bool.noConfusion c2, fun _ => n_of hM (j := a2.toNat) (by omega) (by omega) (lf h ?_)⟩)
    · rintro _ rfl
      refine n_isIn (fun c3 => ⟨fun _ => n_isIn (fun c4 => ⟨fun _ => lf h ?_, fun c2 => Bool.noConfusion c2⟩) (fun c4 => ⟨fun c2 => Bool.noConfusion c2, fun _ => ?_⟩), fun c2 => Bool.noConfusion c2⟩) (fun c3 => ⟨fun c2 => Bool.noConfusion c2, fun _ => ?_⟩)
      · unfold bHouse; rw [if_neg (by omega), if_neg (by omega), if_neg (by omega), if_neg (by omega)]
      · obtain ⟨w, rfl⟩ : ∃ w : Nat, a2 = (w : Int) := ⟨a2.toNat, by omega⟩
        have er := remZ_nat (a := w) (d := 10) (by omega) (by decide) (by decide)
        have ed := divZ_nat (a := w) (d := 10) (by omega) (by decide) (by decide)
        rw [show ((10 : Nat) : Int) = 10 from rfl] at er ed
        rw [er, ed]
        refine n_of hM (j := 4) rfl (by decide) ⟨fun c5 => lf h ?_, fun c5 => ⟨⟨by omega, by omega⟩, ⟨by omega, by omega⟩, ⟨by omega, by omega⟩, ⟨by omega, by omega⟩, n_of hM (j := 122 + 3 * (w % 10) + w / 10) (by omega) (by omega) (lf h ?_)⟩⟩
        · unfold bHouse; rw [if_neg (by omega), if_neg (by omega), if_neg (by omega), if_neg (by omega)]
        · unfold bHouse; rw [if_neg (by omega), if_neg (by omega), if_neg (by omega), if_pos (by omega), Int.toNat_natCast]
      · obtain ⟨w, rfl⟩ : ∃ w : Nat, a2 = (w : Int) := ⟨a2.toNat, by omega⟩
        have er := remZ_nat (a := w) (d := 10) (by omega) (by decide) (by decide)
        have ed := divZ_nat (a := w) (d := 10) (by omega) (by decide) (by decide)
        rw [show ((10 : Nat) : Int) = 10 from rfl] at er ed
        rw [er, ed]
        refine n_isFlat hM (fun c5 => ⟨fun _ => lf h ?_, fun c2 => Bool.noConfusion c2⟩) (fun f ef hf hf6 => ⟨fun c2 => Bool.noConfusion c2, fun _ => ⟨⟨by omega, by omega⟩, ⟨by omega, by omega⟩, ⟨by omega, by omega⟩, ⟨by omega, by omega⟩, n_of hM (j := 28 + 2 * (w % 10) + w / 10) (by omega) (by omega) (lf h ?_)⟩⟩)
        · unfold bHouse; rw [if_neg (by omega), if_neg (by omega), if_neg (by omega), if_neg (by omega)]
        · unfold bHouse; rw [if_neg (by omega), if_neg (by omega), if_pos (by omega), Int.toNat_natCast]
    · unfold bHouse; rw [if_neg (by omega), if_pos (by omega)]
    · unfold bHouse; rw [if_pos (by omega)]
/-- sound -/
def aSound (A : Nat → Int) (a1 a2 a3 : Int) : Int := if 0 ≤ a1 ∧ a1 < A 1 then (if a2 = -1 then (if a3 = 0 then rH A a1.toNat 0 else -2) else if (0 ≤ a2 ∧ a2 < rH A a1.toNat 0) ∧ 0 ≤ a3 ∧ a3 ≤ 3 then rH A a1.toNat (1 + 4 * a2.toNat + a3.toNat) else -2) else -2
theorem x_sound {J : mJ} {a1 a2 a3 : Int} (hI : TI J 1 (J 129)) {post' : Int → Prop} (hq : post' (aSound (J 129) a1 a2 a3)) : v_X11_sound J a1 a2 a3 post' := by
  unfold v_X11_sound
  refine x_readingAt hI (fun c => ⟨fun _ => ?_, fun q c2 => (by cases c2)⟩) (fun k ek hk hk2 hv hr => ⟨fun c2 => (by cases c2), fun q eq => ?_⟩)
  · unfold aSound at hq; rw [if_neg c] at hq; exact hq
  · cases eq
    subst ek
    unfold aSound at hq
    rw [if_pos ⟨by omega, hk⟩, Int.toNat_natCast] at hq
    generalize rH (J 129) k = r at hv hr hq
    obtain ⟨r0, rk⟩ := hr
    have v0 := hv.1
    rw [r0]
    refine ⟨fun c => ?_, fun c => ?_⟩
    · rw [if_neg c] at hq
      have pk : ∀ (j c : Nat), j < 4 → a3 = (j : Int) → c = 19 + 19 * k + 1 + j → (∀ i : Nat, (i : Int) < r 0 → J c i = r (1 + 4 * i + j)) → v_X11_pick J c 10 a2 (r 0) (-2) post' := by
        intro j c hj ej ec hc
        refine p_X11_pick (by decide) (lf1 hq ?_)
        by_cases c2 : 0 ≤ a2 ∧ a2 < r 0
        · rw [if_pos ⟨c2.1, c2.2, by omega⟩, if_pos ⟨c2, by omega⟩, hc _ (by omega), ej, Int.toNat_natCast]
        · rw [if_neg (by omega), if_neg (by omega)]
      refine ⟨fun e => pk 0 _ (by decide) e rfl (fun i hi => (rk i hi).1), fun e => pk 1 _ (by decide) e rfl (fun i hi => (rk i hi).2.1.trans (congrArg r (by omega))), fun e => pk 2 _ (by decide) e rfl (fun i hi => (rk i hi).2.2.1.trans (congrArg r (by omega))), fun e => pk 3 _ (by decide) e rfl (fun i hi => (rk i hi).2.2.2.trans (congrArg r (by omega))), fun e0 e1 e2 e3 => ?_⟩
      rw [if_neg (by omega)] at hq; exact hq
    · rw [if_pos c] at hq
      exact ⟨fun e => by rw [if_neg e] at hq; exact hq, fun e => by rw [if_pos e] at hq; exact hq⟩
/-- the reference looks at reading r at b -/
def MS (J : mJ) (b : Nat) (r : Nat → Int) : Prop := J 128 44 = (b : Int) ∧ b ≤ 949 ∧ (∀ j, J 129 (b + j) = r j) ∧ RdV r
theorem n_sounds {J : mJ} {b : Nat} {r : Nat → Int} (h : MS J b r) {post' : Int → Prop} (hq : post' (r 0)) : v_X12_sounds J 128 post' := by
  obtain ⟨h1, h2, h3, h4⟩ := h
  unfold v_X12_sounds
  rw [h1, Int.toNat_natCast]
  exact ⟨⟨by omega, by omega⟩, lf1 hq (h3 0)⟩
theorem n_soundOf {J : mJ} {b : Nat} {r : Nat → Int} (h : MS J b r) {a1 a2 : Int} (k w i : Nat) (e1 : a1 = (k : Int)) (e2 : a2 = (w : Int)) (hk : k < 10 ∧ w < 4) (hi : i = 1 + w + 4 * k) {post' : Int → Prop} (hq : post' (r i)) : v_X12_soundOf J 128 a1 a2 post' := by
  obtain ⟨h1, h2, h3, h4⟩ := h
  subst e1; subst e2
  unfold v_X12_soundOf
  rw [h1]
  refine ⟨⟨by omega, by omega⟩, ⟨by omega, by omega⟩, ⟨by omega, by omega⟩, ⟨by omega, by omega⟩, ⟨by omega, by omega⟩, lf1 hq ?_⟩
  rw [show ((b : Int) + 1 + 4 * (k : Int) + (w : Int)).toNat = b + i by omega]
  exact h3 i
theorem n_reading {J : mJ} {a1 : Int} {t : Nat} (hI : TI J t (J 129)) (hU : UV (J 128)) {post' : Bool → Prop} (h0 : ¬ (0 ≤ a1 ∧ a1 < J 129 1) → post' false) (h1 : ∀ k : Nat, a1 = (k : Int) → (k : Int) < J 129 1 → k < 2 → (∀ J1, J1 = up2 J 128 44 (908 + 41 * (k : Int)) → MS J1 (908 + 41 * k) (rH (J 129) k)) → post' true) : v_X12_isOf J 128 1 a1 post' := by
  have h3 := hI.2.2.1
  refine n_isOf1 h3 ?_
  by_cases hc : 0 ≤ a1 ∧ a1 < J 129 1
  · rw [decide_eq_true hc]
    refine h1 a1.toNat (by omega) (by omega) (by omega) (fun J1 e => ?_)
    subst e
    refine ⟨by rw [up2_s, up1_s]; omega, by omega, fun j => ?_, (hI.2.2.2.2.2.2 a1.toNat (by omega)).1⟩
    rw [up2_n _ _ _ (by decide)]; rfl
  · rw [decide_eq_false hc]; exact h0 hc
theorem UV_up {J : mJ} {i : Nat} {v : Int} (hU : UV (J 128)) (h1 : i ≠ 19) (h2 : i ≠ 21) : UV (up2 J 128 i v 128) := by
  unfold UV; rw [up2_s, up1_n _ _ (Ne.symm h1), up1_n _ _ (Ne.symm h2)]; exact hU
theorem m_sound {J : mJ} {a1 a2 a3 : Int} {t : Nat} (hI : TI J t (J 129)) (hU : UV (J 128)) {post' : Int → mJ → Prop} (hq : ∀ J1, MF J J1 → post' (aSound (J 129) a1 a2 a3) J1) : v_X12_sound J 128 a1 a2 a3 post' := by
  unfold v_X12_sound
  refine n_reading hI hU (fun c => ⟨fun c2 => Bool.noConfusion c2, fun _ => lf (hq J (MF_refl hU)) ?_⟩) (fun k ek hk hk2 hS => ⟨fun _ => ?_, fun c2 => Bool.noConfusion c2⟩)
  · unfold aSound; rw [if_neg c]
  · subst ek
    refine ⟨fun _ => ⟨⟨by omega, by omega⟩, ⟨by omega, by omega⟩, ?_⟩, fun c => absurd c (by decide)⟩
    intro J3 e3
    have hS := hS J3 e3
    subst e3
    have h := hq (up2 J 128 44 (908 + 41 * (k : Int))) ⟨fun c hc => up2_n _ _ _ (by omega), UV_up hU (by decide) (by decide)⟩
    generalize up2 J 128 44 (908 + 41 * (k : Int)) = J3 at hS h
    unfold aSound at h
    rw [if_pos ⟨by omega, hk⟩, Int.toNat_natCast] at h
    generalize rH (J 129) k = r at hS h
    have v0 := hS.2.2.2.1
    refine ⟨fun c => n_sounds hS ⟨⟨by omega, by omega⟩, n_isIn (fun cb => ⟨fun _ => ?_, fun c2 => Bool.noConfusion c2⟩) (fun cb => ⟨fun c2 => Bool.noConfusion c2, fun _ => n_isIn (fun cw => ⟨fun _ => ?_, fun c2 => Bool.noConfusion c2⟩) (fun cw => ⟨fun c2 => Bool.noConfusion c2, fun _ => ?_⟩)⟩)⟩, fun c => ⟨fun c2 => ?_, fun c2 => n_sounds hS ?_⟩⟩
    · rw [if_neg c, if_neg (by omega)] at h; exact h
    · rw [if_neg c, if_neg (by omega)] at h; exact h
    · rw [if_neg c, if_pos (by omega)] at h
      exact n_soundOf hS a2.toNat a3.toNat (1 + 4 * a2.toNat + a3.toNat) (by omega) (by omega) ⟨by omega, by omega⟩ (by omega) h
    · rw [if_pos c, if_neg c2] at h; exact h
    · rw [if_pos c, if_pos c2] at h; exact h
