/-! how many bits are set: the machine's own count -/
theorem land_split {k a b m n : Nat} (ha : a < 2 ^ k) (hm : m < 2 ^ k) : (a + 2 ^ k * b) &&& (m + 2 ^ k * n) = (a &&& m) + 2 ^ k * (b &&& n) := by
  apply Nat.eq_of_testBit_eq
  intro i
  have hc : (a &&& m) < 2 ^ k := Nat.lt_of_le_of_lt Nat.and_le_left ha
  rw [Nat.testBit_and, Nat.add_comm a, Nat.add_comm m, Nat.add_comm (a &&& m), Nat.testBit_two_pow_mul_add _ ha, Nat.testBit_two_pow_mul_add _ hm, Nat.testBit_two_pow_mul_add _ hc]
  split <;> rw [Nat.testBit_and]
theorem land8 {a b m n : Nat} (ha : a < 256) (hm : m < 256) : (a + 256 * b) &&& (m + 256 * n) = (a &&& m) + 256 * (b &&& n) := land_split (k := 8) ha hm
def pg1 (a : Nat) : Nat := (a / 2) &&& 85
def pc1 (a : Nat) : Nat := a - pg1 a
def pc2 (a : Nat) : Nat := (pc1 a &&& 51) + ((pc1 a / 4) &&& 51)
def pc3 (a : Nat) : Nat := (pc2 a + pc2 a / 16) &&& 15
theorem bF1 : ∀ a, a < 256 → ∀ e, e < 2 → (a / 2 + 128 * e) &&& 85 = pg1 a := by decide +kernel
theorem bF1' : ∀ a, a < 256 → pg1 a ≤ a ∧ pc1 a < 256 := by decide +kernel
theorem bF2 : ∀ a, a < 256 → ∀ e, e < 4 → (pc1 a / 4 + 64 * e) &&& 51 = (pc1 a / 4) &&& 51 := by decide +kernel
theorem bF3 : ∀ a, a < 256 → pc2 a ≤ 68 ∧ pc2 a % 16 ≤ 4 := by decide +kernel
theorem bF3' : ∀ a, a < 256 → ∀ e, e < 5 → (pc2 a + pc2 a / 16 + 16 * e) &&& 15 = pc3 a := by decide +kernel
theorem bF4 : ∀ a, a < 256 → pc3 a = cntF (fun i => a.testBit i) 8 := by decide +kernel
theorem pL1 {a y M : Nat} (ha : a < 256) : ((a + 256 * y) / 2) &&& (85 + 256 * M) = pg1 a + 256 * ((y / 2) &&& M) := by
  rw [show (a + 256 * y) / 2 = (a / 2 + 128 * (y % 2)) + 256 * (y / 2) by omega, land8 (by omega) (by decide), bF1 a ha _ (by omega)]
theorem pL2 {a y M : Nat} (ha : a < 256) : ((pc1 a + 256 * y) / 4) &&& (51 + 256 * M) = ((pc1 a / 4) &&& 51) + 256 * ((y / 4) &&& M) := by
  have := bF1' a ha
  rw [show (pc1 a + 256 * y) / 4 = (pc1 a / 4 + 64 * (y % 4)) + 256 * (y / 4) by omega, land8 (by omega) (by decide), bF2 a ha _ (by omega)]
theorem pL3 {a y M : Nat} (ha : a < 256) (hy : y % 16 ≤ 4) : ((pc2 a + 256 * y) + (pc2 a + 256 * y) / 16) &&& (15 + 256 * M) = pc3 a + 256 * ((y + y / 16) &&& M) := by
  have := bF3 a ha
  rw [show (pc2 a + 256 * y) + (pc2 a + 256 * y) / 16 = (pc2 a + pc2 a / 16 + 16 * (y % 16)) + 256 * (y + y / 16) by omega, land8 (by omega) (by decide), bF3' a ha _ (by omega)]
theorem pop_nat {a b c : Nat} (ha : a < 256) (hb : b < 256) (hc : c < 256) : ∀ n, n = a + 256 * (b + 256 * (c + 256 * 0)) → ∀ x1, x1 = n - ((n / 2) &&& 1431655765) → ∀ x2, x2 = (x1 &&& 858993459) + ((x1 / 4) &&& 858993459) → ∀ x3, x3 = (x2 + x2 / 16) &&& 252645135 → (x1 ≤ n ∧ ((n / 2) &&& 1431655765) ≤ n ∧ x2 < 2 ^ 24 ∧ x3 = pc3 a + 256 * (pc3 b + 256 * pc3 c)) := by
  intro n en x1 e1 x2 e2 x3 e3
  have fa := bF1' a ha
  have fb := bF1' b hb
  have fc := bF1' c hc
  have ga := bF3 a ha
  have gb := bF3 b hb
  have gc := bF3 c hc
  have g1 : (n / 2) &&& 1431655765 = pg1 a + 256 * (pg1 b + 256 * (pg1 c + 256 * 0)) := by
    rw [en, show (1431655765 : Nat) = 85 + 256 * (85 + 256 * (85 + 256 * 85)) from rfl, pL1 ha, pL1 hb, pL1 hc]
    rfl
  have h1 : x1 = pc1 a + 256 * (pc1 b + 256 * (pc1 c + 256 * 0)) := by
    rw [e1, g1, en]; unfold pc1; omega
  have h2 : x2 = pc2 a + 256 * (pc2 b + 256 * (pc2 c + 256 * 0)) := by
    rw [e2, h1, show (858993459 : Nat) = 51 + 256 * (51 + 256 * (51 + 256 * 51)) from rfl, pL2 ha, pL2 hb, pL2 hc, land8 fa.2 (by decide), land8 fb.2 (by decide), land8 fc.2 (by decide)]
    show _ + 256 * (_ + 256 * (_ + 256 * 0)) + (_ + 256 * (_ + 256 * (_ + 256 * 0))) = _
    unfold pc2; omega
  have h3 : x3 = pc3 a + 256 * (pc3 b + 256 * (pc3 c + 256 * 0)) := by
    rw [e3, h2, show (252645135 : Nat) = 15 + 256 * (15 + 256 * (15 + 256 * 15)) from rfl, pL3 ha (by omega), pL3 hb (by omega), pL3 hc (by omega)]
    rfl
  refine ⟨?_, ?_, ?_, ?_⟩
  · rw [e1]; omega
  · rw [g1, en]; omega
  · rw [h2]; omega
  · rw [h3, Nat.mul_zero, Nat.add_zero]
theorem cntF_add (P : Nat → Bool) (m : Nat) : ∀ k, cntF P (m + k) = cntF P m + cntF (fun i => P (m + i)) k
  | 0 => rfl
  | k + 1 => by rw [← Nat.add_assoc, cntF, cntF_add P m k, cntF, Nat.add_assoc]
theorem cntF_zero {P : Nat → Bool} : ∀ n, (∀ k, k < n → P k = false) → cntF P n = 0
  | 0, _ => rfl
  | n + 1, h => by rw [cntF_f (h n (by omega)), cntF_zero n (fun k hk => h k (by omega))]
theorem cnt_byte {a y k : Nat} (ha : a < 256) : cntF (fun i => (a + 256 * y).testBit i) (8 + k) = cntF (fun i => a.testBit i) 8 + cntF (fun i => y.testBit i) k := by
  have hb : ∀ i, (a + 256 * y).testBit i = if i < 8 then a.testBit i else y.testBit (i - 8) := fun i => by
    rw [Nat.add_comm]; exact Nat.testBit_two_pow_mul_add (i := 8) y ha i
  rw [cntF_add]
  congr 1
  · exact cntF_cong 8 (fun i hi => by rw [hb, if_pos hi])
  · exact cntF_cong k (fun i _ => by rw [hb, if_neg (by omega), Nat.add_sub_cancel_left])
def popZ (x : Int) : Int := ((cntF (bt x) 31 : Nat) : Int)
theorem nI_and {a b : Nat} (ha : a < 2 ^ 32) (hb : b < 2 ^ 32) : nI a &&& nI b = nI (a &&& b) := by
  apply Int32.toBitVec_inj.mp
  rw [Int32.toBitVec_and, nI_bv, nI_bv, nI_bv]
  apply BitVec.eq_of_toNat_eq
  have h1 : a % 2 ^ 32 = a := Nat.mod_eq_of_lt ha
  have h2 : b % 2 ^ 32 = b := Nat.mod_eq_of_lt hb
  have h4 : (a &&& b) % 2 ^ 32 = a &&& b := Nat.mod_eq_of_lt (Nat.and_lt_two_pow _ hb)
  simp only [BitVec.toNat_and, BitVec.toNat_ofNat, h1, h2, h4]
theorem nI_ushr {n : Nat} (hn : n < 2 ^ 32) (s : Int32) (k : Nat) (hs : ((s.toUInt32 &&& Int32.toUInt32 31).toBitVec % 32).toNat = k) : iushr (nI n) s = nI (n / 2 ^ k) := pk_ushrN hn s k hs
theorem nI_plus (a b : Nat) : nI a + nI b = nI (a + b) := (Int32.ofNat_add a b).symm
theorem cnt24 {a b c : Nat} (ha : a < 256) (hb : b < 256) (hc : c < 256) : cntF (fun i => (a + 256 * (b + 256 * (c + 256 * 0))).testBit i) 31 = pc3 a + pc3 b + pc3 c := by
  rw [show 31 = 8 + (8 + (8 + 7)) from rfl, cnt_byte ha, cnt_byte hb, cnt_byte hc, cntF_zero (P := fun i => Nat.testBit 0 i) 7 (fun k _ => Nat.zero_testBit k), ← bF4 _ ha, ← bF4 _ hb, ← bF4 _ hc]
  omega
theorem p_bitCount {x : Int} (hx : 0 ≤ x ∧ x < 16777216) {post' : Int → Prop} (h : post' (popZ x)) : v_J6_bitCount_0f7a4 x post' := by
  intro post hp
  obtain ⟨n, rfl⟩ : ∃ n : Nat, x = (n : Int) := ⟨x.toNat, by omega⟩
  have ha : n % 256 < 256 := by omega
  have hb : n / 256 % 256 < 256 := by omega
  have hc : n / 65536 < 256 := by omega
  have en : n = n % 256 + 256 * (n / 256 % 256 + 256 * (n / 65536 + 256 * 0)) := by omega
  have A := bF3 _ ha
  have B := bF3 _ hb
  have C := bF3 _ hc
  have la : pc3 (n % 256) < 16 := Nat.and_lt_two_pow (n := 4) _ (by decide)
  have lb : pc3 (n / 256 % 256) < 16 := Nat.and_lt_two_pow (n := 4) _ (by decide)
  have lc : pc3 (n / 65536) < 16 := Nat.and_lt_two_pow (n := 4) _ (by decide)
  obtain ⟨f1, f2, f3, f4⟩ := pop_nat ha hb hc n en _ rfl _ rfl _ rfl
  generalize e1 : n - ((n / 2) &&& 1431655765) = n1 at f1 f3 f4
  generalize e2 : (n1 &&& 858993459) + ((n1 / 4) &&& 858993459) = n2 at f3 f4
  generalize e3 : (n2 + n2 / 16) &&& 252645135 = n3 at f4
  unfold w_J6_bitCount_0f7a4
  intro x1 g1 x2 g2 x3 g3 x4 g4 x5 g5
  rw [zi_nI, nI_ushr (by omega) 1 1 rfl, show (1431655765 : Int32) = nI 1431655765 from rfl, nI_and (by omega) (by decide), pk_sub f2, e1] at g1
  subst g1
  rw [nI_ushr (by omega) 2 2 rfl, show (858993459 : Int32) = nI 858993459 from rfl, nI_and (by omega) (by decide), nI_and (by omega) (by decide), nI_plus, show (2 ^ 2 : Nat) = 4 from rfl, e2] at g2
  subst g2
  rw [nI_ushr (by omega) 4 4 rfl, show (252645135 : Int32) = nI 252645135 from rfl, nI_plus, nI_and (by omega) (by decide), show (2 ^ 4 : Nat) = 16 from rfl, e3] at g3
  subst g3
  rw [nI_ushr (by omega) 8 8 rfl, nI_plus] at g4
  subst g4
  rw [nI_ushr (by omega) 16 16 rfl, nI_plus] at g5
  subst g5
  have hcnt : cntF (bt ((n : Nat) : Int)) 31 = pc3 (n % 256) + pc3 (n / 256 % 256) + pc3 (n / 65536) := by
    rw [show bt ((n : Nat) : Int) = fun i => n.testBit i from funext (fun i => by unfold bt; rw [Int.toNat_natCast])]
    have w := cnt24 ha hb hc
    rw [← en] at w
    exact w
  refine hp _ (popZ ((n : Nat) : Int)) ?_ ?_ h
  · rw [pk_andN (by omega) 6 rfl]
    unfold popZ
    rw [hcnt, zi_nI]
    congr 1
    show (n3 + n3 / 256 + (n3 + n3 / 256) / 65536) % 64 = _
    have r1 : n3 / 256 = pc3 (n / 256 % 256) + 256 * pc3 (n / 65536) := by clear hcnt A B C f3 en hx; omega
    have r2 : (n3 + n3 / 256) / 65536 = pc3 (n / 65536) := by rw [r1]; clear hcnt A B C f3 en hx; omega
    rw [r2, r1, f4]
    clear hcnt A B C f3 en hx
    omega
  · unfold popZ; rw [hcnt]; exact ⟨by omega, by omega⟩
theorem m_bits {x : Int} (hx : 0 ≤ x ∧ x < 2147483648) {post' : Int → Prop} (h : post' (popZ x)) : v_X12_bits x post' := by
  unfold v_X12_bits v_X12_bits_4
  intro ZZ hZ
  refine lpN (S := fun k => ZZ ((cntF (bt x) k : Nat) : Int) (k : Int)) (N := 31) (fun k hk ih => hZ _ _ ?_) (hZ _ _ ⟨fun _ => h, fun c => absurd (Int.le_refl _) c⟩)
  have hc := cntF_le (bt x) k
  rw [bit1 hx (by omega)]
  have e : ((cntF (bt x) k : Nat) : Int) + (if bt x k = true then 1 else 0) = ((cntF (bt x) (k + 1) : Nat) : Int) := by
    rw [cntF]; split <;> omega
  rw [e]
  have hc2 := cntF_le (bt x) (k + 1)
  refine ⟨fun c => by omega, fun _ => ⟨⟨by omega, by omega⟩, ?_⟩⟩
  rintro _ rfl
  refine ⟨⟨by omega, by omega⟩, ?_⟩
  rintro _ rfl
  exact ih
theorem popZ_rng (x : Int) : 0 ≤ popZ x ∧ popZ x ≤ 31 := by
  have := cntF_le (bt x) 31
  unfold popZ; omega
