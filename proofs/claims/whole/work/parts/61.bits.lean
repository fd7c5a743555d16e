/-! bits: sets of small numbers as naturals -/
theorem zi_nI (n : Nat) : zi (n : Int) = nI n := (z_len (N := n)).symm
theorem nI_bv (n : Nat) : (nI n).toBitVec = BitVec.ofNat 32 n := rfl
theorem nI_toI {n : Nat} (h : n < 2 ^ 31) : (nI n).toInt = (n : Int) := nI_toInt h
theorem sm32 : ∀ b, b < 32 → ((nI b &&& 31).toBitVec.smod 32).toNat = b := by decide
theorem shrZ_nat {n b : Nat} (hn : n < 2 ^ 31) (hb : b < 32) : shrZ (n : Int) (b : Int) = ((n / 2 ^ b : Nat) : Int) := by
  unfold shrZ
  rw [zi_nI, zi_nI, pk_shrN hn _ b (sm32 b hb)]
  exact nI_toI (Nat.lt_of_le_of_lt (Nat.div_le_self _ _) hn)
theorem andZ_one {n : Nat} (hn : n < 2 ^ 31) : andZ (n : Int) 1 = ((n % 2 : Nat) : Int) := by
  unfold andZ
  rw [zi_nI, show zi 1 = (1 : Int32) from rfl, pk_andN (by omega) 1 rfl]
  exact nI_toI (by omega)
theorem testBit_div (n b : Nat) : n.testBit b = decide (n / 2 ^ b % 2 = 1) := by
  rw [Nat.testBit_eq_decide_div_mod_eq]
theorem p_X11_has {n b : Nat} (hn : n < 2 ^ 31) (hb : b < 32) {post' : Bool → Prop} (h : post' (n.testBit b)) : v_X11_has (n : Int) (b : Int) post' := by
  have hlt : n / 2 ^ b < 2 ^ 31 := Nat.lt_of_le_of_lt (Nat.div_le_self _ _) hn
  unfold v_X11_has
  rw [shrZ_nat hn hb, andZ_one hlt]
  rw [testBit_div] at h
  exact ⟨fun c => (pb h).2 (by omega), fun c => (pb h).1 (by omega)⟩
theorem orZ_nat {a b : Nat} (ha : a < 2 ^ 31) (hb : b < 2 ^ 31) : orZ (a : Int) (b : Int) = ((a ||| b : Nat) : Int) := by
  unfold orZ
  rw [zi_nI, zi_nI]
  have e : nI a ||| nI b = nI (a ||| b) := by
    apply Int32.toBitVec_inj.mp
    rw [Int32.toBitVec_or, nI_bv, nI_bv, nI_bv]
    apply BitVec.eq_of_toNat_eq
    have h1 : a % 2 ^ 32 = a := Nat.mod_eq_of_lt (by omega)
    have h2 : b % 2 ^ 32 = b := Nat.mod_eq_of_lt (by omega)
    have h3 : (a ||| b) < 2 ^ 31 := Nat.or_lt_two_pow ha hb
    have h4 : (a ||| b) % 2 ^ 32 = a ||| b := Nat.mod_eq_of_lt (by omega)
    simp only [BitVec.toNat_or, BitVec.toNat_ofNat, h1, h2, h4]
  rw [e]
  exact nI_toI (Nat.or_lt_two_pow ha hb)
theorem andZ_nat {a b : Nat} (ha : a < 2 ^ 31) (hb : b < 2 ^ 31) : andZ (a : Int) (b : Int) = ((a &&& b : Nat) : Int) := by
  unfold andZ
  rw [zi_nI, zi_nI]
  have h3 : (a &&& b) < 2 ^ 31 := Nat.and_lt_two_pow _ hb
  have e : nI a &&& nI b = nI (a &&& b) := by
    apply Int32.toBitVec_inj.mp
    rw [Int32.toBitVec_and, nI_bv, nI_bv, nI_bv]
    apply BitVec.eq_of_toNat_eq
    have h1 : a % 2 ^ 32 = a := Nat.mod_eq_of_lt (by omega)
    have h2 : b % 2 ^ 32 = b := Nat.mod_eq_of_lt (by omega)
    have h4 : (a &&& b) % 2 ^ 32 = a &&& b := Nat.mod_eq_of_lt (by omega)
    simp only [BitVec.toNat_and, BitVec.toNat_ofNat, h1, h2, h4]
  rw [e]
  exact nI_toI h3
theorem shlZ_one {b : Nat} (hb : b < 31) : shlZ 1 (b : Int) = ((2 ^ b : Nat) : Int) := by
  unfold shlZ
  have hp : 2 ^ b ≤ 2 ^ 30 := Nat.pow_le_pow_right (by decide) (by omega)
  rw [show (1 : Int) = ((1 : Nat) : Int) from rfl, zi_nI, zi_nI, pk_shlN (n := 1) _ b (sm32 b (by omega)) (by omega)]
  rw [Nat.one_mul]
  exact nI_toI (by omega)
theorem bit_or (n j i : Nat) : (n ||| 2 ^ j).testBit i = (n.testBit i || decide (j = i)) := by
  rw [Nat.testBit_or, Nat.testBit_two_pow]
