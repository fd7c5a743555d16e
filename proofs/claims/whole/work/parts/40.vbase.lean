/-! from machine ints to whole numbers: zi a is the int a; a predicate v_KEY over whole numbers gives w_KEY -/
abbrev mJ : Type := Nat → Nat → Int
abbrev ir (x : Int) : Prop := -2147483648 ≤ x ∧ x ≤ 2147483647
def zi (x : Int) : Int32 := Int32.ofInt x
def zz (J : mJ) : mI := fun c k => zi (J c k)
def irm (J : mJ) : Prop := ∀ c k, ir (J c k)
theorem zi_toInt {a : Int} (h : ir a) : (zi a).toInt = a := by
  unfold zi
  rw [Int32.toInt_ofInt]
  have hz : (Int32.size : Int) = 4294967296 := rfl
  exact Int.bmod_eq_of_le (by have := h.1; omega) (by have := h.2; omega)
theorem zi_of (x : Int32) : zi x.toInt = x := Int32.ofInt_toInt x
theorem ir_toInt (x : Int32) : ir x.toInt := ⟨by have := Int32.le_toInt x; omega, by have := Int32.toInt_lt x; omega⟩
theorem zlt {x y : Int32} {a b : Int} (e : x = zi a) (f : y = zi b) (i : ir a) (j : ir b) : x < y ↔ a < b := by
  rw [Int32.lt_iff_toInt_lt, e, f, zi_toInt i, zi_toInt j]
theorem zle {x y : Int32} {a b : Int} (e : x = zi a) (f : y = zi b) (i : ir a) (j : ir b) : x ≤ y ↔ a ≤ b := by
  rw [Int32.le_iff_toInt_le, e, f, zi_toInt i, zi_toInt j]
theorem zeq {x y : Int32} {a b : Int} (e : x = zi a) (f : y = zi b) (i : ir a) (j : ir b) : x = y ↔ a = b := by
  constructor
  · intro h
    have := congrArg Int32.toInt h
    rwa [e, f, zi_toInt i, zi_toInt j] at this
  · intro h; rw [e, f, h]
theorem za {x y : Int32} {a b : Int} (e : x = zi a) (f : y = zi b) : x + y = zi (a + b) := by rw [e, f]; exact (Int32.ofInt_add a b).symm
theorem zs {x y : Int32} {a b : Int} (e : x = zi a) (f : y = zi b) : x - y = zi (a - b) := by rw [e, f]; exact (Int32.ofInt_sub a b).symm
theorem zm {x y : Int32} {a b : Int} (e : x = zi a) (f : y = zi b) : x * y = zi (a * b) := by rw [e, f]; exact (Int32.ofInt_mul a b).symm
theorem zn {x : Int32} {a : Int} (e : x = zi a) : -x = zi (-a) := by rw [e]; exact (Int32.ofInt_neg a).symm
/-- operations that are taken as they are, by the machine's own -/
def andZ (a b : Int) : Int := (zi a &&& zi b).toInt
def orZ (a b : Int) : Int := (zi a ||| zi b).toInt
def xorZ (a b : Int) : Int := (zi a ^^^ zi b).toInt
def shlZ (a b : Int) : Int := (zi a <<< (zi b &&& 31)).toInt
def shrZ (a b : Int) : Int := (zi a >>> (zi b &&& 31)).toInt
def ushrZ (a b : Int) : Int := (iushr (zi a) (zi b)).toInt
def divZ (a b : Int) : Int := (zi a / zi b).toInt
def remZ (a b : Int) : Int := (irem (zi a) (zi b)).toInt
def addW (a b : Int) : Int := (zi a + zi b).toInt
def mulW (a b : Int) : Int := (zi a * zi b).toInt
def subW (a b : Int) : Int := (zi a - zi b).toInt
def b8Z (a : Int) : Int := ((zi a).toInt8.toInt32).toInt
def maxZ (a b : Int) : Int := if a < b then b else a
def minZ (a b : Int) : Int := if b < a then b else a
def absZ (a : Int) : Int := if 0 ≤ a then a else 0 - a
def bZ (b : Bool) : Int := if b = true then 1 else 0
theorem z_and {x y : Int32} {a b : Int} (e : x = zi a) (f : y = zi b) : x &&& y = zi (andZ a b) := by rw [e, f]; exact (zi_of _).symm
theorem z_or {x y : Int32} {a b : Int} (e : x = zi a) (f : y = zi b) : x ||| y = zi (orZ a b) := by rw [e, f]; exact (zi_of _).symm
theorem z_xor {x y : Int32} {a b : Int} (e : x = zi a) (f : y = zi b) : x ^^^ y = zi (xorZ a b) := by rw [e, f]; exact (zi_of _).symm
theorem z_shl {x y : Int32} {a b : Int} (e : x = zi a) (f : y = zi b) : x <<< (y &&& 31) = zi (shlZ a b) := by rw [e, f]; exact (zi_of _).symm
theorem z_shr {x y : Int32} {a b : Int} (e : x = zi a) (f : y = zi b) : x >>> (y &&& 31) = zi (shrZ a b) := by rw [e, f]; exact (zi_of _).symm
theorem z_ushr {x y : Int32} {a b : Int} (e : x = zi a) (f : y = zi b) : iushr x y = zi (ushrZ a b) := by rw [e, f]; exact (zi_of _).symm
theorem z_div {x y : Int32} {a b : Int} (e : x = zi a) (f : y = zi b) : x / y = zi (divZ a b) := by rw [e, f]; exact (zi_of _).symm
theorem z_rem {x y : Int32} {a b : Int} (e : x = zi a) (f : y = zi b) : irem x y = zi (remZ a b) := by rw [e, f]; exact (zi_of _).symm
theorem z_addW {x y : Int32} {a b : Int} (e : x = zi a) (f : y = zi b) : x + y = zi (addW a b) := by rw [e, f]; exact (zi_of _).symm
theorem z_subW {x y : Int32} {a b : Int} (e : x = zi a) (f : y = zi b) : x - y = zi (subW a b) := by rw [e, f]; exact (zi_of _).symm
theorem z_mulW {x y : Int32} {a b : Int} (e : x = zi a) (f : y = zi b) : x * y = zi (mulW a b) := by rw [e, f]; exact (zi_of _).symm
theorem z_b8 {x : Int32} {a : Int} (e : x = zi a) : x.toInt8.toInt32 = zi (b8Z a) := by rw [e]; exact (zi_of _).symm
theorem z_max {x y : Int32} {a b : Int} (e : x = zi a) (f : y = zi b) (i : ir a) (j : ir b) : imax x y = zi (maxZ a b) := by
  unfold imax maxZ
  by_cases h : a < b
  · rw [if_pos h, if_pos ((zlt e f i j).mpr h), f]
  · rw [if_neg h, if_neg (fun q => h ((zlt e f i j).mp q)), e]
theorem z_min {x y : Int32} {a b : Int} (e : x = zi a) (f : y = zi b) (i : ir a) (j : ir b) : imin x y = zi (minZ a b) := by
  unfold imin minZ
  by_cases h : b < a
  · rw [if_pos h, if_pos ((zlt f e j i).mpr h), f]
  · rw [if_neg h, if_neg (fun q => h ((zlt f e j i).mp q)), e]
theorem z_abs {x : Int32} {a : Int} (e : x = zi a) (i : ir a) : iabs x = zi (absZ a) := by
  unfold iabs absZ
  have h0 : (0 : Int32) = zi 0 := rfl
  by_cases h : 0 ≤ a
  · rw [if_pos h, if_pos ((zle h0 e (by decide) i).mpr h), e]
  · rw [if_neg h, if_neg (fun q => h ((zle h0 e (by decide) i).mp q))]; exact zs h0 e
theorem ir_max {a b : Int} (i : ir a) (j : ir b) : ir (maxZ a b) := by unfold maxZ; split <;> assumption
theorem ir_min {a b : Int} (i : ir a) (j : ir b) : ir (minZ a b) := by unfold minZ; split <;> assumption
theorem ir_bZ (b : Bool) : ir (bZ b) := by cases b <;> decide
theorem z_b (b : Bool) : bI b = zi (bZ b) := by cases b <;> rfl
theorem z_clamp {a : Int} (i : ir a) (h : 0 ≤ a) : (zi a).toNatClampNeg = a.toNat := by
  show (zi a).toInt.toNat = a.toNat
  rw [zi_toInt i]
theorem zvp {x : Int32} {a : Int} {N : Nat} (e : x = zi a) (i : ir a) (h0 : 0 ≤ a) (h1 : a < (N : Int)) : vp_in x N := by
  rw [vp_in_iff, e, zi_toInt i]; exact ⟨h0, h1⟩
theorem zrd {J : mJ} {c : Nat} {x : Int32} {a : Int} (e : x = zi a) (i : ir a) (h0 : 0 ≤ a) : zz J c x.toNatClampNeg = zi (J c a.toNat) := by rw [e, z_clamp i h0]; rfl
theorem zrf {J : mJ} {c k : Nat} : zz J c k = zi (J c k) := rfl
theorem zup {J : mJ} {c k : Nat} {x : Int32} {a : Int} (e : x = zi a) : up2 (zz J) c k x = zz (up2 J c k a) := by
  rw [e]; funext d q
  by_cases hd : d = c
  · subst hd
    by_cases hq : q = k
    · subst hq; simp [zz, up2, up1]
    · simp [zz, up2, up1, hq]
  · simp [zz, up2, hd]
theorem zupa {J : mJ} {c : Nat} {y x : Int32} {b a : Int} (f : y = zi b) (j : ir b) (h0 : 0 ≤ b) (e : x = zi a) : up2 (zz J) c y.toNatClampNeg x = zz (up2 J c b.toNat a) := by rw [f, z_clamp j h0]; exact zup e
theorem irm_up {J : mJ} {c k : Nat} {a : Int} (h : irm J) (i : ir a) : irm (up2 J c k a) := by
  intro d q
  by_cases hd : d = c
  · subst hd
    by_cases hq : q = k
    · subst hq; simp [up2, up1]; exact i
    · simp [up2, up1, hq]; exact h _ _
  · simp [up2, hd]; exact h _ _
def cpyZ (J : mJ) (a b sp dp n : Nat) : mJ := fun c => if c = b then va_cpy (J a) (J b) sp dp n else J c
theorem zcpy {J : mJ} {a b sp dp n : Nat} : cpy2 (zz J) a b sp dp n = zz (cpyZ J a b sp dp n) := by
  funext c k; simp only [cpy2, zz, cpyZ]; split
  · simp only [va_cpy]; split <;> rfl
  · rfl
theorem irm_cpy {J : mJ} {a b sp dp n : Nat} (h : irm J) : irm (cpyZ J a b sp dp n) := by
  intro c k; simp only [cpyZ]; split
  · simp only [va_cpy]; split
    · exact h _ _
    · exact h _ _
  · exact h c k
theorem z_len {N : Nat} : Int32.ofNat N = zi (N : Int) := by
  unfold zi
  apply Int32.toBitVec_inj.mp
  first | (simp; done) | (rw [Int32.toBitVec_ofNat', Int32.toBitVec_ofInt, BitVec.ofInt_natCast]) | (show BitVec.ofNat 32 N = BitVec.ofInt 32 (N : Int); exact (BitVec.ofInt_natCast 32 N).symm)
theorem z_num (x : Int32) : x = zi x.toInt := (zi_of x).symm
theorem zcl {x : Int32} {a : Int} (e : x = zi a) (i : ir a) (h : 0 ≤ a) : x.toNatClampNeg = a.toNat := by rw [e]; exact z_clamp i h
theorem lrd {L : mL} {c : Nat} {x : Int32} {a : Int} (e : x = zi a) (i : ir a) (h : 0 ≤ a) : L c x.toNatClampNeg = L c a.toNat := by rw [zcl e i h]
theorem lup {L : mL} {c : Nat} {x : Int32} {a : Int} {p q : Int64} (e : x = zi a) (i : ir a) (h : 0 ≤ a) (f : p = q) : up2 L c x.toNatClampNeg p = up2 L c a.toNat q := by rw [zcl e i h, f]
theorem z_nn {x : Int32} {a : Int} (e : x = zi a) (i : ir a) (h : 0 ≤ a) : ¬ x < 0 := fun q => absurd ((zlt e (rfl : (0 : Int32) = zi 0) i (by decide : ir 0)).mp q) (Int.not_lt.mpr h)
theorem z_sum {x y : Int32} {a b : Int} {N : Nat} (e : x = zi a) (i : ir a) (h : 0 ≤ a) (f : y = zi b) (j : ir b) (g : 0 ≤ b) (k : a.toNat + b.toNat ≤ N) : x.toNatClampNeg + y.toNatClampNeg ≤ N := by rw [zcl e i h, zcl f j g]; exact k
theorem z_cp {J : mJ} {p q : Nat} {x y z : Int32} {a b c : Int} (e : x = zi a) (i : ir a) (h : 0 ≤ a) (e2 : y = zi b) (i2 : ir b) (h2 : 0 ≤ b) (e3 : z = zi c) (i3 : ir c) (h3 : 0 ≤ c) : cpy2 (zz J) p q x.toNatClampNeg y.toNatClampNeg z.toNatClampNeg = zz (cpyZ J p q a.toNat b.toNat c.toNat) := by rw [zcl e i h, zcl e2 i2 h2, zcl e3 i3 h3]; exact zcpy
theorem z_fit {J : mJ} {p : Nat} {x z : Int32} {a c : Int} (e : x = zi a) (i : ir a) (h : 0 ≤ a) (e3 : z = zi c) (i3 : ir c) (h3 : 0 ≤ c) (k : ∀ q, q < c.toNat → fits .byte (.int (zi (J p (a.toNat + q)))) = true) : ∀ q, q < z.toNatClampNeg → fits .byte (.int (zz J p (x.toNatClampNeg + q))) = true := by rw [zcl e i h, zcl e3 i3 h3]; exact k
