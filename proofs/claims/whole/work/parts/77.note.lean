/-! what each flat noted -/
def bt (x : Int) (f : Nat) : Bool := x.toNat.testBit f
def oZ (x y : Int) : Int := ((x.toNat ||| y.toNat : Nat) : Int)
theorem p_hasZ {x : Int} (hx : 0 ≤ x ∧ x < 2147483648) {f : Nat} (hf : f < 32) {post' : Bool → Prop} (h : post' (bt x f)) : v_X11_has x (f : Int) post' := by
  obtain ⟨n, rfl⟩ : ∃ n : Nat, x = (n : Int) := ⟨x.toNat, by omega⟩
  unfold bt at h; rw [Int.toNat_natCast] at h
  exact p_X11_has (by omega) hf h
theorem bit1 {x : Int} (hx : 0 ≤ x ∧ x < 2147483648) {f : Nat} (hf : f < 32) : andZ (shrZ x (f : Int)) 1 = if bt x f = true then 1 else 0 := by
  obtain ⟨n, rfl⟩ : ∃ n : Nat, x = (n : Int) := ⟨x.toNat, by omega⟩
  have hlt : n / 2 ^ f < 2 ^ 31 := Nat.lt_of_le_of_lt (Nat.div_le_self _ _) (by omega)
  rw [shrZ_nat (by omega) hf, andZ_one hlt]
  unfold bt; rw [Int.toNat_natCast, testBit_div]
  by_cases c : n / 2 ^ f % 2 = 1
  · rw [c, decide_eq_true rfl, if_pos rfl]; rfl
  · rw [decide_eq_false c, if_neg Bool.false_ne_true]; omega
theorem bit1_iff {x : Int} (hx : 0 ≤ x ∧ x < 2147483648) {f : Nat} (hf : f < 32) : andZ (shrZ x (f : Int)) 1 = 1 ↔ bt x f = true := by
  rw [bit1 hx hf]; split <;> simp_all
theorem orZ_Z {x y : Int} (hx : 0 ≤ x ∧ x < 2147483648) (hy : 0 ≤ y ∧ y < 2147483648) : orZ x y = oZ x y := by
  obtain ⟨n, rfl⟩ : ∃ n : Nat, x = (n : Int) := ⟨x.toNat, by omega⟩
  obtain ⟨m, rfl⟩ : ∃ m : Nat, y = (m : Int) := ⟨y.toNat, by omega⟩
  exact orZ_nat (by omega) (by omega)
theorem oZ_lt {x y : Int} (hx : 0 ≤ x ∧ x < 64) (hy : 0 ≤ y ∧ y < 64) : 0 ≤ oZ x y ∧ oZ x y < 64 := by
  have := Nat.or_lt_two_pow (n := 6) (x := x.toNat) (y := y.toNat) (by omega) (by omega)
  unfold oZ; omega
theorem bt_oZ (x y : Int) (f : Nat) : bt (oZ x y) f = (bt x f || bt y f) := by
  unfold bt oZ; rw [Int.toNat_natCast, Nat.testBit_or]
theorem bt_zero (f : Nat) : bt 0 f = false := by unfold bt; exact Nat.zero_testBit f
/-- counting -/
def cntF (P : Nat → Bool) : Nat → Nat
  | 0 => 0
  | n + 1 => cntF P n + (if P n = true then 1 else 0)
theorem cntF_t {P : Nat → Bool} {n : Nat} (h : P n = true) : cntF P (n + 1) = cntF P n + 1 := by rw [cntF, if_pos h]
theorem cntF_f {P : Nat → Bool} {n : Nat} (h : P n = false) : cntF P (n + 1) = cntF P n := by rw [cntF, if_neg (by rw [h]; decide)]; rfl
theorem cntF_le (P : Nat → Bool) : ∀ n, cntF P n ≤ n
  | 0 => Nat.le_refl _
  | n + 1 => by have := cntF_le P n; rw [cntF]; split <;> omega
theorem cntF_mono (P : Nat → Bool) (i : Nat) : ∀ d, cntF P i ≤ cntF P (i + d)
  | 0 => Nat.le_refl _
  | d + 1 => by have := cntF_mono P i d; rw [← Nat.add_assoc, cntF]; omega
theorem cntF_cong {P Q : Nat → Bool} : ∀ n, (∀ k, k < n → P k = Q k) → cntF P n = cntF Q n
  | 0, _ => rfl
  | n + 1, h => by rw [cntF, cntF, cntF_cong n (fun k hk => h k (by omega)), h n (by omega)]
theorem cnt_step {P : Nat → Bool} {k : Nat} {ZZ : Int → Int → Prop} (hk : k < 100000) (ih : ZZ (cntF P (k + 1) : Nat) ((k + 1 : Nat) : Int)) : (P k = false → ir ((k : Int) + 1) ∧ ∀ y, y = (k : Int) + 1 → ZZ (cntF P k : Nat) y) ∧ (P k = true → ir (((cntF P k : Nat) : Int) + 1) ∧ ∀ y, y = ((cntF P k : Nat) : Int) + 1 → ir ((k : Int) + 1) ∧ ∀ y', y' = (k : Int) + 1 → ZZ y y') := by
  have hc := cntF_le P k
  refine ⟨fun c => ⟨⟨by omega, by omega⟩, ?_⟩, fun c => ⟨⟨by omega, by omega⟩, ?_⟩⟩
  · rintro _ rfl
    rw [cntF_f c] at ih; exact ih
  · rintro _ rfl
    refine ⟨⟨by omega, by omega⟩, ?_⟩
    rintro _ rfl
    rw [cntF_t c] at ih; exact ih
theorem cnt_stepR {P : Nat → Bool} {k : Nat} {ZZ : Int → Int → Prop} (hk : k < 100000) (ih : ZZ (cntF P (k + 1) : Nat) ((k + 1 : Nat) : Int)) : (P k = false → ir (((cntF P k : Nat) : Int) + 0) ∧ ∀ y, y = ((cntF P k : Nat) : Int) + 0 → ir ((k : Int) + 1) ∧ ∀ y', y' = (k : Int) + 1 → ZZ y y') ∧ (P k = true → ir (((cntF P k : Nat) : Int) + 1) ∧ ∀ y, y = ((cntF P k : Nat) : Int) + 1 → ir ((k : Int) + 1) ∧ ∀ y', y' = (k : Int) + 1 → ZZ y y') := by
  have hc := cntF_le P k
  refine ⟨fun c => ⟨⟨by omega, by omega⟩, ?_⟩, fun c => ⟨⟨by omega, by omega⟩, ?_⟩⟩
  · rintro _ rfl
    refine ⟨⟨by omega, by omega⟩, ?_⟩
    rintro _ rfl
    rw [cntF_f c] at ih; rw [Int.add_zero]; exact ih
  · rintro _ rfl
    refine ⟨⟨by omega, by omega⟩, ?_⟩
    rintro _ rfl
    rw [cntF_t c] at ih; exact ih
/-- the m-th that fits -/
def nthF (P : Nat → Bool) (m : Int) : Nat → Int
  | 0 => -1
  | n + 1 => if P n = true ∧ ((cntF P n : Nat) : Int) = m then (n : Int) else nthF P m n
theorem nthF_eq {P : Nat → Bool} {m : Int} {i : Nat} (h1 : P i = true) (h2 : ((cntF P i : Nat) : Int) = m) : ∀ n, i < n → nthF P m n = (i : Int)
  | 0, h => absurd h (Nat.not_lt_zero _)
  | n + 1, h => by
    by_cases hn : n = i
    · subst hn; rw [nthF, if_pos ⟨h1, h2⟩]
    · have h3 := cntF_mono P (i + 1) (n - (i + 1))
      rw [show i + 1 + (n - (i + 1)) = n by omega, cntF_t h1] at h3
      rw [nthF, if_neg (by omega)]; exact nthF_eq h1 h2 n (by omega)
theorem nthF_none {P : Nat → Bool} {m : Int} : ∀ n, ¬ (0 ≤ m ∧ m < ((cntF P n : Nat) : Int)) → nthF P m n = -1
  | 0, _ => rfl
  | n + 1, h => by
    have h3 := cntF_mono P n 1
    rw [nthF]
    split
    · next c => rw [cntF_t c.1] at h; omega
    · exact nthF_none n (by omega)
theorem nthF_some {P : Nat → Bool} {m : Int} : ∀ n, (0 ≤ m ∧ m < ((cntF P n : Nat) : Int)) → ∃ i, i < n ∧ P i = true ∧ ((cntF P i : Nat) : Int) = m
  | 0, h => by have : cntF P 0 = 0 := rfl; omega
  | n + 1, h => by
    by_cases hp : P n = true
    · rw [cntF_t hp] at h
      by_cases hm : ((cntF P n : Nat) : Int) = m
      · exact ⟨n, by omega, hp, hm⟩
      · obtain ⟨i, h1, h2⟩ := nthF_some (P := P) (m := m) n (by omega)
        exact ⟨i, by omega, h2⟩
    · rw [cntF_f (by simpa using hp)] at h
      obtain ⟨i, h1, h2⟩ := nthF_some (P := P) (m := m) n h
      exact ⟨i, by omega, h2⟩
/-- flat f notes tread k; the echo in it is a ghost's -/
def nB (T : Nat → Nat → Int) (f k : Nat) : Bool := bt (T 6 k) f || bt (T 7 k) f
def ghB (n : Nat) (T : Nat → Nat → Int) (f k : Nat) : Bool := bt (T 7 k) f && decide (lasF T n (T 0 (T 5 k).toNat) < T 2 k)
theorem bt7 {g : Nat → Int} {k f : Nat} (hk : k < (gRun g).1) (h : bt ((gRun g).2 7 k) f = true) : (gRun g).2 5 k ≠ -1 := by
  intro c
  rw [gRun_e7 hk c, bt_zero] at h; exact Bool.noConfusion h
theorem x_notedBy {J : mJ} {e h : Nat} {g : Nat → Int} (hv : HV g) (hO : EvO J e g) {k : Nat} (hk : k < (gRun g).1) {post' : Int → Prop} (hq : post' (oZ ((gRun g).2 6 k) ((gRun g).2 7 k))) : v_X2_notedBy J e h (k : Int) post' := by
  have hn := gRun_le hv
  obtain ⟨_, _, _, _, _, h5, h6, h7, _⟩ := gRun_TV hv k hk
  refine ⟨⟨by omega, by omega⟩, ⟨by omega, by omega⟩, lf1 hq ?_⟩
  rw [Int.toNat_natCast, show J (e + 7) k = _ from hO.1.2.1 6 k (by decide) hk, show J (e + 8) k = _ from hO.1.2.1 7 k (by decide) hk]
  exact orZ_Z ⟨by omega, by omega⟩ ⟨by omega, by omega⟩
theorem x_isNote {J : mJ} {e h : Nat} {g : Nat → Int} (hv : HV g) (hO : EvO J e g) {k f : Nat} (hk : k < (gRun g).1) (hf : f < 6) {post' : Bool → Prop} (hq : post' (nB (gRun g).2 f k)) : v_X2_notedBy J e h (k : Int) (fun r => v_X11_has r (f : Int) post') := by
  obtain ⟨_, _, _, _, _, h5, h6, h7, _⟩ := gRun_TV hv k hk
  have hl := oZ_lt h6 h7
  exact x_notedBy hv hO hk (p_hasZ ⟨by omega, by omega⟩ (by omega) (lf1 hq (bt_oZ _ _ _)))
theorem x_isGhost {J : mJ} {e h : Nat} {g : Nat → Int} (hv : HV g) (hO : EvO J e g) {k f : Nat} (hk : k < (gRun g).1) (hf : f < 6) {post' : Bool → Prop} (hq : post' (ghB (gRun g).1 (gRun g).2 f k)) : v_X2_isGhost J e h (k : Int) (f : Int) post' := by
  have hn := gRun_le hv
  obtain ⟨_, _, _, _, _, h5, h6, h7, _⟩ := gRun_TV hv k hk
  unfold v_X2_isGhost
  rw [Int.toNat_natCast, show J (e + 8) k = _ from hO.1.2.1 7 k (by decide) hk, show J (e + 6) k = _ from hO.1.2.1 5 k (by decide) hk, show J (e + 3) k = _ from hO.1.2.1 2 k (by decide) hk]
  refine ⟨⟨by omega, by omega⟩, p_hasZ ⟨by omega, by omega⟩ (by omega) ⟨fun c => ?_, fun c => ?_⟩⟩
  · unfold ghB at hq; rw [c, Bool.false_and] at hq; exact hq
  · have h5' := bt7 hk c
    unfold ghB at hq; rw [c, Bool.true_and] at hq
    have hq := pb hq
    obtain ⟨i, hi⟩ : ∃ i : Nat, (gRun g).2 5 k = (i : Int) := ⟨((gRun g).2 5 k).toNat, by omega⟩
    rw [hi] at hq h5 ⊢
    simp only [Int.toNat_natCast] at hq ⊢
    have hi2 : i < (gRun g).1 := by omega
    obtain ⟨h0, _⟩ := gRun_TV hv i hi2
    have h36 := hv.2.2.2.1
    obtain ⟨p, hp⟩ : ∃ p : Nat, (gRun g).2 0 i = (p : Int) := ⟨((gRun g).2 0 i).toNat, by omega⟩
    rw [show J (e + 1) i = _ from hO.1.2.1 0 i (by decide) hi2, hp]
    rw [hp] at hq h0
    simp only [Int.toNat_natCast]
    rw [hO.2.2.2 p (by omega)]
    refine ⟨⟨by omega, by omega⟩, fun c2 => by omega, fun _ => ⟨⟨by omega, by omega⟩, ⟨by omega, by omega⟩, ⟨by omega, by omega⟩, ⟨by omega, by omega⟩, ?_⟩⟩
    exact ⟨fun c2 => hq.2 (by omega), fun c2 => hq.1 (by omega)⟩
theorem x_noteCount {J : mJ} {e h : Nat} {g : Nat → Int} (hv : HV g) (hO : EvO J e g) {f : Nat} (hf : f < 6) {post' : Int → Prop} (hq : post' ((cntF (nB (gRun g).2 f) (gRun g).1 : Nat) : Int)) : v_X2_noteCount J e h (f : Int) post' := by
  unfold v_X2_noteCount v_X2_noteCount_4
  intro ZZ hZ
  have hn := gRun_le hv
  refine lpN (S := fun k => ZZ ((cntF (nB (gRun g).2 f) k : Nat) : Int) (k : Int)) (N := (gRun g).1) (fun k hk ih => hZ _ _ ?_) (hZ _ _ ⟨fun _ => hq, fun c => absurd (Int.le_of_eq hO.1.1) c⟩)
  rw [hO.1.1]
  exact ⟨fun c => by omega, fun _ => x_isNote hv hO hk hf (cnt_step (by omega) ih)⟩
theorem x_ghostCount {J : mJ} {e h : Nat} {g : Nat → Int} (hv : HV g) (hO : EvO J e g) {f : Nat} (hf : f < 6) {post' : Int → Prop} (hq : post' ((cntF (ghB (gRun g).1 (gRun g).2 f) (gRun g).1 : Nat) : Int)) : v_X2_ghostCount J e h (f : Int) post' := by
  unfold v_X2_ghostCount v_X2_ghostCount_4
  intro ZZ hZ
  have hn := gRun_le hv
  refine lpN (S := fun k => ZZ ((cntF (ghB (gRun g).1 (gRun g).2 f) k : Nat) : Int) (k : Int)) (N := (gRun g).1) (fun k hk ih => hZ _ _ ?_) (hZ _ _ ⟨fun _ => hq, fun c => absurd (Int.le_of_eq hO.1.1) c⟩)
  rw [hO.1.1]
  exact ⟨fun c => by omega, fun _ => x_isGhost hv hO hk hf (cnt_step (by omega) ih)⟩
theorem x_noteNumber {J : mJ} {e h : Nat} {g : Nat → Int} (hv : HV g) (hO : EvO J e g) {f : Nat} (hf : f < 6) {m : Int} {post' : Int → Prop} (hq : post' (nthF (nB (gRun g).2 f) m (gRun g).1)) : v_X2_noteNumber J e h (f : Int) m post' := by
  unfold v_X2_noteNumber v_X2_noteNumber_5
  intro ZZ hZ
  have hn := gRun_le hv
  refine lpN (S := fun k => nthF (nB (gRun g).2 f) m k = -1 → ZZ ((cntF (nB (gRun g).2 f) k : Nat) : Int) (k : Int)) (N := (gRun g).1) (fun k hk ih hm => hZ _ _ ?_) (fun hm => hZ _ _ ⟨fun _ => by rw [hm] at hq; exact hq, fun c => absurd (Int.le_of_eq hO.1.1) c⟩) rfl
  rw [hO.1.1]
  have hc := cntF_le (nB (gRun g).2 f) k
  refine ⟨fun c => by omega, fun _ => x_isNote hv hO hk hf ⟨fun c => ⟨⟨by omega, by omega⟩, ?_⟩, fun c => ⟨fun c2 => ⟨⟨by omega, by omega⟩, ?_⟩, fun c2 => ?_⟩⟩⟩
  · rintro _ rfl
    have ih := ih (by rw [nthF, if_neg (fun c3 => by rw [c] at c3; exact Bool.noConfusion c3.1)]; exact hm)
    rw [cntF_f c] at ih; exact ih
  · rintro _ rfl
    refine ⟨⟨by omega, by omega⟩, ?_⟩
    rintro _ rfl
    have ih := ih (by rw [nthF, if_neg (fun c3 => c2 c3.2)]; exact hm)
    rw [cntF_t c] at ih; exact ih
  · rw [nthF_eq c c2 _ hk] at hq; exact hq
/-- the reference's -/
theorem m_isNote {J : mJ} {n : Nat} {g : Nat → Int} {T : Nat → Nat → Int} (hV : TV g n T) (hR : MR J n T) (hn : n ≤ 600) {k f : Nat} (hk : k < n) (hf : f < 6) {post' : Bool → Prop} (hq : post' (nB T f k)) : v_X12_isNote J 128 (f : Int) (k : Int) post' := by
  obtain ⟨_, _, _, _, _, h5, h6, h7, _⟩ := hV k hk
  unfold v_X12_isNote
  rw [Int.toNat_natCast, show J (128 + 10) k = _ from hR.2 6 k (by decide) hk, show J (128 + 11) k = _ from hR.2 7 k (by decide) hk, orZ_Z ⟨by omega, by omega⟩ ⟨by omega, by omega⟩]
  have hl := oZ_lt h6 h7
  have hi := bit1_iff (x := oZ (T 6 k) (T 7 k)) (f := f) ⟨by omega, by omega⟩ (by omega)
  rw [bt_oZ] at hi
  unfold nB at hq
  refine ⟨⟨by omega, by omega⟩, ⟨by omega, by omega⟩, fun c => ?_, fun c => ?_⟩
  · rw [hi] at c; rw [Bool.eq_false_iff.mpr c] at hq; exact hq
  · rw [hi] at c; rw [c] at hq; exact hq
theorem m_notesOf {J : mJ} {n : Nat} {g : Nat → Int} {T : Nat → Nat → Int} (hV : TV g n T) (hR : MR J n T) (hn : n ≤ 600) {f : Nat} (hf : f < 6) {post' : Int → Prop} (hq : post' ((cntF (nB T f) n : Nat) : Int)) : v_X12_notesOf J 128 (f : Int) post' := by
  unfold v_X12_notesOf v_X12_notesOf_4
  intro ZZ hZ
  refine lpN (S := fun k => ZZ ((cntF (nB T f) k : Nat) : Int) (k : Int)) (N := n) (fun k hk ih => hZ _ _ ?_) (hZ _ _ ⟨fun _ => hq, fun c => absurd (Int.le_of_eq hR.1) c⟩)
  rw [hR.1]
  exact ⟨fun c => by omega, fun _ => m_isNote hV hR hn hk hf (cnt_stepR (by omega) ih)⟩
theorem n_isGhost {J : mJ} {g : Nat → Int} (hv : HV g) (hO : MP J g) {k f : Nat} (hk : k < (gRun g).1) (hf : f < 6) {post' : Bool → Prop} (hq : post' (ghB (gRun g).1 (gRun g).2 f k)) : v_X12_isGhost J 128 (f : Int) (k : Int) post' := by
  have hn := gRun_le hv
  obtain ⟨_, _, _, _, _, h5, h6, h7, _⟩ := gRun_TV hv k hk
  unfold v_X12_isGhost
  rw [Int.toNat_natCast, show J (128 + 11) k = _ from hO.1.2 7 k (by decide) hk, show J (128 + 9) k = _ from hO.1.2 5 k (by decide) hk, show J (128 + 6) k = _ from hO.1.2 2 k (by decide) hk]
  have hi := bit1_iff (x := (gRun g).2 7 k) (f := f) ⟨by omega, by omega⟩ (by omega)
  refine ⟨⟨by omega, by omega⟩, fun c => ?_, fun c => ?_⟩
  · rw [hi] at c
    unfold ghB at hq; rw [Bool.eq_false_iff.mpr c, Bool.false_and] at hq; exact hq
  · rw [hi] at c
    have h5' := bt7 hk c
    unfold ghB at hq; rw [c, Bool.true_and] at hq
    have hq := pb hq
    obtain ⟨i, hi⟩ : ∃ i : Nat, (gRun g).2 5 k = (i : Int) := ⟨((gRun g).2 5 k).toNat, by omega⟩
    rw [hi] at hq h5 ⊢
    simp only [Int.toNat_natCast] at hq ⊢
    have hi2 : i < (gRun g).1 := by omega
    obtain ⟨h0, _⟩ := gRun_TV hv i hi2
    have h36 := hv.2.2.2.1
    obtain ⟨p, hp⟩ : ∃ p : Nat, (gRun g).2 0 i = (p : Int) := ⟨((gRun g).2 0 i).toNat, by omega⟩
    rw [show J (128 + 4) i = _ from hO.1.2 0 i (by decide) hi2, hp]
    rw [hp] at hq h0
    simp only [Int.toNat_natCast]
    rw [show J (128 + 15) p = _ from hO.2.2 p (by omega)]
    refine ⟨⟨by omega, by omega⟩, ⟨by omega, by omega⟩, ⟨by omega, by omega⟩, ⟨by omega, by omega⟩, ?_⟩
    exact ⟨fun c2 => hq.2 (by omega), fun c2 => hq.1 (by omega)⟩
theorem n_ghostsOf {J : mJ} {g : Nat → Int} (hv : HV g) (hO : MP J g) {f : Nat} (hf : f < 6) {post' : Int → Prop} (hq : post' ((cntF (ghB (gRun g).1 (gRun g).2 f) (gRun g).1 : Nat) : Int)) : v_X12_ghostsOf J 128 (f : Int) post' := by
  unfold v_X12_ghostsOf v_X12_ghostsOf_4
  intro ZZ hZ
  have hn := gRun_le hv
  refine lpN (S := fun k => ZZ ((cntF (ghB (gRun g).1 (gRun g).2 f) k : Nat) : Int) (k : Int)) (N := (gRun g).1) (fun k hk ih => hZ _ _ ?_) (hZ _ _ ⟨fun _ => hq, fun c => absurd (Int.le_of_eq hO.1.1) c⟩)
  rw [hO.1.1]
  exact ⟨fun c => by omega, fun _ => n_isGhost hv hO hk hf (cnt_stepR (by omega) ih)⟩
def cNote (n : Nat) (T : Nat → Nat → Int) (f i : Nat) (w : Int) : Int := if w = 0 then (i : Int) else if w = 1 then (if bt (T 6 i) f = true then T 3 i else -1) else if w = 2 then (if bt (T 7 i) f = true then T 3 (T 5 i).toNat else -1) else (if ghB n T f i = true then 1 else 0)
def bNote (n : Nat) (T : Nat → Nat → Int) (f : Nat) (k w : Int) : Int := if k = -1 then (if w = 0 then ((cntF (nB T f) n : Nat) : Int) else if w = 1 then ((cntF (ghB n T f) n : Nat) : Int) else -2) else if nthF (nB T f) k n = -1 ∨ ¬ (0 ≤ w ∧ w ≤ 3) then -2 else cNote n T f (nthF (nB T f) k n).toNat w
def aNote (A : Nat → Int) (a1 a2 a3 a4 : Int) : Int := if (0 ≤ a1 ∧ a1 < A 0) ∧ 0 ≤ a2 ∧ a2 < gH A a1.toNat 2 then bNote (gRun (gH A a1.toNat)).1 (gRun (gH A a1.toNat)).2 a2.toNat a3 a4 else -2
theorem nthF_rng (P : Nat → Bool) (m : Int) : ∀ n, -1 ≤ nthF P m n ∧ nthF P m n < (n : Int)
  | 0 => ⟨Int.le_refl _, by show (-1 : Int) < ((0 : Nat) : Int); omega⟩
  | n + 1 => by have := nthF_rng P m n; rw [nthF]; split <;> omega
theorem x_note {J : mJ} {a1 a2 a3 a4 : Int} (hI : TI J 1 (J 129)) (hE : InvE J) {post' : Int → mJ → Prop} (hq : ∀ J1, XF J J1 → InvE J1 → post' (aNote (J 129) a1 a2 a3 a4) J1) : v_X11_note J a1 a2 a3 a4 post' := by
  unfold v_X11_note
  refine x_eveningAt hI hE (fun c => ⟨fun _ => lf (hq J XF_refl hE) ?_, fun q c2 => (by cases c2)⟩) (fun k J1 ek hk hk2 hv hr hO hX hE1 => ⟨fun c2 => (by cases c2), fun q eq => ?_⟩)
  · unfold aNote; rw [if_neg (fun c2 => c c2.1)]
  · cases eq
    have h := hq J1 (XE_XF hX) hE1
    subst ek
    unfold aNote at h
    rw [Int.toNat_natCast] at h
    rw [hE_k]
    generalize gH (J 129) k = g at hv hr hO h
    refine x_hasF hv hr (fun c => ⟨fun c2 => Bool.noConfusion c2, fun _ => ?_⟩) (fun f ef hf hf6 => ⟨fun _ => ?_, fun c2 => Bool.noConfusion c2⟩)
    · rw [if_neg (fun c2 => c c2.2)] at h; exact h
    · subst ef
      rw [if_pos ⟨⟨by omega, hk⟩, by omega, hf⟩, Int.toNat_natCast] at h
      have hn := gRun_le hv
      refine ⟨fun c => x_noteNumber hv hO hf6 ?_, fun c => ⟨fun c2 => ⟨fun c3 => lf h ?_, fun c3 => x_ghostCount hv hO hf6 (lf h ?_)⟩, fun c2 => x_noteCount hv hO hf6 (lf h ?_)⟩⟩
      · unfold bNote at h; rw [if_neg c] at h
        have hr := nthF_rng (nB (gRun g).2 f) a3 (gRun g).1
        generalize nthF (nB (gRun g).2 f) a3 (gRun g).1 = r at h hr
        refine ⟨fun c1 => ?_, fun c1 => ?_⟩
        · obtain ⟨i, rfl⟩ : ∃ i : Nat, r = (i : Int) := ⟨r.toNat, by omega⟩
          simp only [Int.toNat_natCast] at h ⊢
          have hi : i < (gRun g).1 := by omega
          obtain ⟨_, _, _, _, _, h5, h6, h7, _⟩ := gRun_TV hv i hi
          by_cases hw : 0 ≤ a4 ∧ a4 ≤ 3
          · rw [if_neg (by omega)] at h
            refine ⟨fun e => lf h ?_, fun e => ⟨⟨by omega, by omega⟩, ?_⟩, fun e => ?_, fun e => ?_, fun e0 e1 e2 e3 => by omega⟩
            · unfold cNote; rw [if_pos e]
            · rw [show J1 (94 + 17 * k + 7) i = _ from hO.1.2.1 6 i (by decide) hi, show J1 (94 + 17 * k + 4) i = _ from hO.1.2.1 3 i (by decide) hi]
              unfold cNote at h; rw [if_neg (by omega), if_pos e] at h
              exact p_hasZ ⟨by omega, by omega⟩ (by omega) ⟨fun c4 => by rw [if_neg (by rw [c4]; decide)] at h; exact h, fun c4 => by rw [if_pos c4] at h; exact ⟨⟨by omega, by omega⟩, h⟩⟩
            · unfold cNote at h; rw [if_neg (by omega), if_neg (by omega), if_pos e] at h
              unfold v_X2_echoShoe
              simp only [Int.toNat_natCast]
              rw [show J1 (94 + 17 * k + 8) i = _ from hO.1.2.1 7 i (by decide) hi, show J1 (94 + 17 * k + 6) i = _ from hO.1.2.1 5 i (by decide) hi]
              refine ⟨⟨by omega, by omega⟩, p_hasZ ⟨by omega, by omega⟩ (by omega) ⟨fun c4 => by rw [if_neg (by rw [c4]; decide)] at h; exact h, fun c4 => ⟨⟨by omega, by omega⟩, fun c5 => absurd c5 (bt7 hi c4), fun c5 => ⟨⟨by omega, by omega⟩, ⟨by omega, by omega⟩, ?_⟩⟩⟩⟩
              rw [if_pos c4] at h
              exact lf h (hO.1.2.1 3 _ (by decide) (by omega))
            · unfold cNote at h; rw [if_neg (by omega), if_neg (by omega), if_neg (by omega)] at h
              exact x_isGhost hv hO hi hf6 ⟨fun c4 => by rw [if_neg (by rw [c4]; decide)] at h; exact h, fun c4 => by rw [if_pos c4] at h; exact h⟩
          · rw [if_pos (Or.inr hw)] at h
            exact ⟨fun e => by omega, fun e => by omega, fun e => by omega, fun e => by omega, fun _ _ _ _ => h⟩
        · rw [if_pos (Or.inl c1)] at h; exact h
      · unfold bNote; rw [if_pos c, if_neg c2, if_neg c3]
      · unfold bNote; rw [if_pos c, if_neg c2, if_pos c3]
      · unfold bNote; rw [if_pos c, if_pos c2]
theorem m_note {J : mJ} {a1 a2 a3 a4 : Int} {t : Nat} (hI : TI J t (J 129)) (hU : UV (J 128)) {post' : Int → mJ → Prop} (hq : ∀ J1, MF J J1 → post' (aNote (J 129) a1 a2 a3 a4) J1) : v_X12_note J 128 a1 a2 a3 a4 post' := by
  unfold v_X12_note
  refine n_isHouse hI hU (fun c => ⟨fun _ => lf (hq J (MF_refl hU)) ?_, fun c2 => Bool.noConfusion c2⟩) (fun k J1 ek hk hk2 hM hp f1 f2 => ⟨fun c2 => Bool.noConfusion c2, fun _ => ?_⟩)
  · unfold aNote; rw [if_neg (fun c2 => c c2.1)]
  · refine n_isFlat hM (fun c => ⟨fun c2 => Bool.noConfusion c2, fun _ => lf (hq J1 (MF_one f1 (UV_of hM))) ?_⟩) (fun f ef hf hf6 => ⟨fun _ => n_runs hM hp (fun J2 hR hM2 hp2 f3 f4 => ?_), fun c2 => Bool.noConfusion c2⟩)
    · subst ek; unfold aNote; rw [Int.toNat_natCast, if_neg (fun c2 => c c2.2)]
    · have h := hq J2 (MF_run f1 f3 (UV_of hM2))
      subst ek; subst ef
      have hv := hM.2.2.2.1
      unfold aNote at h
      rw [Int.toNat_natCast, if_pos ⟨⟨by omega, hk⟩, by omega, hf⟩, Int.toNat_natCast] at h
      generalize gH (J 129) k = g at hv hR hM2 h
      have hn := gRun_le hv
      refine ⟨fun c => m_notesOf (gRun_TV hv) hR.1 hn hf6 ?_, fun c => ⟨fun c2 => ⟨fun c3 => lf h ?_, fun c3 => n_ghostsOf hv hR hf6 (lf h ?_)⟩, fun c2 => m_notesOf (gRun_TV hv) hR.1 hn hf6 (lf h ?_)⟩⟩
      · have hcl := cntF_le (nB (gRun g).2 f) (gRun g).1
        unfold bNote at h; rw [if_neg c] at h
        refine ⟨⟨by omega, by omega⟩, n_isIn (fun cb => ⟨fun _ => ?_, fun c2 => Bool.noConfusion c2⟩) (fun cb => ⟨fun c2 => Bool.noConfusion c2, fun _ => n_isIn (fun cw => ⟨fun c2 => Bool.noConfusion c2, fun _ => ?_⟩) (fun cw => ⟨fun _ => ?_, fun c2 => Bool.noConfusion c2⟩)⟩)⟩
        · rw [if_pos (Or.inl (nthF_none _ (by omega)))] at h; exact h
        · rw [if_pos (Or.inr cw)] at h; exact h
        · obtain ⟨i, hi, hP, hc⟩ := nthF_some (P := nB (gRun g).2 f) (m := a3) (gRun g).1 (by omega)
          rw [nthF_eq hP hc _ hi, Int.toNat_natCast, if_neg (by omega)] at h
          obtain ⟨_, _, _, _, _, h5, h6, h7, _⟩ := gRun_TV hv i hi
          unfold v_X12_note_92
          intro ZZ hZ
          have key : ∀ v : Int, v = a3 - ((cntF (nB (gRun g).2 f) 0 : Nat) : Int) → ZZ J2 v ((0 : Nat) : Int) := by
            refine lpN (S := fun t => ∀ v : Int, v = a3 - ((cntF (nB (gRun g).2 f) t : Nat) : Int) → ZZ J2 v (t : Int)) (N := i) (fun t ht ih v ev => hZ _ _ _ ?_) (fun v ev => hZ _ _ _ ?_)
            · have hct := cntF_le (nB (gRun g).2 f) t
              have hm := cntF_mono (nB (gRun g).2 f) (t + 1) (i - (t + 1))
              rw [show t + 1 + (i - (t + 1)) = i by omega] at hm
              have nx : v_X12_note_107 128 (k : Int) (f : Int) a3 a4 post' ZZ J2 v (t : Int) := by
                unfold v_X12_note_107
                refine m_isNote (gRun_TV hv) hR.1 hn (by omega) hf6 ⟨fun c4 => ⟨⟨by omega, by omega⟩, ?_⟩, fun c4 => ⟨⟨by omega, by omega⟩, ?_⟩⟩
                · rintro _ rfl
                  refine ⟨⟨by omega, by omega⟩, ?_⟩
                  rintro _ rfl
                  rw [cntF_f c4] at ih
                  exact ih _ (by omega)
                · rintro _ rfl
                  refine ⟨⟨by omega, by omega⟩, ?_⟩
                  rintro _ rfl
                  rw [cntF_t c4] at ih
                  exact ih _ (by omega)
              refine m_isNote (gRun_TV hv) hR.1 hn (by omega) hf6 ⟨fun _ => nx, fun c4 => ⟨fun c5 => ?_, fun _ => nx⟩⟩
              rw [cntF_t c4] at hm; omega
            · refine m_isNote (gRun_TV hv) hR.1 hn hi hf6 ⟨fun c4 => by rw [hP] at c4; exact Bool.noConfusion c4, fun _ => ⟨fun _ => ?_, fun c5 => by omega⟩⟩
              unfold v_X12_note_133
              simp only [Int.toNat_natCast]
              rw [show J2 (128 + 11) i = _ from hR.1.2 7 i (by decide) hi, show J2 (128 + 9) i = _ from hR.1.2 5 i (by decide) hi, show J2 (128 + 10) i = _ from hR.1.2 6 i (by decide) hi, show J2 (128 + 7) i = _ from hR.1.2 3 i (by decide) hi]
              have b6 := bit1_iff (x := (gRun g).2 6 i) (f := f) ⟨by omega, by omega⟩ (by omega)
              have b7 := bit1_iff (x := (gRun g).2 7 i) (f := f) ⟨by omega, by omega⟩ (by omega)
              rw [b6, b7]
              unfold cNote at h
              refine ⟨fun e0 => ⟨fun e1 => ⟨fun e2 => n_isGhost hv hR hi hf6 ⟨fun c4 => ?_, fun c4 => ?_⟩, fun e2 => ⟨⟨by omega, by omega⟩, fun c4 => ?_, fun c4 => ⟨⟨by omega, by omega⟩, ?_, ?_⟩⟩⟩, fun e1 => ⟨⟨by omega, by omega⟩, fun c4 => ?_, fun c4 => ⟨⟨by omega, by omega⟩, ?_⟩⟩⟩, fun e0 => ?_⟩
              · rw [if_neg e0, if_neg e1, if_neg e2, if_neg (by rw [c4]; decide)] at h; exact h
              · rw [if_neg e0, if_neg e1, if_neg e2, if_pos c4] at h; exact h
              · rw [if_neg e0, if_neg e1, if_pos e2, if_neg c4] at h; exact h
              · have := bt7 hi c4; omega
              · have := bt7 hi c4
                rw [if_neg e0, if_neg e1, if_pos e2, if_pos c4] at h; exact lf h (hR.1.2 3 _ (by decide) (by omega))
              · rw [if_neg e0, if_pos e1, if_neg c4] at h; exact h
              · rw [if_neg e0, if_pos e1, if_pos c4] at h; exact h
              · rw [if_pos e0] at h; exact h
          exact key a3 (by show a3 = a3 - ((0 : Nat) : Int); omega)
      · unfold bNote; rw [if_pos c, if_neg c2, if_neg c3]
      · unfold bNote; rw [if_pos c, if_neg c2, if_pos c3]
      · unfold bNote; rw [if_pos c, if_pos c2]
