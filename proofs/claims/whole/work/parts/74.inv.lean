/-! what is told, on both sides; the evening asked for -/
/-- a loop that counts up -/
theorem lpN {S : Nat → Prop} {N : Nat} (hs : ∀ k, k < N → S (k + 1) → S k) (he : S N) : S 0 := by
  have key : ∀ d k, k + d = N → S k := by
    intro d
    induction d with
    | zero => intro k hk; rw [show k = N by omega]; exact he
    | succ d ih => intro k hk; exact hs k (by omega) (ih (k + 1) (by omega))
  exact key N 0 (Nat.zero_add _)
def gH (A : Nat → Int) (k : Nat) : Nat → Int := fun j => if j < 149 then A (610 + 149 * k + j) else 0
theorem gH_e {A A1 : Nat → Int} {k : Nat} (h : ∀ j, j < 149 → A1 (610 + 149 * k + j) = A (610 + 149 * k + j)) : gH A1 k = gH A k := by
  funext j
  unfold gH
  by_cases c : j < 149
  · rw [if_pos c, if_pos c]; exact h j c
  · rw [if_neg c, if_neg c]
theorem gH_r {A : Nat → Int} {k j : Nat} (h : j < 149) : gH A k j = A (610 + 149 * k + j) := if_pos h
def rH (A : Nat → Int) (k : Nat) : Nat → Int := fun j => A (908 + 41 * k + j)
/-- sounds that can be; the class's reading at o tells the same -/
def RdV (r : Nat → Int) : Prop := (0 ≤ r 0 ∧ r 0 ≤ 10) ∧ ∀ k : Nat, (k : Int) < r 0 → (0 ≤ r (1 + 4 * k) ∧ r (1 + 4 * k) ≤ 5) ∧ (0 ≤ r (2 + 4 * k) ∧ r (2 + 4 * k) ≤ 99) ∧ (0 ≤ r (3 + 4 * k) ∧ r (3 + 4 * k) ≤ 9) ∧ (-1 ≤ r (4 + 4 * k) ∧ r (4 + 4 * k) ≤ 9)
def RdR (J : mJ) (o : Nat) (r : Nat → Int) : Prop := J o 0 = r 0 ∧ ∀ k : Nat, (k : Int) < r 0 → J (o + 1) k = r (1 + 4 * k) ∧ J (o + 2) k = r (2 + 4 * k) ∧ J (o + 3) k = r (3 + 4 * k) ∧ J (o + 4) k = r (4 + 4 * k)
def sb (x : Int) : Int := if x < 128 then x else x - 256
/-- the Told at t tells what the row A tells -/
def TI (J : mJ) (t : Nat) (A : Nat → Int) : Prop := (J t 4 = A 0 ∧ J t 5 = A 1 ∧ J t 1 = A 2 ∧ J t 2 = A 3 ∧ J t 3 = A 4) ∧ (0 ≤ A 0 ∧ A 0 ≤ 2) ∧ (0 ≤ A 1 ∧ A 1 ≤ 2) ∧ (0 ≤ A 2 ∧ A 2 ≤ 600) ∧ (∀ i : Nat, i < 600 → (0 ≤ A (10 + i) ∧ A (10 + i) ≤ 255) ∧ J (t + 1) i = sb (A (10 + i))) ∧ (∀ k : Nat, (k : Int) < A 0 → HV (gH A k) ∧ HR J (t + 4 + 19 * k) (gH A k)) ∧ (∀ k : Nat, (k : Int) < A 1 → RdV (rH A k) ∧ RdR J (t + 18 + 19 * k) (rH A k))
theorem RdR_frame {J J1 : mJ} {o : Nat} {r : Nat → Int} (h : ∀ k, k < 5 → J1 (o + k) = J (o + k)) (hr : RdR J o r) : RdR J1 o r := by
  have h0 : J1 o = J o := h 0 (by decide)
  unfold RdR; rw [h0, h 1 (by decide), h 2 (by decide), h 3 (by decide), h 4 (by decide)]; exact hr
theorem TI_frame {J J1 : mJ} {t : Nat} {A : Nat → Int} (h : ∀ k, k < 42 → J1 (t + k) = J (t + k)) (hr : TI J t A) : TI J1 t A := by
  obtain ⟨a1, a2, a3, a4, a5, a6, a7⟩ := hr
  have h0 : J1 t = J t := h 0 (by decide)
  refine ⟨by rw [h0]; exact a1, a2, a3, a4, fun i hi => by rw [h 1 (by decide)]; exact a5 i hi, fun k hk => ⟨(a6 k hk).1, HR_frame (fun q hq => ?_) (a6 k hk).2⟩, fun k hk => ⟨(a7 k hk).1, RdR_frame (fun q hq => ?_) (a7 k hk).2⟩⟩
  · have := h (4 + 19 * k + q) (by omega)
    rw [show t + 4 + 19 * k + q = t + (4 + 19 * k + q) by omega]; exact this
  · have := h (18 + 19 * k + q) (by omega)
    rw [show t + 18 + 19 * k + q = t + (18 + 19 * k + q) by omega]; exact this
/-- the evenings that are fresh are those of their houses -/
def InvE (J : mJ) : Prop := ∀ k : Nat, k < 2 → ¬ J (94 + 17 * k) 1 = 0 → (k : Int) < J 129 0 → EvO J (94 + 17 * k) (gH (J 129) k)
theorem EvO_frame {J J1 : mJ} {e : Nat} {g : Nat → Int} (h : ∀ k, k < 17 → J1 (e + k) = J (e + k)) (hr : EvO J e g) : EvO J1 e g := by
  obtain ⟨⟨a1, a2, a3⟩, a4, a5, a6⟩ := hr
  have h0 : J1 e = J e := h 0 (by decide)
  refine ⟨⟨by rw [h0]; exact a1, fun j k hj hk => ?_, fun s hs => by rw [h 14 (by decide)]; exact a3 s hs⟩, EarT_frame (h 12 (by decide)) a4, fun p t hp ht => by rw [h 13 (by decide)]; exact a5 p t hp ht, fun p hp => by rw [h 10 (by decide)]; exact a6 p hp⟩
  have := h (1 + j) (by omega)
  rw [show e + 1 + j = e + (1 + j) by omega, this, show e + (1 + j) = e + 1 + j by omega]; exact a2 j k hj hk
theorem hE_k (k : Nat) : hE (94 + 17 * k) = 5 + 19 * k := by unfold hE; omega
theorem x_houseAt {J : mJ} {a1 : Int} {A : Nat → Int} (hI : TI J 1 A) {post' : Option Nat → Prop} (h0 : ¬ (0 ≤ a1 ∧ a1 < A 0) → post' none) (h1 : ∀ k : Nat, a1 = (k : Int) → (k : Int) < A 0 → k < 2 → HV (gH A k) → HR J (5 + 19 * k) (gH A k) → post' (some (5 + 19 * k))) : v_X11_houseAt J a1 post' := by
  unfold v_X11_houseAt
  rw [hI.1.1]
  refine ⟨fun c => h0 (by omega), fun c => ⟨fun c2 => h0 (by omega), fun c2 => ⟨?_, ?_⟩⟩⟩
  · have := hI.2.1; exact ⟨by omega, by omega⟩
  · have := hI.2.1
    obtain ⟨k, rfl⟩ : ∃ k : Nat, a1 = (k : Int) := ⟨a1.toNat, by omega⟩
    rw [Int.toNat_natCast]
    have h := hI.2.2.2.2.2.1 k (by omega)
    exact h1 k rfl (by omega) (by omega) h.1 (by have := h.2; rw [show 1 + 4 + 19 * k = 5 + 19 * k by omega] at this; exact this)
theorem x_readingAt {J : mJ} {a1 : Int} {A : Nat → Int} (hI : TI J 1 A) {post' : Option Nat → Prop} (h0 : ¬ (0 ≤ a1 ∧ a1 < A 1) → post' none) (h1 : ∀ k : Nat, a1 = (k : Int) → (k : Int) < A 1 → k < 2 → RdV (rH A k) → RdR J (19 + 19 * k) (rH A k) → post' (some (19 + 19 * k))) : v_X11_readingAt J a1 post' := by
  unfold v_X11_readingAt
  rw [hI.1.2.1]
  refine ⟨fun c => h0 (by omega), fun c => ⟨fun c2 => h0 (by omega), fun c2 => ⟨?_, ?_⟩⟩⟩
  · have := hI.2.2.1; exact ⟨by omega, by omega⟩
  · have := hI.2.2.1
    obtain ⟨k, rfl⟩ : ∃ k : Nat, a1 = (k : Int) := ⟨a1.toNat, by omega⟩
    rw [Int.toNat_natCast]
    have h := hI.2.2.2.2.2.2 k (by omega)
    exact h1 k rfl (by omega) (by omega) h.1 (by have := h.2; rw [show 1 + 18 + 19 * k = 19 + 19 * k by omega] at this; exact this)
/-- the class's memory outside of its evenings -/
def XE (J J1 : mJ) : Prop := ∀ c, (c < 94 ∨ 128 ≤ c) → J1 c = J c
theorem x_eveningAt {J : mJ} {a1 : Int} (hI : TI J 1 (J 129)) (hE : InvE J) {post' : Option Nat → mJ → Prop} (h0 : ¬ (0 ≤ a1 ∧ a1 < J 129 0) → post' none J) (h1 : ∀ (k : Nat) (J1 : mJ), a1 = (k : Int) → (k : Int) < J 129 0 → k < 2 → HV (gH (J 129) k) → HR J1 (5 + 19 * k) (gH (J 129) k) → EvO J1 (94 + 17 * k) (gH (J 129) k) → XE J J1 → InvE J1 → post' (some (94 + 17 * k)) J1) : v_X11_eveningAt J a1 post' := by
  refine x_houseAt hI (fun c => ⟨fun _ => h0 c, fun q c2 => (by cases c2)⟩) (fun k ek hk hk2 hv hr => ⟨fun c2 => (by cases c2), fun q _ => ?_⟩)
  subst ek
  simp only [Int.toNat_natCast]
  refine ⟨⟨by omega, by omega⟩, fun c => ⟨⟨by omega, by omega⟩, h1 k J rfl hk hk2 hv hr (hE k hk2 c hk) (fun _ _ => rfl) hE⟩, fun c => ⟨⟨by omega, by omega⟩, x_walkAll hv hr (fun i hi j hj => by omega) ?_⟩⟩
  intro J1 hO hr1 hf1 fr
  have hX : XE J J1 := fun c hc => fr c (by omega)
  refine ⟨⟨by omega, by omega⟩, h1 k J1 rfl hk hk2 hv hr1 hO hX ?_⟩
  intro k' hk' hf hk0
  rw [hX 129 (by decide)] at hk0 ⊢
  by_cases hkk : k' = k
  · subst hkk; exact hO
  · have fr' : ∀ i, i < 17 → J1 (94 + 17 * k' + i) = J (94 + 17 * k' + i) := fun i hi => fr _ (by omega)
    have f0 : J1 (94 + 17 * k') = J (94 + 17 * k') := fr' 0 (by decide)
    rw [f0] at hf
    exact EvO_frame fr' (hE k' hk' hf hk0)
/-- the reference has changed nothing that is told -/
def MF (J J1 : mJ) : Prop := (∀ c, (c < 128 ∨ c = 129 ∨ c = 130 ∨ 151 ≤ c) → J1 c = J c) ∧ UV (J1 128)
theorem MF_refl {J : mJ} (h : UV (J 128)) : MF J J := ⟨fun _ _ => rfl, h⟩
theorem n_isOf0 {J : mJ} {a1 : Int} (hc : 0 ≤ J 129 0 ∧ J 129 0 ≤ 2) {post' : Bool → Prop} (h : post' (decide (0 ≤ a1 ∧ a1 < J 129 0))) : v_X12_isOf J 128 0 a1 post' :=
  ⟨⟨by omega, by omega⟩, ⟨by show _ ≤ J 129 0 - 1; omega, by show J 129 0 - 1 ≤ _; omega⟩, p_X12_isIn (by rw [dec_eq (Q := 0 ≤ a1 ∧ a1 < J 129 0) (by show 0 ≤ a1 ∧ a1 ≤ J 129 0 - 1 ↔ _; omega)]; exact h)⟩
theorem n_isOf1 {J : mJ} {a1 : Int} (hc : 0 ≤ J 129 1 ∧ J 129 1 ≤ 2) {post' : Bool → Prop} (h : post' (decide (0 ≤ a1 ∧ a1 < J 129 1))) : v_X12_isOf J 128 1 a1 post' :=
  ⟨⟨by omega, by omega⟩, ⟨by show _ ≤ J 129 1 - 1; omega, by show J 129 1 - 1 ≤ _; omega⟩, p_X12_isIn (by rw [dec_eq (Q := 0 ≤ a1 ∧ a1 < J 129 1) (by show 0 ≤ a1 ∧ a1 ≤ J 129 1 - 1 ↔ _; omega)]; exact h)⟩
theorem n_isHouse {J : mJ} {a1 : Int} {t : Nat} (hI : TI J t (J 129)) (hU : UV (J 128)) {post' : Bool → mJ → Prop} (h0 : ¬ (0 ≤ a1 ∧ a1 < J 129 0) → post' false J) (h1 : ∀ (k : Nat) (J1 : mJ), a1 = (k : Int) → (k : Int) < J 129 0 → k < 2 → MH J1 (610 + 149 * k) (gH (J 129) k) (J1 128) → UP (J1 128) → (∀ c, c ≠ 128 → J1 c = J c) → (∀ i, (i < 12 ∨ 22 < i) → J1 128 i = J 128 i) → post' true J1) : v_X12_isHouse J 128 a1 post' := by
  have h2 := hI.2.1
  unfold v_X12_isHouse
  refine n_isOf0 h2 ?_
  by_cases hc : 0 ≤ a1 ∧ a1 < J 129 0
  · rw [decide_eq_true hc]
    refine ⟨fun _ => ?_, fun c => Bool.noConfusion c⟩
    obtain ⟨k, rfl⟩ : ∃ k : Nat, a1 = (k : Int) := ⟨a1.toNat, by omega⟩
    have hv := (hI.2.2.2.2.2.1 k (by omega)).1
    refine ⟨fun c => absurd rfl c, fun _ => ⟨⟨by omega, by omega⟩, ⟨by omega, by omega⟩, ?_⟩⟩
    intro J3 e3
    intro J4 e4 J5 e5 J6 e6 J7 e7 J8 e8 J9 e9
    have o9 : ∀ c, c ≠ 128 → J9 c = J c := fun c hc => by rw [e9, up2_n _ _ _ hc, e8, up2_n _ _ _ hc, e7, up2_n _ _ _ hc, e6, up2_n _ _ _ hc, e5, up2_n _ _ _ hc, e4, up2_n _ _ _ hc, e3, up2_n _ _ _ hc]
    have e128 : J9 128 = up1 (up1 (up1 (up1 (up1 (up1 (up1 (J 128) 12 (610 + 149 * (k : Int))) 13 (-1)) 15 (-1)) 17 (-1)) 18 (-1)) 20 (-1)) 22 0 := by
      rw [e9, up2_s, e8, up2_s, e7, up2_s, e6, up2_s, e5, up2_s, e4, up2_s, e3, up2_s]
    have q : ∀ i, (i < 12 ∨ 22 < i ∨ i = 14 ∨ i = 16 ∨ i = 19 ∨ i = 21) → J9 128 i = J 128 i := fun i hi => by
      rw [e128, up1_n _ _ (by omega), up1_n _ _ (by omega), up1_n _ _ (by omega), up1_n _ _ (by omega), up1_n _ _ (by omega), up1_n _ _ (by omega), up1_n _ _ (by omega)]
    have p12 : J9 128 12 = ((610 + 149 * k : Nat) : Int) := by
      rw [e128]; simp [up1]
    have pp : UP (J9 128) := by
      unfold UP; rw [e128]; simp [up1]
    have hU9 : UV (J9 128) := by
      unfold UV; rw [q 19 (by omega), q 21 (by omega)]; exact hU
    refine h1 k J9 rfl hc.2 (by omega) ⟨p12, by omega, ?_, hv, hU9, fun _ _ _ _ => rfl⟩ pp o9 (fun i hi => q i (by omega))
    unfold gB gH; rw [o9 129 (by decide)]
  · rw [decide_eq_false hc]
    exact ⟨fun c => Bool.noConfusion c, fun _ => h0 hc⟩
theorem UP_d {u : Nat → Int} (h : UP u) : UH u ∧ UB u ∧ u 22 = 0 := ⟨Or.inl h.1, Or.inl h.2.1, h.2.2.2.2.2⟩
/-- runs, plain: the reference holds the evening of the house -/
def MP (J : mJ) (g : Nat → Int) : Prop := MR J (gRun g).1 (gRun g).2 ∧ (∀ p t : Nat, (p : Int) < g 3 → t < 100 → J 140 (p * 100 + t) = (goT (gGo g) p t).2) ∧ (∀ p : Nat, (p : Int) < g 3 → J 143 p = lasF (gRun g).2 (gRun g).1 (p : Int))
theorem MO_plain {J : mJ} {g u : Nat → Int} (hp : UP u) (h : MO J g u) : MP J g := by
  obtain ⟨a1, a2, a3⟩ := h
  rw [mRun_plain hp] at a1 a3
  rw [mGo_plain hp.2.1 hp.2.2.1] at a2
  exact ⟨a1, a2, a3⟩
theorem n_runs {J : mJ} {b : Nat} {g : Nat → Int} (h : MH J b g (J 128)) (hp : UP (J 128)) {post' : mJ → Prop} (hq : ∀ J1 : mJ, MP J1 g → MH J1 b g (J1 128) → UP (J1 128) → (∀ c, (c < 128 ∨ 128 < c) → (c < 132 ∨ 143 < c) → J1 c = J c) → (∀ k, k ≠ 25 → J1 128 k = J 128 k) → post' J1) : v_X12_runs J 128 post' := by
  obtain ⟨a, b', c⟩ := UP_d hp
  refine m_runs h a b' c (fun J1 hO hM f1 f2 => hq J1 (MO_plain hp hO) ⟨hM.1, hM.2.1, hM.2.2.1, hM.2.2.2.1, ?_, fun _ _ _ _ => rfl⟩ ?_ f1 f2)
  · unfold UV; rw [f2 19 (by decide), f2 21 (by decide)]; exact h.2.2.2.2.1
  · unfold UP; rw [f2 13 (by decide), f2 15 (by decide), f2 17 (by decide), f2 18 (by decide), f2 20 (by decide), f2 22 (by decide)]; exact hp
