/-! worth: where a carpet saves notes -/
def sumZ (f : Nat → Int) : Nat → Int
  | 0 => 0
  | n + 1 => sumZ f n + f n
theorem sumZ_cong {f f' : Nat → Int} : ∀ n, (∀ k, k < n → f k = f' k) → sumZ f n = sumZ f' n
  | 0, _ => rfl
  | n + 1, h => by rw [sumZ, sumZ, sumZ_cong n (fun k hk => h k (by omega)), h n (by omega)]
theorem sumZ_sub (f h : Nat → Int) : ∀ n, sumZ (fun k => f k - h k) n = sumZ f n - sumZ h n
  | 0 => rfl
  | n + 1 => by rw [sumZ, sumZ, sumZ, sumZ_sub f h n]; omega
theorem sumZ_add (f h : Nat → Int) : ∀ n, sumZ (fun k => f k + h k) n = sumZ f n + sumZ h n
  | 0 => rfl
  | n + 1 => by rw [sumZ, sumZ, sumZ, sumZ_add f h n]; omega
theorem sumZ_rng {f : Nat → Int} {m : Nat} : ∀ n : Nat, (∀ k, k < n → -(m : Int) ≤ f k ∧ f k ≤ (m : Int)) → -((n * m : Nat) : Int) ≤ sumZ f n ∧ sumZ f n ≤ ((n * m : Nat) : Int)
  | 0, _ => ⟨by show -(((0 * m : Nat)) : Int) ≤ 0; rw [Nat.zero_mul]; decide, by show 0 ≤ (((0 * m : Nat)) : Int); omega⟩
  | n + 1, h => by
    have ih := sumZ_rng (f := f) (m := m) n (fun k hk => h k (by omega))
    have := h n (by omega)
    rw [sumZ, Nat.succ_mul]; omega
theorem sumF_Z (f : Nat → Nat) : ∀ n, ((sumF f n : Nat) : Int) = sumZ (fun k => (f k : Int)) n
  | 0 => rfl
  | n + 1 => by rw [sumF, sumZ, ← sumF_Z f n]; omega
theorem sumF_add (f h : Nat → Nat) : ∀ n, sumF (fun k => f k + h k) n = sumF f n + sumF h n
  | 0 => rfl
  | n + 1 => by rw [sumF, sumF, sumF, sumF_add f h n]; omega
theorem sumF_zero : ∀ n, sumF (fun _ => 0) n = 0
  | 0 => rfl
  | n + 1 => by rw [sumF, sumF_zero n]
theorem sumF_cnt (P : Nat → Bool) : ∀ n, sumF (fun k => if P k = true then 1 else 0) n = cntF P n
  | 0 => rfl
  | n + 1 => by rw [sumF, cntF, sumF_cnt P n]
theorem cnt_swap (P : Nat → Nat → Bool) (F : Nat) : ∀ n, sumF (fun f => cntF (P f) n) F = sumF (fun k => cntF (fun f => P f k) F) n
  | 0 => sumF_zero F
  | n + 1 => by
    rw [sumF, ← cnt_swap P F n, ← sumF_cnt (fun f => P f n) F, ← sumF_add]
    rfl
theorem latF_at {f : Nat → Int} {s : Int} : ∀ n, latF f s n ≠ -1 → f (latF f s n).toNat = s
  | 0, h => absurd rfl h
  | n + 1, h => by
    rw [latF] at h ⊢
    by_cases c : f n = s
    · rw [if_pos c, Int.toNat_natCast]; exact c
    · rw [if_neg c] at h ⊢; exact latF_at n h
theorem echo_step {q : Qs} {keep : Int} {n : Nat} {T : Nat → Nat → Int} (hQ : TQ q keep n T) {k : Nat} (hk : k < n) (h : T 5 k ≠ -1) : T 1 (T 5 k).toNat = T 1 k := by
  have e := (hQ k hk).2.2.1
  unfold echoF at e
  split at e
  · next c => rw [e]; exact latF_at k c.1
  · exact absurd e h
/-- all that all flats note -/
def allN (n : Nat) (T : Nat → Nat → Int) (F : Nat) : Nat := sumF (fun f => cntF (nB T f) n) F
theorem T67 {q : Qs} {keep : Int} {n F : Nat} {T : Nat → Nat → Int} (hQ : TQ q keep n T) (hF : ∀ l s, q.2.2 l s < 2 ^ F) {k : Nat} (hk : k < n) : (T 6 k).toNat < 2 ^ F ∧ (T 7 k).toNat < 2 ^ F := by
  obtain ⟨_, _, _, h6, h7, _⟩ := hQ k hk
  rw [h6, h7]
  refine ⟨by rw [Int.toNat_natCast]; exact hF _ _, ?_⟩
  split
  · exact Nat.two_pow_pos F
  · rw [Int.toNat_natCast]; exact hF _ _
theorem allN_pop {q : Qs} {keep : Int} {n F : Nat} {T : Nat → Nat → Int} (hQ : TQ q keep n T) (hF : ∀ l s, q.2.2 l s < 2 ^ F) (h6 : F ≤ 6) : ((allN n T F : Nat) : Int) = sumZ (fun k => popZ (oZ (T 6 k) (T 7 k))) n := by
  unfold allN
  rw [cnt_swap, sumF_Z]
  refine sumZ_cong n (fun k hk => ?_)
  obtain ⟨l6, l7⟩ := T67 hQ hF hk
  have hb : cntF (fun f => nB T f k) F = cntF (bt (oZ (T 6 k) (T 7 k))) F := cntF_cong F (fun f _ => (bt_oZ _ _ _).symm)
  have hc : cntF (bt (oZ (T 6 k) (T 7 k))) 31 = cntF (bt (oZ (T 6 k) (T 7 k))) F := by
    rw [show 31 = F + (31 - F) by omega, cntF_add, cntF_zero (31 - F) (fun i _ => ?_), Nat.add_zero]
    unfold bt oZ
    rw [Int.toNat_natCast]
    exact Nat.testBit_lt_two_pow (Nat.lt_of_lt_of_le (Nat.or_lt_two_pow l6 l7) (Nat.pow_le_pow_right (by decide) (by omega)))
  show ((cntF (fun f => nB T f k) F : Nat) : Int) = popZ _
  unfold popZ
  rw [hb, hc]
theorem gQ_F {g : Nat → Int} (l s : Int) : (gQ g).2.2 l s < 2 ^ (g 2).toNat := earsF_lt _ _
theorem mQ_F {u g : Nat → Int} (l s : Int) : (mQ u g).2.2 l s < 2 ^ (g 2).toNat := earsF_lt _ _
/-- a tread's loudness, its carpet thicker -/
def dmp (g : Nat → Int) (T : Nat → Nat → Int) (th : Int) (k : Nat) : Int := maxZ 0 (g (42 + 14 * (T 0 k).toNat) + T 3 k - minZ 9 (g (5 + (T 1 k).toNat) + th))
def ntd (g : Nat → Int) (T : Nat → Nat → Int) (th : Int) (k : Nat) : Int := oZ ((gEars g (dmp g T th k) (T 1 k) : Nat) : Int) (if T 5 k = -1 then 0 else ((gEars g (dmp g T th (T 5 k).toNat / 2) (T 1 k) : Nat) : Int))
def wT (g : Nat → Int) (th : Int) (s k : Nat) : Int := if (gRun g).2 1 k = (s : Int) then popZ (oZ ((gRun g).2 6 k) ((gRun g).2 7 k)) - popZ (ntd g (gRun g).2 th k) else 0
def wF (g : Nat → Int) (th : Int) (s : Nat) : Int := sumZ (wT g th s) (gRun g).1
theorem dmp_rng {g : Nat → Int} (hv : HV g) {n : Nat} {T : Nat → Nat → Int} (hV : TV g n T) {k : Nat} (hk : k < n) {th : Int} (ht : 1 ≤ th ∧ th ≤ 9) : 0 ≤ dmp g T th k ∧ dmp g T th k ≤ 18 := by
  obtain ⟨t0, t1, _, t3, _⟩ := hV k hk
  have h0 := hv.1
  obtain ⟨_, w, _⟩ := hv.2.2.2.2.2.2.2.1 (T 0 k).toNat (by omega)
  have hc := hv.2.2.2.2.2.1 (T 1 k).toNat (by omega)
  unfold dmp maxZ minZ
  split <;> split at * <;> omega
theorem x_dampened {J : mJ} {e h : Nat} {g : Nat → Int} (hv : HV g) (hr : HR J h g) (hO : EvO J e g) {k : Nat} (hk : k < (gRun g).1) {th : Int} (ht : 1 ≤ th ∧ th ≤ 9) {post' : Int → Prop} (hq : post' (dmp g (gRun g).2 th k)) : v_X2_dampened J e h (k : Int) th post' := by
  have hn := gRun_le hv
  have h0 := hv.1
  have h3 := hv.2.2.2.1
  obtain ⟨t0, t1, _, t3, _⟩ := gRun_TV hv k hk
  unfold v_X2_dampened
  simp only [Int.toNat_natCast]
  rw [show J (e + 2) k = _ from hO.1.2.1 1 k (by decide) hk, show J (e + 1) k = _ from hO.1.2.1 0 k (by decide) hk, show J (e + 4) k = _ from hO.1.2.1 3 k (by decide) hk]
  rw [hr.2.1 _ (by omega)]
  obtain ⟨_, w5, _⟩ := hr.2.2.2.1 ((gRun g).2 0 k).toNat (by omega)
  rw [w5]
  obtain ⟨_, w, _⟩ := hv.2.2.2.2.2.2.2.1 ((gRun g).2 0 k).toNat (by omega)
  have hc := hv.2.2.2.2.2.1 ((gRun g).2 1 k).toNat (by omega)
  refine ⟨⟨by omega, by omega⟩, ⟨by omega, by omega⟩, ⟨by omega, by omega⟩, ?_⟩
  rintro _ rfl
  have hm : 0 ≤ minZ 9 (g (5 + ((gRun g).2 1 k).toNat) + th) ∧ minZ 9 (g (5 + ((gRun g).2 1 k).toNat) + th) ≤ 9 := by unfold minZ; split <;> omega
  exact ⟨⟨by omega, by omega⟩, ⟨by omega, by omega⟩, ⟨by omega, by omega⟩, ⟨by omega, by omega⟩, ⟨by omega, by omega⟩, hq⟩
theorem popZ_lt {x : Int} : -31 ≤ popZ x ∧ popZ x ≤ 31 := by have := popZ_rng x; omega
theorem wT_rng (g : Nat → Int) (th : Int) (s k : Nat) : -((31 : Nat) : Int) ≤ wT g th s k ∧ wT g th s k ≤ ((31 : Nat) : Int) := by
  have a := popZ_rng (oZ ((gRun g).2 6 k) ((gRun g).2 7 k))
  have b := popZ_rng (ntd g (gRun g).2 th k)
  unfold wT; split <;> omega
theorem x_tallySaved {J : mJ} {e h : Nat} {g : Nat → Int} (hv : HV g) (hr : HR J h g) (hne : ∀ k, k < 14 → h + k ≠ e + 11) (hO : EvO J e g) {th : Int} (ht : 1 ≤ th ∧ th ≤ 9) {post' : mJ → Prop} (hq : ∀ J1, (∀ c, c ≠ e + 11 → J1 c = J c) → (∀ s : Nat, s < 24 → J1 (e + 11) s = wF g th s) → post' J1) : v_X2_tallySaved J e h th post' := by
  have hn := gRun_le hv
  have h0 := hv.1
  unfold v_X2_tallySaved
  refine p_fill (by decide) ?_
  unfold v_X2_tallySaved_10
  intro ZZ hZ
  refine lpN (S := fun k => ∀ J1 : mJ, (∀ c, c ≠ e + 11 → J1 c = J c) → (∀ s : Nat, s < 24 → J1 (e + 11) s = sumZ (wT g th s) k) → ZZ J1 (k : Int)) (N := (gRun g).1) (fun k hk ih J1 f1 hs => hZ _ _ ?_) (fun J1 f1 hs => hZ _ _ ?_) _ (fun c hc => fillZ_n hc) (fun s hs => fillZ_s (by omega))
  · have hO1 : EvO J1 e g ∨ True := Or.inr trivial
    have e0 : J1 e = J e := f1 e (by omega)
    have fr : ∀ j, j ≠ 11 → J1 (e + j) = J (e + j) := fun j hj => f1 _ (by omega)
    have hr1 : HR J1 h g := HR_frame (fun q hq => f1 _ (hne q hq)) hr
    have hT1 : EarT J1 e g := EarT_frame (fr 12 (by decide)) hO.2.1
    have col : ∀ j i, j < 9 → i < (gRun g).1 → J1 (e + 1 + j) i = (gRun g).2 j i := fun j i hj hi => by
      rw [f1 _ (by omega)]; exact hO.1.2.1 j i hj hi
    have hO1 : EvO J1 e g := ⟨⟨by rw [e0]; exact hO.1.1, col, fun s hs => by rw [fr 14 (by decide)]; exact hO.1.2.2 s hs⟩, hT1, fun p t hp ht => by rw [fr 13 (by decide)]; exact hO.2.2.1 p t hp ht, fun p hp => by rw [fr 10 (by decide)]; exact hO.2.2.2 p hp⟩
    obtain ⟨_, t1, _, _, _, t5, t6, t7, _⟩ := gRun_TV hv k hk
    obtain ⟨s, es⟩ : ∃ s : Nat, (gRun g).2 1 k = (s : Int) := ⟨((gRun g).2 1 k).toNat, by omega⟩
    have d1 := dmp_rng hv (gRun_TV hv) hk ht
    have le1 := gEars_lt hv (dmp g (gRun g).2 th k) (s : Int)
    rw [e0, hO.1.1]
    simp only [Int.toNat_natCast]
    rw [show J1 (e + 2) k = _ from col 1 k (by decide) hk, show J1 (e + 6) k = _ from col 5 k (by decide) hk, es]
    have go : ∀ v, v = ntd g (gRun g).2 th k → v_X2_tallySaved_71 e h th post' ZZ J1 (k : Int) v := by
      intro v ev
      unfold v_X2_tallySaved_71
      simp only [Int.toNat_natCast]
      rw [show J1 (e + 2) k = _ from col 1 k (by decide) hk, es, Int.toNat_natCast, hs s (by omega)]
      have hl := oZ_lt t6 t7
      have hv2 : 0 ≤ v ∧ v < 64 := by
        rw [ev]; unfold ntd
        refine oZ_lt (by rw [es]; omega) ?_
        split
        · decide
        · have := gEars_lt hv (dmp g (gRun g).2 th ((gRun g).2 5 k).toNat / 2) ((gRun g).2 1 k); omega
      have p1 := popZ_rng (oZ ((gRun g).2 6 k) ((gRun g).2 7 k))
      have p2 := popZ_rng v
      have rs := sumZ_rng (f := wT g th s) (m := 31) k (fun i _ => wT_rng g th s i)
      refine ⟨⟨by omega, by omega⟩, ⟨by omega, by omega⟩, x_notedBy hv hO1 hk (p_bitCount ⟨by omega, by omega⟩ (p_bitCount ⟨by omega, by omega⟩ ⟨⟨by omega, by omega⟩, ⟨by omega, by omega⟩, ⟨by omega, by omega⟩, ?_⟩))⟩
      rintro J2 rfl
      refine ⟨⟨by omega, by omega⟩, ?_⟩
      rintro _ rfl
      refine ih _ (fun c hc => by rw [up2_n _ _ _ hc]; exact f1 c hc) (fun s' hs' => ?_)
      rw [up2_s, sumZ]
      by_cases hss : s' = s
      · rw [hss, up1_s]
        unfold wT
        rw [if_pos es, ev]
      · rw [up1_n _ _ hss, hs s' hs']
        unfold wT
        rw [if_neg (by omega), Int.add_zero]
    refine ⟨fun c => by omega, fun _ => ⟨⟨by omega, by omega⟩, x_dampened hv hr1 hO1 hk ht (x_hearersI hv hT1 (by omega) d1 ⟨⟨by omega, by omega⟩, fun c => go _ ?_, fun c => ⟨⟨by omega, by omega⟩, ⟨by omega, by omega⟩, ?_⟩⟩)⟩⟩
    · unfold ntd; rw [if_pos c, es]; unfold oZ; rw [Int.toNat_natCast]; simp
    · obtain ⟨i, ei⟩ : ∃ i : Nat, (gRun g).2 5 k = (i : Int) := ⟨((gRun g).2 5 k).toNat, by omega⟩
      rw [ei]
      have hi : i < (gRun g).1 := by omega
      have d2 := dmp_rng hv (gRun_TV hv) hi ht
      refine x_dampened hv hr1 hO1 hi ht ?_
      rw [divZ_two (by omega)]
      refine x_hearersI hv hT1 (by omega) ⟨by omega, by omega⟩ ?_
      have le2 := gEars_lt hv (dmp g (gRun g).2 th i / 2) (s : Int)
      rintro _ rfl
      refine go _ ?_
      rw [orZ_Z ⟨by omega, by omega⟩ ⟨by omega, by omega⟩]
      unfold ntd
      rw [if_neg c, es, ei, Int.toNat_natCast]
  · have e0 : J1 e = J e := f1 e (by omega)
    rw [e0, hO.1.1]
    exact ⟨fun _ => hq J1 f1 hs, fun c => absurd (Int.le_refl _) c⟩
def aWorth (A : Nat → Int) (a1 a2 a3 : Int) : Int := if (0 ≤ a1 ∧ a1 < A 0) ∧ (1 ≤ a3 ∧ a3 ≤ 9) ∧ (a2 = -1 ∨ 0 ≤ a2 ∧ a2 < gH A a1.toNat 0) then (if a2 = -1 then ((bestF (wF (gH A a1.toNat) a3) ((gH A a1.toNat 0).toNat - 1) : Nat) : Int) else wF (gH A a1.toNat) a3 a2.toNat) else -2
/-- tallies may be written: the evening stays -/
theorem EvO_tally {J J1 : mJ} {e : Nat} {g : Nat → Int} (h : ∀ c, c ≠ e + 11 → J1 c = J c) (hO : EvO J e g) : EvO J1 e g := by
  have e0 : J1 e = J e := h e (by omega)
  refine ⟨⟨by rw [e0]; exact hO.1.1, fun j k hj hk => ?_, fun s hs => by rw [h _ (by omega)]; exact hO.1.2.2 s hs⟩, EarT_frame (h _ (by omega)) hO.2.1, fun p t hp ht => by rw [h _ (by omega)]; exact hO.2.2.1 p t hp ht, fun p hp => by rw [h _ (by omega)]; exact hO.2.2.2 p hp⟩
  rw [h _ (by omega)]; exact hO.1.2.1 j k hj hk
theorem InvE_tally {J J1 : mJ} {k : Nat} (hk : k < 2) (h : ∀ c, c ≠ 94 + 17 * k + 11 → J1 c = J c) (hE : InvE J) : InvE J1 := by
  intro k' hk' hf hk0
  rw [h 129 (by omega)] at hk0 ⊢
  rw [h (94 + 17 * k') (by omega)] at hf
  have hO := hE k' hk' hf hk0
  by_cases hkk : k' = k
  · subst hkk; exact EvO_tally h hO
  · exact EvO_frame (fun i hi => h _ (by omega)) hO
theorem XF_tally {J J1 J2 : mJ} {k : Nat} (hk : k < 2) (hX : XE J J1) (h : ∀ c, c ≠ 94 + 17 * k + 11 → J2 c = J1 c) : XF J J2 := fun c hc => by
  rw [h c (by omega)]; exact hX c (by omega)
theorem x_worth {J : mJ} {a1 a2 a3 : Int} (hI : TI J 1 (J 129)) (hE : InvE J) {post' : Int → mJ → Prop} (hq : ∀ J1, XF J J1 → InvE J1 → post' (aWorth (J 129) a1 a2 a3) J1) : v_X11_worth J a1 a2 a3 post' := by
  unfold v_X11_worth
  refine x_eveningAt hI hE (fun c => ⟨fun _ => lf (hq J XF_refl hE) ?_, fun q c2 => (by cases c2)⟩) (fun k J1 ek hk hk2 hv hr hO hX hE1 => ⟨fun c2 => (by cases c2), fun q eq => ?_⟩)
  · unfold aWorth; rw [if_neg (fun c2 => c c2.1)]
  · cases eq
    have h1 := hq J1 (XE_XF hX) hE1
    subst ek
    unfold aWorth at h1 hq
    rw [Int.toNat_natCast] at h1 hq
    have h0 := hv.1
    have go : (1 ≤ a3 ∧ a3 ≤ 9) → (a2 = -1 ∨ 0 ≤ a2 ∧ a2 < gH (J 129) k 0) → v_X11_worth_43 (k : Int) a2 a3 post' J1 (94 + 17 * k) := by
      intro c1 c2
      unfold v_X11_worth_43
      rw [hE_k]
      refine x_tallySaved hv hr (fun i hi => by omega) hO c1 (fun J2 f2 hs => ?_)
      have h := hq J2 (XF_tally hk2 hX f2) (InvE_tally hk2 f2 hE1)
      rw [if_pos ⟨⟨by omega, hk⟩, c1, c2⟩] at h
      refine ⟨fun c => ?_, fun c => ?_⟩
      · rw [if_neg c] at h
        exact ⟨⟨by omega, by omega⟩, lf h (hs _ (by omega))⟩
      · rw [if_pos c] at h
        exact x_mostTallied hv (HR_frame (fun q hq => f2 _ (by omega)) hr) (fun s hs' => hs s (by omega)) h
    refine ⟨fun c => ?_, fun c => ⟨fun c2 => ?_, fun c2 => ⟨fun c3 => go (by omega) (Or.inl c3), fun c3 => ?_⟩⟩⟩
    · rw [if_neg (by omega)] at h1; exact h1
    · rw [if_neg (by omega)] at h1; exact h1
    · rw [hE_k]
      refine x_hasS hv hr (fun c4 => ⟨fun c2 => Bool.noConfusion c2, fun _ => ?_⟩) (fun s es hs hs24 => ⟨fun _ => go (by omega) (Or.inr (by omega)), fun c2 => Bool.noConfusion c2⟩)
      rw [if_neg (by omega)] at h1; exact h1
/-- the reference, with a carpet laid -/
theorem m_allNotes {J : mJ} {b n : Nat} {g u : Nat → Int} {T : Nat → Nat → Int} (h : MH J b g u) (hV : TV g n T) (hR : MR J n T) (hn : n ≤ 600) {post' : Int → Prop} (hq : post' ((allN n T (g 2).toNat : Nat) : Int)) : v_X12_allNotes J 128 post' := by
  have h2 := h.2.2.2.1.2.2.1
  unfold v_X12_allNotes v_X12_allNotes_4
  intro ZZ hZ
  refine lpN (S := fun f => ZZ ((sumF (fun f => cntF (nB T f) n) f : Nat) : Int) (f : Int)) (N := (g 2).toNat) (fun f hf ih => hZ _ _ (n_flats h ?_)) (hZ _ _ (n_flats h ⟨fun _ => hq, fun c => by omega⟩))
  have s1 := sumF_le (f := fun f => cntF (nB T f) n) (m := 600) f (fun k _ => by have := cntF_le (nB T k) n; show cntF (nB T k) n ≤ 600; omega)
  have s2 := cntF_le (nB T f) n
  rw [sumF] at ih
  refine ⟨fun c => by omega, fun _ => m_notesOf hV hR hn (by omega) ⟨⟨by omega, by omega⟩, ?_⟩⟩
  rintro _ rfl
  refine ⟨⟨by omega, by omega⟩, ?_⟩
  rintro _ rfl
  exact ih
theorem mEars_m {u g : Nat → Int} (h : u 20 = -1) : mEars u g = gEars g := by
  funext l s
  unfold mEars gEars
  refine earsF_cong _ (fun f _ => ?_)
  unfold mFlat; rw [h, if_neg (by omega)]
theorem mShoe_m {u g : Nat → Int} (h : u 13 = -1) {p : Nat} {t : Int} : (mQ u g).1 p t = gShoe g p t := by
  show (if (p : Int) = u 13 then u 14 else gShoe g p t) = _
  rw [h, if_neg (by omega)]
theorem mRun_sk {u g : Nat → Int} (h1 : u 15 = -1) (h2 : u 17 = -1) : (mRun u g).1 = (gRun g).1 ∧ ∀ j k, (j < 3 ∨ j = 5) → (mRun u g).2 j k = (gRun g).2 j k := by
  unfold mRun mTs gRun gTs
  rw [mGo_plain h1 h2]
  exact run_sk 100
theorem laid_eq {u g : Nat → Int} (hv : HV g) {th : Int} {s : Nat} (h13 : u 13 = -1) (h15 : u 15 = -1) (h17 : u 17 = -1) (h18 : u 18 = (s : Int)) (h19 : u 19 = th) (h20 : u 20 = -1) : ((allN (gRun g).1 (gRun g).2 (g 2).toNat : Nat) : Int) - ((allN (mRun u g).1 (mRun u g).2 (g 2).toNat : Nat) : Int) = wF g th s := by
  have h2 := hv.2.2.1
  have h0 := hv.1
  obtain ⟨sn, sc⟩ := mRun_sk (u := u) (g := g) h15 h17
  have gT := gTQ (g := g)
  have mT := mTQ (u := u) (g := g)
  rw [allN_pop gT (fun l s => gQ_F l s) (by omega), allN_pop mT (fun l s => mQ_F l s) (by omega), sn, ← sumZ_sub]
  rw [sn] at mT
  unfold wF
  have lo : ∀ k, k < (gRun g).1 → (mRun u g).2 4 k = if (gRun g).2 1 k = (s : Int) then dmp g (gRun g).2 th k else (gRun g).2 4 k := by
    intro k hk
    obtain ⟨m3, m4, _⟩ := mT k hk
    obtain ⟨g3, g4, _⟩ := gT k hk
    obtain ⟨t0, t1, _⟩ := gRun_TV hv k hk
    rw [m4, m3, sc 0 k (by omega), sc 1 k (by omega), sc 2 k (by omega), mShoe_m h13]
    have e3 : (gRun g).2 3 k = gShoe g ((gRun g).2 0 k).toNat ((gRun g).2 2 k) := g3
    rw [← e3]
    show mLoud u g _ _ _ = _
    unfold mLoud mCar
    rw [h18, h19]
    by_cases c : (gRun g).2 1 k = (s : Int)
    · rw [if_pos c, if_pos (by omega)]; rfl
    · rw [if_neg c, if_neg (by omega), g4]; rfl
  refine sumZ_cong _ (fun k hk => ?_)
  obtain ⟨_, _, _, m6, m7, _⟩ := mT k hk
  obtain ⟨_, _, _, g6, g7, _⟩ := gT k hk
  have m6' : (mRun u g).2 6 k = ((gEars g ((mRun u g).2 4 k) ((gRun g).2 1 k) : Nat) : Int) := by
    rw [m6, sc 1 k (by omega)]; show ((mEars u g _ _ : Nat) : Int) = _; rw [mEars_m h20]
  have m7' : (mRun u g).2 7 k = if (gRun g).2 5 k = -1 then 0 else ((gEars g ((mRun u g).2 4 ((gRun g).2 5 k).toNat / 2) ((gRun g).2 1 k) : Nat) : Int) := by
    rw [m7, sc 1 k (by omega), sc 5 k (by omega)]
    show (if (gRun g).2 5 k = -1 then 0 else ((mEars u g _ _ : Nat) : Int)) = _
    rw [mEars_m h20]
  obtain ⟨_, _, _, _, _, t5, _⟩ := gRun_TV hv k hk
  show _ - popZ (oZ ((mRun u g).2 6 k) ((mRun u g).2 7 k)) = wT g th s k
  unfold wT
  by_cases c : (gRun g).2 1 k = (s : Int)
  · rw [if_pos c]
    unfold ntd
    rw [m6', m7', lo k hk, if_pos c]
    by_cases c5 : (gRun g).2 5 k = -1
    · rw [if_pos c5, if_pos c5]
    · rw [if_neg c5, if_neg c5, lo _ (by omega), if_pos (by rw [echo_step gT hk c5]; exact c)]
  · rw [if_neg c]
    have e6 : (mRun u g).2 6 k = (gRun g).2 6 k := by
      rw [m6', lo k hk, if_neg c, g6]; rfl
    have e7 : (mRun u g).2 7 k = (gRun g).2 7 k := by
      rw [m7', g7]
      by_cases c5 : (gRun g).2 5 k = -1
      · rw [if_pos c5, if_pos c5]
      · rw [if_neg c5, if_neg c5, lo _ (by omega), if_neg (by rw [echo_step gT hk c5]; exact c)]; rfl
    rw [e6, e7]; omega
theorem MH_self {J : mJ} {b : Nat} {g u : Nat → Int} (h : MH J b g u) : MH J b g (J 128) := ⟨h.1, h.2.1, h.2.2.1, h.2.2.2.1, UV_of h, fun _ _ _ _ => rfl⟩
theorem n_worthOf {J : mJ} {b s : Nat} {g : Nat → Int} {th : Int} (h : MH J b g (J 128)) (hp : UP (J 128)) (hs : (s : Int) < g 0) (ht : 1 ≤ th ∧ th ≤ 9) {post' : Int → mJ → Prop} (hq : ∀ J1, MH J1 b g (J1 128) → UP (J1 128) → (∀ c, (c < 128 ∨ 128 < c) → (c < 132 ∨ 143 < c) → J1 c = J c) → post' (wF g th s) J1) : v_X12_worthOf J 128 (s : Int) th post' := by
  have hv := h.2.2.2.1
  have hn := gRun_le hv
  have h0 := hv.1
  unfold v_X12_worthOf
  refine n_runs h hp (fun J1 hR hM1 hp1 f1 f2 => m_allNotes hM1 (gRun_TV hv) hR.1 hn ?_)
  rintro J3 rfl
  rintro J4 rfl
  have e4 : up2 (up2 J1 128 18 (s : Int)) 128 19 th 128 = up1 (up1 (J1 128) 18 (s : Int)) 19 th := by rw [up2_s, up2_s]
  have o4 : ∀ c, c ≠ 128 → up2 (up2 J1 128 18 (s : Int)) 128 19 th c = J1 c := fun c hc => by rw [up2_n _ _ _ hc, up2_n _ _ _ hc]
  have k4 : ∀ i, i ≠ 18 → i ≠ 19 → up2 (up2 J1 128 18 (s : Int)) 128 19 th 128 i = J1 128 i := fun i h1 h2 => by rw [e4, up1_n _ _ h2, up1_n _ _ h1]
  have q18 : up2 (up2 J1 128 18 (s : Int)) 128 19 th 128 18 = (s : Int) := by rw [e4, up1_n _ _ (by decide), up1_s]
  have q19 : up2 (up2 J1 128 18 (s : Int)) 128 19 th 128 19 = th := by rw [e4, up1_s]
  generalize up2 (up2 J1 128 18 (s : Int)) 128 19 th = J4 at e4 o4 k4 q18 q19
  have hM4 : MH J4 b g (J4 128) := by
    refine ⟨by rw [k4 12 (by decide) (by decide)]; exact hM1.1, hM1.2.1, ?_, hv, ?_, fun _ _ _ _ => rfl⟩
    · have := hM1.2.2.1
      unfold gB at this ⊢; rw [o4 129 (by decide)]; exact this
    · have := hM1.2.2.2.2.1
      unfold UV at this ⊢; rw [q19, k4 21 (by decide) (by decide)]; exact ⟨by omega, this.2⟩
  have p13 : J4 128 13 = -1 := by rw [k4 13 (by decide) (by decide)]; exact hp1.1
  have p15 : J4 128 15 = -1 := by rw [k4 15 (by decide) (by decide)]; exact hp1.2.1
  have p17 : J4 128 17 = -1 := by rw [k4 17 (by decide) (by decide)]; exact hp1.2.2.1
  have p20 : J4 128 20 = -1 := by rw [k4 20 (by decide) (by decide)]; exact hp1.2.2.2.2.1
  have p22 : J4 128 22 = 0 := by rw [k4 22 (by decide) (by decide)]; exact hp1.2.2.2.2.2
  have hTV := mRun_TV (u := J4 128) hv hM4.2.2.2.2.1 (Or.inl p13) (Or.inl p15)
  have hml := mRun_le (u := J4 128) hv
  refine m_runs hM4 (Or.inl p13) (Or.inl p15) p22 (fun J5 hO5 hM5 f5 f6 => ?_)
  rintro J6 rfl
  have hR6 : MR (up2 J5 128 18 (-1)) (mRun (J4 128) g).1 (mRun (J4 128) g).2 := MR_frame (fun j hj => up2_n _ _ _ (by omega)) (by rw [up2_s, up1_n _ _ (by decide)]) hO5.1
  have o6 : ∀ i, i ≠ 18 → up2 J5 128 18 (-1) 128 i = J5 128 i := fun i hi => by rw [up2_s, up1_n _ _ hi]
  have q6 : up2 J5 128 18 (-1) 128 18 = -1 := by rw [up2_s, up1_s]
  have c6 : ∀ c, c ≠ 128 → up2 J5 128 18 (-1) c = J5 c := fun c hc => up2_n _ _ _ hc
  generalize up2 J5 128 18 (-1) = J6 at hR6 o6 q6 c6
  have hM6 : MH J6 b g (J6 128) := by
    refine ⟨by rw [o6 12 (by decide)]; exact hM5.1, hM5.2.1, ?_, hv, ?_, fun _ _ _ _ => rfl⟩
    · have := hM5.2.2.1
      unfold gB at this ⊢; rw [c6 129 (by decide)]; exact this
    · have := UV_of hM5
      unfold UV at this ⊢; rw [o6 19 (by decide), o6 21 (by decide)]; exact this
  refine m_allNotes hM6 hTV hR6 hml ?_
  have le := laid_eq (u := J4 128) (th := th) (s := s) hv p13 p15 p17 q18 q19 p20
  rw [le]
  have rs := sumZ_rng (f := wT g th s) (m := 31) (gRun g).1 (fun i _ => wT_rng g th s i)
  refine ⟨⟨by unfold wF; omega, by unfold wF; omega⟩, hq J6 hM6 ?_ (fun c h1 h2 => ?_)⟩
  · unfold UP
    rw [o6 13 (by decide), o6 15 (by decide), o6 17 (by decide), q6, o6 20 (by decide), o6 22 (by decide), f6 13 (by decide), f6 15 (by decide), f6 17 (by decide), f6 20 (by decide), f6 22 (by decide)]
    exact ⟨p13, p15, p17, rfl, p20, p22⟩
  · rw [c6 c (by omega), f5 c h1 h2, o4 c (by omega), f1 c h1 h2]
theorem m_worth {J : mJ} {a1 a2 a3 : Int} {t : Nat} (hI : TI J t (J 129)) (hU : UV (J 128)) {post' : Int → mJ → Prop} (hq : ∀ J1, MF J J1 → post' (aWorth (J 129) a1 a2 a3) J1) : v_X12_worth J 128 a1 a2 a3 post' := by
  unfold v_X12_worth
  refine n_isHouse hI hU (fun c => ⟨fun _ => lf (hq J (MF_refl hU)) ?_, fun c2 => Bool.noConfusion c2⟩) (fun k J1 ek hk hk2 hM hp f1 f2 => ⟨fun c2 => Bool.noConfusion c2, fun _ => ?_⟩)
  · unfold aWorth; rw [if_neg (fun c2 => c c2.1)]
  · have h1 := hq J1 (MF_one f1 (UV_of hM))
    subst ek
    unfold aWorth at h1 hq
    rw [Int.toNat_natCast] at h1 hq
    have hv := hM.2.2.2.1
    generalize gH (J 129) k = g at hM hv h1 hq
    have h0 := hv.1
    have go : (a2 = -1 ∨ 0 ≤ a2 ∧ a2 < g 0) → v_X12_worth_21 128 (k : Int) a2 a3 post' J1 := by
      intro c2
      unfold v_X12_worth_21
      refine n_isIn (fun c => ⟨fun c2 => Bool.noConfusion c2, fun _ => ?_⟩) (fun c => ⟨fun _ => ⟨fun c3 => ?_, fun c3 => ?_⟩, fun c2 => Bool.noConfusion c2⟩)
      · rw [if_neg (fun c4 => c c4.2.1)] at h1; exact h1
      · refine n_worthOf (s := 0) hM hp (by omega) c (fun J2 hM2 hp2 f3 => ?_)
        unfold v_X12_worth_60
        intro ZZ hZ
        refine lpN (S := fun i => ∀ J3, MH J3 (610 + 149 * k) g (J3 128) → UP (J3 128) → (∀ c, (c < 128 ∨ 128 < c) → (c < 132 ∨ 143 < c) → J3 c = J1 c) → ZZ J3 ((bestF (wF g a3) i : Nat) : Int) (wF g a3 (bestF (wF g a3) i)) ((i + 1 : Nat) : Int)) (N := (g 0).toNat - 1) (fun i hi ih J3 hM3 hp3 f4 => hZ _ _ _ _ (n_of hM3 (j := 0) rfl (by decide) ?_)) (fun J3 hM3 hp3 f4 => hZ _ _ _ _ (n_of hM3 (j := 0) rfl (by decide) ⟨fun _ => ?_, fun c => by omega⟩)) J2 hM2 hp2 f3
        · rw [bestF] at ih
          refine ⟨fun c => by omega, fun _ => n_worthOf (s := i + 1) hM3 hp3 (by omega) c (fun J4 hM4 hp4 f5 => ?_)⟩
          have ih := ih J4 hM4 hp4 (fun c h1 h2 => by rw [f5 c h1 h2, f4 c h1 h2])
          refine ⟨fun c4 => ⟨fun _ => ⟨⟨by omega, by omega⟩, ?_⟩, fun c5 => absurd c4 c5⟩, fun c4 => ⟨fun c5 => absurd c5 c4, fun _ => ⟨⟨by omega, by omega⟩, ?_⟩⟩⟩
          · rintro _ rfl
            rw [if_neg (by omega)] at ih; exact ih
          · rintro _ rfl
            rw [if_pos (by omega)] at ih; exact ih
        · have h := hq J3 (MF_run f1 f4 (UV_of hM3))
          rw [if_pos ⟨⟨by omega, hk⟩, c, c2⟩, if_pos c3] at h; exact h
      · obtain ⟨s, rfl⟩ : ∃ s : Nat, a2 = (s : Int) := ⟨a2.toNat, by omega⟩
        refine n_worthOf hM hp (by omega) c (fun J2 hM2 hp2 f3 => ?_)
        have h := hq J2 (MF_run f1 f3 (UV_of hM2))
        rw [if_pos ⟨⟨by omega, hk⟩, c, c2⟩, if_neg c3, Int.toNat_natCast] at h; exact h
    refine ⟨fun c => go (Or.inl c), fun c => n_isStep hM (fun c2 => ⟨fun _ => ?_, fun c2 => Bool.noConfusion c2⟩) (fun s es hs hs24 => ⟨fun c2 => Bool.noConfusion c2, fun _ => go (Or.inr (by omega))⟩)⟩
    rw [if_neg (by omega)] at h1; exact h1
