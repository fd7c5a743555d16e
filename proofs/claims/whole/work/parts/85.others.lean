/-! treads of all others, ahead of one in a minute -/
def latP (P : Nat → Bool) : Nat → Int
  | 0 => -1
  | n + 1 => if P n = true then (n : Int) else latP P n
theorem latP_rng (P : Nat → Bool) : ∀ n, -1 ≤ latP P n ∧ latP P n < (n : Int)
  | 0 => ⟨Int.le_refl _, by show (-1 : Int) < ((0 : Nat) : Int); omega⟩
  | n + 1 => by have := latP_rng P n; rw [latP]; split <;> omega
theorem latP_cong {P Q : Nat → Bool} : ∀ n, (∀ k, k < n → P k = Q k) → latP P n = latP Q n
  | 0, _ => rfl
  | n + 1, h => by rw [latP, latP, latP_cong n (fun k hk => h k (by omega)), h n (by omega)]
theorem latP_cut {P : Nat → Bool} {k : Nat} : ∀ d, (∀ j, k ≤ j → j < k + d → P j = false) → latP P (k + d) = latP P k
  | 0, _ => rfl
  | d + 1, h => by
    rw [← Nat.add_assoc, latP, if_neg (by rw [h (k + d) (by omega) (by omega)]; decide)]
    exact latP_cut d (fun j h1 h2 => h j h1 (by omega))
theorem latP_at {P : Nat → Bool} : ∀ n, latP P n ≠ -1 → P (latP P n).toNat = true
  | 0, h => absurd rfl h
  | n + 1, h => by
    rw [latP] at h ⊢
    by_cases c : P n = true
    · rw [if_pos c, Int.toNat_natCast]; exact c
    · rw [if_neg c] at h ⊢; exact latP_at n h
theorem latP_ge {P : Nat → Bool} {i : Nat} (hi : P i = true) : ∀ n, i < n → (i : Int) ≤ latP P n
  | 0, h => absurd h (Nat.not_lt_zero _)
  | n + 1, h => by
    rw [latP]
    split
    · omega
    · next c =>
      by_cases e : i = n
      · subst e; exact absurd hi c
      · exact latP_ge hi n (by omega)
theorem latP_none {P : Nat → Bool} : ∀ n, latP P n = -1 → ∀ k, k < n → P k = false
  | 0, _, k, hk => absurd hk (Nat.not_lt_zero _)
  | n + 1, h, k, hk => by
    apply Bool.eq_false_iff.mpr
    intro c
    have := latP_ge c (n + 1) hk
    omega
def ahB (T : Nat → Nat → Int) (p : Nat) (t : Int) (k : Nat) : Bool := decide (T 2 k < t ∨ T 2 k = t ∧ T 0 k < (p : Int))
def otB (T : Nat → Nat → Int) (p s k : Nat) : Bool := decide (T 0 k ≠ (p : Int) ∧ T 1 k = (s : Int))
def lO (n : Nat) (T : Nat → Nat → Int) (p s : Nat) (t : Int) : Int := latP (fun k => otB T p s k && ahB T p t k) n
def tdB (T : Nat → Nat → Int) (p : Nat) (t : Int) (k : Nat) : Nat := if T 0 k ≠ (p : Int) ∧ T 2 k = t then 2 ^ (T 1 k).toNat else 0
def WO (J : mJ) (o n : Nat) (T : Nat → Nat → Int) (p first m : Nat) : Prop := J o 0 = (first : Int) ∧ J o 1 = (m : Int) ∧ (∀ i s : Nat, i < m → s < 24 → J (o + 1) (i * 24 + s) = lO n T p s ((first + i : Nat) : Int)) ∧ (∀ i : Nat, i < m → J (o + 2) i = ((orF (tdB T p ((first + i : Nat) : Int)) n : Nat) : Int))
theorem lO_cut {n k p s : Nat} {T : Nat → Nat → Int} {t : Int} (ho : ∀ i j, i < j → j < n → T 2 i < T 2 j ∨ T 2 i = T 2 j ∧ T 0 i < T 0 j) (hk : k ≤ n) (h1 : ∀ j, j < k → ahB T p t j = true) (h2 : k < n → ahB T p t k = false) : lO n T p s t = latP (otB T p s) k := by
  unfold lO
  rw [show n = k + (n - k) by omega, latP_cut (n - k) (fun j g1 g2 => ?_)]
  · exact latP_cong k (fun j hj => by rw [h1 j hj, Bool.and_true])
  · have hkn : k < n := by omega
    have hf : ahB T p t j = false := by
      have h2 := h2 hkn
      unfold ahB at h2 ⊢
      rw [decide_eq_false_iff_not] at h2 ⊢
      by_cases e : j = k
      · subst e; exact h2
      · have := ho k j (by omega) (by omega)
        omega
    rw [hf, Bool.and_false]
theorem cpyZ_in {J : mJ} {a b sp dp n i : Nat} (h : dp ≤ i ∧ i < dp + n) : cpyZ J a b sp dp n b i = J a (sp + (i - dp)) := by
  unfold cpyZ; rw [if_pos rfl]; exact pk_cpy_in h.1 h.2
theorem cpyZ_out {J : mJ} {a b sp dp n i : Nat} (h : ¬ (dp ≤ i ∧ i < dp + n)) : cpyZ J a b sp dp n b i = J b i := by
  unfold cpyZ; rw [if_pos rfl]; exact pk_cpy_out (by omega)
theorem cpyZ_n {J : mJ} {a b sp dp n c : Nat} (h : c ≠ b) : cpyZ J a b sp dp n c = J c := by
  unfold cpyZ; rw [if_neg h]
theorem x_watch {J : mJ} {e h : Nat} {g : Nat → Int} (hv : HV g) (hO : EvO J e g) (he : 70 ≤ e) {p first m : Nat} (hp : (p : Int) < g 3) (hm : m ≤ 100) (hfi : first ≤ 100) {post' : mJ → Prop} (hq : ∀ J1, (∀ c, (c < 66 ∨ 69 < c) → J1 c = J c) → WO J1 66 (gRun g).1 (gRun g).2 p first m → post' J1) : v_X4_watch J 66 e h (p : Int) (first : Int) (m : Int) post' := by
  have hn := gRun_le hv
  have h0 := hv.1
  have h3 := hv.2.2.2.1
  have ho := (gTW (g := g)).1.1
  unfold v_X4_watch
  rintro J1 rfl
  rintro J2 rfl
  refine p_fill (by decide) (p_fill (by decide) ?_)
  have em : minZ (m : Int) 100 = (m : Int) := by unfold minZ; split <;> omega
  rw [em]
  generalize hJ0 : fillZ (fillZ (up2 (up2 J 66 0 (first : Int)) 66 1 (m : Int)) (66 + 3) 24 (-1)) (66 + 2) 100 0 = J0
  have f0 : ∀ c, (c < 66 ∨ 69 < c) → J0 c = J c := fun c hc => by
    rw [← hJ0, fillZ_n (by omega), fillZ_n (by omega), up2_n _ _ _ (by omega), up2_n _ _ _ (by omega)]
  have a0 : J0 66 0 = (first : Int) := by
    rw [← hJ0, fillZ_n (by omega), fillZ_n (by omega), up2_s, up1_n _ _ (by decide), up2_s, up1_s]
  have a1 : J0 66 1 = (m : Int) := by
    rw [← hJ0, fillZ_n (by omega), fillZ_n (by omega), up2_s, up1_s]
  have a3 : ∀ s : Nat, s < 24 → J0 69 s = -1 := fun s hs => by
    rw [← hJ0, fillZ_n (by omega)]; exact fillZ_s hs
  have a2 : ∀ i : Nat, i < 100 → J0 68 i = 0 := fun i hi => by
    rw [← hJ0]; exact fillZ_s hi
  clear hJ0
  unfold v_X4_watch_38
  intro ZZ hZ
  refine lpN (S := fun i => ∀ (J1 : mJ) (k : Nat), (∀ c, c ≠ 67 → c ≠ 69 → J1 c = J0 c) → k ≤ (gRun g).1 → (∀ s : Nat, s < 24 → J1 69 s = latP (otB (gRun g).2 p s) k) → (∀ j, j < k → ahB (gRun g).2 p ((first + i : Nat) : Int) j = true) → (∀ i' s : Nat, i' < i → s < 24 → J1 67 (i' * 24 + s) = lO (gRun g).1 (gRun g).2 p s ((first + i' : Nat) : Int)) → ZZ J1 (k : Int) (i : Int)) (N := m) (fun i hi ih J1 k fr hk hnow hah hlat => hZ _ _ _ ?_) (fun J1 k fr hk hnow hah hlat => hZ _ _ _ ?_) J0 0 (fun _ _ _ => rfl) (Nat.zero_le _) (fun s hs => a3 s hs) (fun j hj => absurd hj (Nat.not_lt_zero _)) (fun i' s hi' => absurd hi' (Nat.not_lt_zero _))
  · rw [fr 66 (by decide) (by decide), a1]
    refine ⟨fun c => by omega, fun _ => ?_⟩
    unfold v_X4_watch_47
    intro Z2 hZ2
    -- what follows the inner loop, once the pointer stands
    have fin : ∀ (J1 : mJ) (k : Nat), (∀ c, c ≠ 67 → c ≠ 69 → J1 c = J0 c) → k ≤ (gRun g).1 → (∀ s : Nat, s < 24 → J1 69 s = latP (otB (gRun g).2 p s) k) → (∀ j, j < k → ahB (gRun g).2 p ((first + i : Nat) : Int) j = true) → (∀ i' s : Nat, i' < i → s < 24 → J1 67 (i' * 24 + s) = lO (gRun g).1 (gRun g).2 p s ((first + i' : Nat) : Int)) → (k < (gRun g).1 → ahB (gRun g).2 p ((first + i : Nat) : Int) k = false) → v_X4_watch_104 66 e h (p : Int) (first : Int) (m : Int) post' ZZ J1 (k : Int) (i : Int) := by
      intro J1 k fr hk hnow hah hlat hst
      unfold v_X4_watch_104
      rw [show ((i : Int) * 24).toNat = i * 24 by omega]
      refine ⟨⟨by omega, by omega⟩, ⟨by decide, by omega, by omega, by omega, by omega, by omega⟩, ?_⟩
      rintro J2 rfl
      refine ⟨⟨by omega, by omega⟩, ?_⟩
      rintro _ rfl
      refine ih _ k (fun c h1 h2 => by rw [cpyZ_n h1]; exact fr c h1 h2) hk (fun s hs => by rw [cpyZ_n (by decide)]; exact hnow s hs) (fun j hj => ?_) (fun i' s hi' hs => ?_)
      · have := hah j hj
        unfold ahB at this ⊢
        rw [decide_eq_true_eq] at this ⊢
        omega
      · by_cases e : i' = i
        · subst e
          show cpyZ J1 (66 + 3) (66 + 1) 0 (i' * 24) 24 (66 + 1) (i' * 24 + s) = _
          rw [cpyZ_in (by omega), lO_cut ho hk hah hst, show 0 + (i' * 24 + s - i' * 24) = s by omega]
          exact hnow s hs
        · show cpyZ J1 (66 + 3) (66 + 1) 0 (i * 24) 24 (66 + 1) (i' * 24 + s) = _
          rw [cpyZ_out (by omega)]
          exact hlat i' s (by omega) hs
    have key : ∀ (d k : Nat) (J1 : mJ), k + d = (gRun g).1 → (∀ c, c ≠ 67 → c ≠ 69 → J1 c = J0 c) → (∀ s : Nat, s < 24 → J1 69 s = latP (otB (gRun g).2 p s) k) → (∀ j, j < k → ahB (gRun g).2 p ((first + i : Nat) : Int) j = true) → (∀ i' s : Nat, i' < i → s < 24 → J1 67 (i' * 24 + s) = lO (gRun g).1 (gRun g).2 p s ((first + i' : Nat) : Int)) → Z2 J1 (k : Int) (i : Int) := by
      intro d
      induction d with
      | zero =>
        intro k J1 hkd fr hnow hah hlat
        apply hZ2
        rw [fr e (by omega) (by omega), f0 e (by omega), hO.1.1]
        exact ⟨fun _ => fin J1 k fr (by omega) hnow hah hlat (fun c => by omega), fun c => by omega⟩
      | succ d ihd =>
        intro k J1 hkd fr hnow hah hlat
        apply hZ2
        have hk : k < (gRun g).1 := by omega
        have col : ∀ j, j < 9 → J1 (e + 1 + j) k = (gRun g).2 j k := fun j hj => by
          rw [fr _ (by omega) (by omega), f0 _ (by omega)]; exact hO.1.2.1 j k hj hk
        obtain ⟨t0, t1, t2, _⟩ := gRun_TV hv k hk
        rw [fr e (by omega) (by omega), f0 e (by omega), hO.1.1, fr 66 (by decide) (by decide), a0]
        refine ⟨fun c => by omega, fun _ => ⟨⟨by omega, by omega⟩, ?_⟩⟩
        unfold v_X4_isAhead
        simp only [Int.toNat_natCast]
        rw [show J1 (e + 3) k = _ from col 2 (by decide), show J1 (e + 1) k = _ from col 0 (by decide), show J1 (e + 2) k = _ from col 1 (by decide)]
        have hno : ¬ ((gRun g).2 2 k < ((first + i : Nat) : Int) ∨ (gRun g).2 2 k = ((first + i : Nat) : Int) ∧ (gRun g).2 0 k < (p : Int)) → v_X4_watch_104 66 e h (p : Int) (first : Int) (m : Int) post' ZZ J1 (k : Int) (i : Int) := fun c => fin J1 k fr (by omega) hnow hah hlat (fun _ => decide_eq_false c)
        have hyes : ((gRun g).2 2 k < ((first + i : Nat) : Int) ∨ (gRun g).2 2 k = ((first + i : Nat) : Int) ∧ (gRun g).2 0 k < (p : Int)) → (0 ≤ (k : Int) ∧ (k : Int) < 600) ∧ ((gRun g).2 0 k = (p : Int) → ir ((k : Int) + 1) ∧ ∀ y9, y9 = (k : Int) + 1 → Z2 J1 y9 (i : Int)) ∧ (¬ (gRun g).2 0 k = (p : Int) → (0 ≤ (k : Int) ∧ (k : Int) < 600) ∧ (0 ≤ (gRun g).2 1 k ∧ (gRun g).2 1 k < 24) ∧ ∀ J12, J12 = up2 J1 (66 + 3) (((gRun g).2 1 k).toNat) (k : Int) → ir ((k : Int) + 1) ∧ ∀ y14, y14 = (k : Int) + 1 → Z2 J12 y14 (i : Int)) := by
          intro ca
          have hah1 : ∀ j, j < k + 1 → ahB (gRun g).2 p ((first + i : Nat) : Int) j = true := fun j hj => by
            by_cases e : j = k
            · subst e; exact decide_eq_true ca
            · exact hah j (by omega)
          refine ⟨⟨by omega, by omega⟩, fun c => ⟨⟨by omega, by omega⟩, ?_⟩, fun c => ⟨⟨by omega, by omega⟩, ⟨by omega, by omega⟩, ?_⟩⟩
          · rintro _ rfl
            refine ihd (k + 1) J1 (by omega) fr (fun s hs => ?_) hah1 hlat
            rw [latP, if_neg (by unfold otB; rw [decide_eq_true_eq]; exact fun c2 => c2.1 c)]; exact hnow s hs
          · rintro J12 rfl
            refine ⟨⟨by omega, by omega⟩, ?_⟩
            rintro _ rfl
            refine ihd (k + 1) _ (by omega) (fun c h1 h2 => by rw [up2_n _ _ _ h2]; exact fr c h1 h2) (fun s hs => ?_) hah1 (fun i' s hi' hs => by rw [up2_n _ _ _ (by decide)]; exact hlat i' s hi' hs)
            rw [latP]
            show up2 J1 (66 + 3) _ _ (66 + 3) s = _
            rw [up2_s]
            by_cases e : s = ((gRun g).2 1 k).toNat
            · rw [e, up1_s, if_pos (by unfold otB; rw [decide_eq_true_eq]; exact ⟨c, by omega⟩)]
            · rw [up1_n _ _ e, if_neg (by unfold otB; rw [decide_eq_true_eq]; exact fun c2 => e (by omega))]
              exact hnow s hs
        refine ⟨⟨by omega, by omega⟩, fun c => ⟨fun c2 => Bool.noConfusion c2, fun _ => hyes (by omega)⟩, fun c => ⟨⟨by omega, by omega⟩, fun c2 => ⟨fun _ => hno (by omega), fun c2 => Bool.noConfusion c2⟩, fun c2 => ⟨⟨by omega, by omega⟩, fun c3 => ⟨fun _ => hno (by omega), fun c2 => Bool.noConfusion c2⟩, fun c3 => ⟨fun c2 => Bool.noConfusion c2, fun _ => hyes (by omega)⟩⟩⟩⟩
    exact key ((gRun g).1 - k) k J1 (by omega) fr hnow hah hlat
  · rw [fr 66 (by decide) (by decide), a1]
    refine ⟨fun _ => ?_, fun c => absurd (Int.le_refl _) c⟩
    unfold v_X4_watch_129 v_X4_markTrodden v_X4_markTrodden_2
    intro Z2 hZ2
    have tlt : ∀ (t : Int) (k : Nat), k < (gRun g).1 → tdB (gRun g).2 p t k < 2 ^ 24 := fun t k hk => by
      obtain ⟨_, t1, _⟩ := gRun_TV hv k hk
      unfold tdB; split
      · exact Nat.pow_lt_pow_right (by decide) (by omega)
      · decide
    refine lpN (S := fun k => ∀ J2 : mJ, (∀ c, c ≠ 68 → J2 c = J1 c) → (∀ i : Nat, i < m → J2 68 i = ((orF (tdB (gRun g).2 p ((first + i : Nat) : Int)) k : Nat) : Int)) → Z2 J2 (k : Int)) (N := (gRun g).1) (fun k hk ih J2 f2 ht => hZ2 _ _ ?_) (fun J2 f2 ht => hZ2 _ _ ?_) J1 (fun _ _ => rfl) (fun i hi => by rw [fr 68 (by decide) (by decide)]; exact a2 i (by omega))
    · have col : ∀ j, j < 9 → J2 (e + 1 + j) k = (gRun g).2 j k := fun j hj => by
        rw [f2 _ (by omega), fr _ (by omega) (by omega), f0 _ (by omega)]; exact hO.1.2.1 j k hj hk
      obtain ⟨t0, t1, t2, _⟩ := gRun_TV hv k hk
      rw [f2 e (by omega), fr e (by omega) (by omega), f0 e (by omega), hO.1.1, f2 66 (by decide), fr 66 (by decide) (by decide), a0, a1]
      simp only [Int.toNat_natCast]
      rw [show J2 (e + 3) k = _ from col 2 (by decide), show J2 (e + 1) k = _ from col 0 (by decide), show J2 (e + 2) k = _ from col 1 (by decide)]
      have nx : (∀ i : Nat, i < m → ¬ ((gRun g).2 0 k ≠ (p : Int) ∧ (gRun g).2 2 k = ((first + i : Nat) : Int))) → ∀ y, y = (k : Int) + 1 → Z2 J2 y := by
        intro hno
        rintro _ rfl
        refine ih J2 f2 (fun i hi => ?_)
        rw [orF, ht i hi]
        unfold tdB; rw [if_neg (hno i hi), Nat.or_zero]
      refine ⟨fun c => by omega, fun _ => ⟨⟨by omega, by omega⟩, ⟨by omega, by omega⟩, ?_⟩⟩
      rintro _ rfl
      refine ⟨⟨by omega, by omega⟩, fun c => ⟨⟨by omega, by omega⟩, nx (fun i hi c2 => c2.1 c)⟩, fun c => ⟨fun c2 => ⟨⟨by omega, by omega⟩, nx (fun i hi c3 => by omega)⟩, fun c2 => ⟨fun c3 => ⟨⟨by omega, by omega⟩, nx (fun i hi c4 => by omega)⟩, fun c3 => ⟨⟨by omega, by omega⟩, ⟨by omega, by omega⟩, ⟨by omega, by omega⟩, ?_⟩⟩⟩⟩
      rintro J3 rfl
      refine ⟨⟨by omega, by omega⟩, ?_⟩
      rintro _ rfl
      refine ih _ (fun c hc => by rw [up2_n _ _ _ hc]; exact f2 c hc) (fun i hi => ?_)
      show up2 J2 (66 + 2) _ _ (66 + 2) i = _
      rw [up2_s, orF]
      by_cases ei : i = ((gRun g).2 2 k - (first : Int)).toNat
      · have e2 : (gRun g).2 2 k = ((first + i : Nat) : Int) := by omega
        rw [ei, up1_s, ← ei]
        show orZ (J2 68 i) _ = _
        rw [ht i hi]
        obtain ⟨s, es⟩ : ∃ s : Nat, (gRun g).2 1 k = (s : Int) := ⟨((gRun g).2 1 k).toNat, by omega⟩
        have l1 : orF (tdB (gRun g).2 p ((first + i : Nat) : Int)) k < 2 ^ 24 := orF_lt (b := 24) k (fun j hj => tlt _ j (by omega))
        have l2 : 2 ^ s ≤ 2 ^ 23 := Nat.pow_le_pow_right (by decide) (by omega)
        rw [es, shlZ_one (by omega), orZ_nat (by omega) (by omega)]
        unfold tdB; rw [if_pos (c := (gRun g).2 0 k ≠ (p : Int) ∧ (gRun g).2 2 k = ((first + i : Nat) : Int)) ⟨c, e2⟩, es, Int.toNat_natCast]
      · rw [up1_n _ _ ei]
        show J2 68 i = _
        rw [ht i hi]
        unfold tdB; rw [if_neg (c := (gRun g).2 0 k ≠ (p : Int) ∧ (gRun g).2 2 k = ((first + i : Nat) : Int)) (fun c4 => ei (by omega)), Nat.or_zero]
    · rw [f2 e (by omega), fr e (by omega) (by omega), f0 e (by omega), hO.1.1]
      refine ⟨fun _ => hq J2 (fun c hc => by rw [f2 c (by omega), fr c (by omega) (by omega), f0 c hc]) ⟨?_, ?_, fun i s hi hs => ?_, fun i hi => ht i hi⟩, fun c => absurd (Int.le_refl _) c⟩
      · rw [f2 66 (by decide), fr 66 (by decide) (by decide)]; exact a0
      · rw [f2 66 (by decide), fr 66 (by decide) (by decide)]; exact a1
      · rw [f2 (66 + 1) (by decide)]; exact hlat i s hi hs
theorem x_latestOn {J : mJ} {o n p first m : Nat} {T : Nat → Nat → Int} (h : WO J o n T p first m) (hm : m ≤ 100) (hf : first ≤ 200) {s t : Nat} (hs : s < 24) (ht : first ≤ t ∧ t < first + m) {post' : Int → Prop} (hq : post' (lO n T p s (t : Int))) : v_X4_latestOn J o (s : Int) (t : Int) post' := by
  unfold v_X4_latestOn
  rw [h.1, h.2.1]
  refine ⟨⟨by omega, by omega⟩, ?_⟩
  rintro _ rfl
  refine ⟨fun c => by omega, fun _ => ⟨fun c => by omega, fun _ => ⟨⟨by omega, by omega⟩, ⟨by omega, by omega⟩, p_X11_pick (by decide) ?_⟩⟩⟩
  rw [if_pos ⟨by omega, by omega, by omega⟩, show (((t : Int) - (first : Int)) * 24 + (s : Int)).toNat = (t - first) * 24 + s by omega, h.2.2.1 (t - first) s (by omega) hs, show first + (t - first) = t by omega]
  exact hq
def cvB (n : Nat) (T : Nat → Nat → Int) (p s : Nat) (t : Int) : Bool := (orF (tdB T p t) n).testBit s
theorem x_cover {J : mJ} {o n p first m : Nat} {g : Nat → Int} {T : Nat → Nat → Int} (hV : TV g n T) (hg : g 0 ≤ 24) (h : WO J o n T p first m) (hm : m ≤ 100) (hf : first ≤ 200) {s t : Nat} (hs : s < 24) (ht : first ≤ t ∧ t < first + m) {post' : Bool → Prop} (hq : post' (cvB n T p s (t : Int))) : v_X4_cover J o (s : Int) (t : Int) post' := by
  unfold v_X4_cover
  rw [h.1, h.2.1]
  refine ⟨⟨by omega, by omega⟩, ?_⟩
  rintro _ rfl
  have l1 : orF (tdB T p (t : Int)) n < 2 ^ 24 := orF_lt (b := 24) n (fun k hk => by
    obtain ⟨_, t1, _⟩ := hV k hk
    unfold tdB; split
    · exact Nat.pow_lt_pow_right (by decide) (by omega)
    · decide)
  refine ⟨fun c => by omega, fun _ => ⟨fun c => by omega, fun _ => ⟨⟨by omega, by omega⟩, ?_⟩⟩⟩
  rw [show ((t : Int) - (first : Int)).toNat = t - first by omega, h.2.2.2 (t - first) (by omega), show first + (t - first) = t by omega]
  unfold cvB at hq
  refine p_X11_has (by omega) (by omega) ⟨fun c => ?_, fun c => ?_⟩
  · rw [c] at hq; exact hq
  · rw [c] at hq; exact hq
