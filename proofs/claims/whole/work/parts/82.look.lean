/-! looked at: the longest hush, the busiest step, copies, shoes heard -/
def nzB (T : Nat → Nat → Int) (k : Nat) : Bool := decide (oZ (T 6 k) (T 7 k) ≠ 0)
def smB (T : Nat → Nat → Int) (n m : Nat) : Bool := anyF (fun k => decide (T 2 k = (m : Int)) && nzB T k) n
def hoS (P : Nat → Bool) : Nat → Int × Int
  | 0 => (0, 0)
  | m + 1 => (maxZ (hoS P m).1 (if P m = true then 0 else (hoS P m).2 + 1), if P m = true then 0 else (hoS P m).2 + 1)
def hsS (T : Nat → Nat → Int) : Nat → Int × Int
  | 0 => (0, -1)
  | k + 1 => if nzB T k = true then (maxZ (hsS T k).1 (T 2 k - (hsS T k).2 - 1), T 2 k) else hsS T k
theorem hoS_quiet {P : Nat → Bool} {a : Nat} (h0 : (hoS P a).2 = 0) (h1 : 0 ≤ (hoS P a).1) : ∀ d : Nat, (∀ m, a ≤ m → m < a + d → P m = false) → hoS P (a + d) = (maxZ (hoS P a).1 (d : Int), (d : Int))
  | 0, _ => by
    apply Prod.ext
    · show (hoS P a).1 = maxZ (hoS P a).1 ((0 : Nat) : Int)
      unfold maxZ; rw [if_neg (by omega)]
    · exact h0
  | d + 1, h => by
    have ih := hoS_quiet h0 h1 d (fun m h1 h2 => h m h1 (by omega))
    have hp := h (a + d) (by omega) (by omega)
    rw [← Nat.add_assoc, hoS, ih, if_neg (by rw [hp]; decide)]
    apply Prod.ext
    · show maxZ (maxZ (hoS P a).1 (d : Int)) ((d : Int) + 1) = maxZ (hoS P a).1 ((d + 1 : Nat) : Int)
      unfold maxZ; split <;> split <;> split <;> omega
    · show (d : Int) + 1 = ((d + 1 : Nat) : Int)
      omega
theorem hush_inv {g : Nat → Int} {n : Nat} {T : Nat → Nat → Int} (hV : TV g n T) (ho : ∀ i k, i < k → k < n → T 2 i ≤ T 2 k) : ∀ k, k ≤ n → (-1 ≤ (hsS T k).2 ∧ (hsS T k).2 ≤ 99) ∧ 0 ≤ (hsS T k).1 ∧ (hsS T k).1 = (hoS (smB T n) ((hsS T k).2 + 1).toNat).1 ∧ (hoS (smB T n) ((hsS T k).2 + 1).toNat).2 = 0 ∧ (∀ j, j < k → nzB T j = true → T 2 j ≤ (hsS T k).2) ∧ (∀ i, k ≤ i → i < n → (hsS T k).2 ≤ T 2 i)
  | 0, _ => ⟨⟨Int.le_refl _, by show (-1 : Int) ≤ 99; decide⟩, Int.le_refl _, rfl, rfl, fun j hj => absurd hj (Nat.not_lt_zero _), fun i _ hi => by have := (hV i hi).2.2.1; show -1 ≤ T 2 i; omega⟩
  | k + 1, hk => by
    obtain ⟨i1, i2, i3, i4, i5, i6⟩ := hush_inv hV ho k (by omega)
    have tr := (hV k (by omega)).2.2.1
    have tk := i6 k (Nat.le_refl _) (by omega)
    rw [hsS]
    by_cases hz : nzB T k = true
    · rw [if_pos hz]
      generalize (hsS T k).1 = h at i2 i3
      generalize (hsS T k).2 = t at i1 i3 i4 i5 i6 tk
      have hP : smB T n (T 2 k).toNat = true := (anyF_iff n).mpr ⟨k, by omega, by rw [hz, decide_eq_true (show T 2 k = ((T 2 k).toNat : Int) by omega)]; rfl⟩
      have last : ∀ j, j < k + 1 → nzB T j = true → T 2 j ≤ T 2 k := fun j hj hn => by
        by_cases hjk : j = k
        · subst hjk; exact Int.le_refl _
        · exact ho j k (by omega) (by omega)
      have next : ∀ i, k + 1 ≤ i → i < n → T 2 k ≤ T 2 i := fun i h1 h2 => ho k i (by omega) h2
      by_cases he : T 2 k = t
      · have em : maxZ h (T 2 k - t - 1) = h := by unfold maxZ; rw [if_neg (by omega)]
        show (-1 ≤ T 2 k ∧ T 2 k ≤ 99) ∧ 0 ≤ maxZ h (T 2 k - t - 1) ∧ maxZ h (T 2 k - t - 1) = (hoS (smB T n) (T 2 k + 1).toNat).1 ∧ (hoS (smB T n) (T 2 k + 1).toNat).2 = 0 ∧ (∀ j, j < k + 1 → nzB T j = true → T 2 j ≤ T 2 k) ∧ (∀ i, k + 1 ≤ i → i < n → T 2 k ≤ T 2 i)
        rw [em]
        exact ⟨by omega, i2, by rw [he]; exact i3, by rw [he]; exact i4, last, next⟩
      · have q := hoS_quiet (P := smB T n) (a := (t + 1).toNat) i4 (by rw [← i3]; exact i2) (T 2 k - t - 1).toNat (fun m h1 h2 => by
          apply Bool.eq_false_iff.mpr
          intro c
          obtain ⟨j, hj, hb⟩ := (anyF_iff n).mp c
          rw [Bool.and_eq_true, decide_eq_true_eq] at hb
          by_cases hjk : j < k
          · have := i5 j hjk hb.2; omega
          · by_cases hjk2 : j = k
            · subst hjk2; omega
            · have := ho k j (by omega) hj; omega)
        rw [show (t + 1).toNat + (T 2 k - t - 1).toNat = (T 2 k).toNat by omega, ← i3] at q
        have e2 : hoS (smB T n) (T 2 k + 1).toNat = (maxZ h (T 2 k - t - 1), 0) := by
          rw [show (T 2 k + 1).toNat = (T 2 k).toNat + 1 by omega, hoS, if_pos hP, q]
          apply Prod.ext
          · show maxZ (maxZ h (((T 2 k - t - 1).toNat : Nat) : Int)) 0 = _
            rw [show (((T 2 k - t - 1).toNat : Nat) : Int) = T 2 k - t - 1 by omega]
            unfold maxZ; split <;> split <;> omega
          · rfl
        show (-1 ≤ T 2 k ∧ T 2 k ≤ 99) ∧ 0 ≤ maxZ h (T 2 k - t - 1) ∧ maxZ h (T 2 k - t - 1) = (hoS (smB T n) (T 2 k + 1).toNat).1 ∧ (hoS (smB T n) (T 2 k + 1).toNat).2 = 0 ∧ (∀ j, j < k + 1 → nzB T j = true → T 2 j ≤ T 2 k) ∧ (∀ i, k + 1 ≤ i → i < n → T 2 k ≤ T 2 i)
        rw [e2]
        exact ⟨by omega, by unfold maxZ; split <;> omega, rfl, rfl, last, next⟩
    · rw [if_neg hz]
      refine ⟨i1, i2, i3, i4, fun j hj hn => ?_, fun i h1 h2 => i6 i (by omega) h2⟩
      by_cases hjk : j = k
      · subst hjk; exact absurd hn hz
      · exact i5 j (by omega) hn
def hushF (n : Nat) (T : Nat → Nat → Int) : Int := (hoS (smB T n) 100).1
theorem hush_eq {g : Nat → Int} {n : Nat} {T : Nat → Nat → Int} (hV : TV g n T) (ho : ∀ i k, i < k → k < n → T 2 i ≤ T 2 k) : maxZ (hsS T n).1 (100 - (hsS T n).2 - 1) = hushF n T := by
  obtain ⟨i1, i2, i3, i4, i5, i6⟩ := hush_inv hV ho n (Nat.le_refl _)
  generalize (hsS T n).1 = h at i2 i3
  generalize (hsS T n).2 = t at i1 i3 i4 i5 i6
  have q := hoS_quiet (P := smB T n) (a := (t + 1).toNat) i4 (by rw [← i3]; exact i2) (100 - t - 1).toNat (fun m h1 h2 => by
    apply Bool.eq_false_iff.mpr
    intro c
    obtain ⟨j, hj, hb⟩ := (anyF_iff n).mp c
    rw [Bool.and_eq_true, decide_eq_true_eq] at hb
    have := i5 j hj hb.2; omega)
  rw [show (t + 1).toNat + (100 - t - 1).toNat = 100 by omega, ← i3] at q
  unfold hushF; rw [q]
  show _ = maxZ h (((100 - t - 1).toNat : Nat) : Int)
  rw [show (((100 - t - 1).toNat : Nat) : Int) = 100 - t - 1 by omega]
theorem gRun_ord {g : Nat → Int} : ∀ i k, i < k → k < (gRun g).1 → (gRun g).2 2 i ≤ (gRun g).2 2 k := fun i k h1 h2 => by
  have := gTW.1.1 i k h1 h2; omega
theorem x_longestHush {J : mJ} {e h : Nat} {g : Nat → Int} (hv : HV g) (hO : EvO J e g) {post' : Int → Prop} (hq : post' (hushF (gRun g).1 (gRun g).2)) : v_X2_longestHush J e h post' := by
  rw [← hush_eq (gRun_TV hv) gRun_ord] at hq
  have hn := gRun_le hv
  have hI := fun k hk => hush_inv (gRun_TV hv) gRun_ord k hk
  unfold v_X2_longestHush v_X2_longestHush_6
  intro ZZ hZ
  refine lpN (S := fun k => ZZ (hsS (gRun g).2 k).1 (hsS (gRun g).2 k).2 (k : Int)) (N := (gRun g).1) (fun k hk ih => hZ _ _ _ ?_) (hZ _ _ _ ⟨fun _ => ?_, fun c => absurd (Int.le_of_eq hO.1.1) c⟩)
  · rw [hO.1.1]
    have i1 := (hI k (by omega)).1
    have tr := (gRun_TV hv k hk).2.2.1
    rw [hsS] at ih
    refine ⟨fun c => by omega, fun _ => x_notedBy hv hO hk ⟨fun c => ⟨⟨by omega, by omega⟩, ?_⟩, fun c => ⟨⟨by omega, by omega⟩, ?_⟩⟩⟩
    · rintro _ rfl
      rw [if_neg (by unfold nzB; rw [decide_eq_true_eq]; exact fun c2 => c2 c)] at ih; exact ih
    · rw [if_pos (by unfold nzB; rw [decide_eq_true_eq]; exact c)] at ih
      rw [Int.toNat_natCast, show J (e + 3) k = _ from hO.1.2.1 2 k (by decide) hk]
      refine ⟨⟨by omega, by omega⟩, ⟨by omega, by omega⟩, ?_⟩
      rintro _ rfl
      refine ⟨⟨by omega, by omega⟩, ?_⟩
      rintro _ rfl
      refine ⟨⟨by omega, by omega⟩, ?_⟩
      rintro _ rfl
      exact ih
  · have i1 := (hI (gRun g).1 (Nat.le_refl _)).1
    exact ⟨⟨by omega, by omega⟩, ⟨by omega, by omega⟩, hq⟩
theorem hoS_rng (P : Nat → Bool) : ∀ m : Nat, (0 ≤ (hoS P m).1 ∧ (hoS P m).1 ≤ (m : Int)) ∧ 0 ≤ (hoS P m).2 ∧ (hoS P m).2 ≤ (m : Int)
  | 0 => ⟨⟨Int.le_refl _, Int.le_refl _⟩, Int.le_refl _, Int.le_refl _⟩
  | m + 1 => by
    have ih := hoS_rng P m
    rw [hoS]
    show (0 ≤ maxZ _ _ ∧ maxZ _ _ ≤ _) ∧ _ ∧ _
    unfold maxZ
    split <;> split <;> omega
theorem n_hollow {J : mJ} {g : Nat → Int} (hv : HV g) (hO : MP J g) {post' : Int → Prop} (hq : post' (hushF (gRun g).1 (gRun g).2)) : v_X12_hollow J 128 post' := by
  have hn := gRun_le hv
  unfold hushF at hq
  unfold v_X12_hollow v_X12_hollow_6
  intro ZZ hZ
  refine lpN (S := fun m => ZZ (hoS (smB (gRun g).2 (gRun g).1) m).1 (hoS (smB (gRun g).2 (gRun g).1) m).2 (m : Int)) (N := 100) (fun m hm ih => hZ _ _ _ ⟨fun c => by omega, fun _ => ?_⟩) (hZ _ _ _ ⟨fun _ => hq, fun c => absurd (Int.le_refl _) c⟩)
  have hr := hoS_rng (smB (gRun g).2 (gRun g).1) m
  rw [hoS] at ih
  generalize (hoS (smB (gRun g).2 (gRun g).1) m).1 = a at ih hr
  generalize (hoS (smB (gRun g).2 (gRun g).1) m).2 = b at ih hr
  unfold v_X12_hollow_18
  intro Z2 hZ2
  refine lpN (S := fun k => Z2 a b (m : Int) (bZ (anyF (fun k => decide ((gRun g).2 2 k = (m : Int)) && nzB (gRun g).2 k) k)) (k : Int)) (N := (gRun g).1) (fun k hk ih2 => hZ2 _ _ _ _ _ ?_) (hZ2 _ _ _ _ _ ⟨fun _ => ?_, fun c => absurd (Int.le_of_eq hO.1.1) c⟩)
  · rw [hO.1.1]
    simp only [Int.toNat_natCast]
    rw [show J (128 + 6) k = _ from hO.1.2 2 k (by decide) hk, show J (128 + 10) k = _ from hO.1.2 6 k (by decide) hk, show J (128 + 11) k = _ from hO.1.2 7 k (by decide) hk]
    obtain ⟨_, _, _, _, _, _, h6, h7, _⟩ := gRun_TV hv k hk
    rw [orZ_Z ⟨by omega, by omega⟩ ⟨by omega, by omega⟩]
    rw [anyF] at ih2
    cases hb : anyF (fun k => decide ((gRun g).2 2 k = (m : Int)) && nzB (gRun g).2 k) k
    · rw [hb, Bool.false_or] at ih2
      refine ⟨fun c => by omega, fun _ => ⟨fun c => absurd rfl c, fun _ => ⟨⟨by omega, by omega⟩, fun c2 => ⟨⟨by omega, by omega⟩, ?_⟩, fun c2 => ⟨⟨by omega, by omega⟩, ⟨by omega, by omega⟩, fun c3 => ⟨⟨by omega, by omega⟩, ?_⟩, fun c3 => ⟨⟨by omega, by omega⟩, ?_⟩⟩⟩⟩⟩
      · rintro _ rfl
        rw [decide_eq_false c2, Bool.false_and] at ih2; exact ih2
      · rintro _ rfl
        unfold nzB at ih2
        rw [decide_eq_false (p := oZ ((gRun g).2 6 k) ((gRun g).2 7 k) ≠ 0) (fun c4 => c4 c3), Bool.and_false] at ih2; exact ih2
      · rintro _ rfl
        unfold nzB at ih2
        rw [decide_eq_true c2, decide_eq_true c3] at ih2; exact ih2
    · rw [hb, Bool.true_or] at ih2
      refine ⟨fun c => by omega, fun _ => ⟨fun _ => ⟨⟨by omega, by omega⟩, ?_⟩, fun c => absurd c (by decide)⟩⟩
      rintro _ rfl
      exact ih2
  · show v_X12_hollow_74 J 128 post' ZZ a b (m : Int) (bZ (smB (gRun g).2 (gRun g).1 m))
    cases hb : smB (gRun g).2 (gRun g).1 m
    · rw [hb, if_neg Bool.false_ne_true] at ih
      refine ⟨fun _ => ⟨⟨by omega, by omega⟩, ?_⟩, fun c => absurd rfl c⟩
      change ZZ (maxZ a (b + 1)) (b + 1) _ at ih
      unfold maxZ at ih
      refine ⟨fun c2 => ⟨⟨by omega, by omega⟩, ?_⟩, fun c2 => ⟨⟨by omega, by omega⟩, ?_⟩⟩
      · rintro _ rfl
        rw [if_neg (by omega)] at ih; exact ih
      · rintro _ rfl
        rw [if_pos (by omega)] at ih; exact ih
    · rw [hb, if_pos rfl] at ih
      refine ⟨fun c => absurd c (by decide), fun _ => ?_⟩
      change ZZ (maxZ a 0) 0 _ at ih
      unfold maxZ at ih
      refine ⟨fun c2 => ⟨⟨by omega, by omega⟩, ?_⟩, fun c2 => ⟨⟨by omega, by omega⟩, ?_⟩⟩
      · rintro _ rfl
        rw [if_neg (by omega)] at ih; exact ih
      · rintro _ rfl
        rw [if_pos (by omega)] at ih; exact ih
/-- the first of the greatest -/
def bestF (f : Nat → Int) : Nat → Nat
  | 0 => 0
  | k + 1 => if f (bestF f k) < f (k + 1) then k + 1 else bestF f k
theorem bestF_le (f : Nat → Int) : ∀ k, bestF f k ≤ k
  | 0 => Nat.le_refl _
  | k + 1 => by have := bestF_le f k; rw [bestF]; split <;> omega
theorem bestF_cong {f f' : Nat → Int} : ∀ n, (∀ k, k ≤ n → f k = f' k) → bestF f n = bestF f' n
  | 0, _ => rfl
  | n + 1, h => by
    have ih := bestF_cong n (fun k hk => h k (by omega))
    have := bestF_le f' n
    rw [bestF, bestF, ih, h _ (by omega), h (n + 1) (by omega)]
theorem x_mostTallied {J : mJ} {e h : Nat} {g f : Nat → Int} (hv : HV g) (hr : HR J h g) (hf : ∀ s : Nat, (s : Int) < g 0 → J (e + 11) s = f s) {post' : Int → Prop} (hq : post' ((bestF f ((g 0).toNat - 1) : Nat) : Int)) : v_X2_mostTallied J e h post' := by
  have h0 := hv.1
  unfold v_X2_mostTallied v_X2_mostTallied_4
  intro ZZ hZ
  refine lpN (S := fun k => ZZ ((bestF f k : Nat) : Int) ((k + 1 : Nat) : Int)) (N := (g 0).toNat - 1) (fun k hk ih => hZ _ _ ?_) (hZ _ _ ?_)
  · rw [hr.1.1]
    simp only [Int.toNat_natCast]
    have hb := bestF_le f k
    rw [hf _ (by omega), hf _ (by omega)]
    rw [bestF] at ih
    refine ⟨fun c => by omega, fun _ => ⟨⟨by omega, by omega⟩, ⟨by omega, by omega⟩, fun c => ⟨⟨by omega, by omega⟩, ?_⟩, fun c => ⟨⟨by omega, by omega⟩, ?_⟩⟩⟩
    · rintro _ rfl
      rw [if_neg (by omega)] at ih; exact ih
    · rintro _ rfl
      rw [if_pos (by omega)] at ih; exact ih
  · rw [hr.1.1]
    exact ⟨fun _ => hq, fun c => by omega⟩
def stC (n : Nat) (T : Nat → Nat → Int) (s : Nat) : Int := ((cntF (fun k => decide (T 1 k = (s : Int))) n : Nat) : Int)
def busyF (g : Nat → Int) (n : Nat) (T : Nat → Nat → Int) : Int := if n = 0 then -1 else ((bestF (stC n T) ((g 0).toNat - 1) : Nat) : Int)
theorem x_busiest {J : mJ} {e h : Nat} {g : Nat → Int} (hv : HV g) (hr : HR J h g) (hne : ∀ k, k < 14 → h + k ≠ e + 11) (hO : EvO J e g) {post' : Int → mJ → Prop} (hq : ∀ J1, (∀ c, c ≠ e + 11 → J1 c = J c) → post' (busyF g (gRun g).1 (gRun g).2) J1) : v_X2_busiestStep J e h post' := by
  have hn := gRun_le hv
  have h0 := hv.1
  unfold v_X2_busiestStep
  rw [hO.1.1]
  unfold busyF at hq
  refine ⟨fun c => p_fill (by decide) ?_, fun c => ?_⟩
  · rw [if_neg (by omega)] at hq
    unfold v_X2_busiestStep_19
    intro ZZ hZ
    refine lpN (S := fun k => ∀ J1 : mJ, (∀ c, c ≠ e + 11 → J1 c = J c) → (∀ s : Nat, s < 24 → J1 (e + 11) s = stC k (gRun g).2 s) → ZZ J1 (k : Int)) (N := (gRun g).1) (fun k hk ih J1 f1 ht => hZ _ _ ?_) (fun J1 f1 ht => hZ _ _ ?_) _ (fun c hc => fillZ_n hc) (fun s hs => fillZ_s (by omega))
    · have e0 : J1 e = J e := f1 e (by omega)
      have e2 : J1 (e + 2) = J (e + 2) := f1 _ (by omega)
      rw [e0, hO.1.1, e2, Int.toNat_natCast, show J (e + 2) k = _ from hO.1.2.1 1 k (by decide) hk]
      obtain ⟨_, t1, _⟩ := gRun_TV hv k hk
      obtain ⟨s, hs⟩ : ∃ s : Nat, (gRun g).2 1 k = (s : Int) := ⟨((gRun g).2 1 k).toNat, by omega⟩
      rw [hs, Int.toNat_natCast, ht s (by omega)]
      have hcl := cntF_le (fun k => decide ((gRun g).2 1 k = (s : Int))) k
      refine ⟨fun c => by omega, fun _ => ⟨⟨by omega, by omega⟩, ⟨by omega, by omega⟩, ⟨by unfold stC; omega, by unfold stC; omega⟩, ⟨by omega, by omega⟩, ?_⟩⟩
      rintro J2 rfl
      refine ⟨⟨by omega, by omega⟩, ?_⟩
      rintro _ rfl
      refine ih _ (fun c hc => by rw [up2_n _ _ _ hc]; exact f1 c hc) (fun s' hs' => ?_)
      rw [up2_s]
      by_cases hss : s' = s
      · rw [hss, up1_s]
        unfold stC
        rw [cntF_t (P := fun k => decide ((gRun g).2 1 k = (s : Int))) (decide_eq_true hs)]; rfl
      · rw [up1_n _ _ hss, ht s' hs']
        unfold stC
        rw [cntF_f (P := fun k => decide ((gRun g).2 1 k = (s' : Int))) (decide_eq_false (by omega))]
    · have e0 : J1 e = J e := f1 e (by omega)
      rw [e0, hO.1.1]
      refine ⟨fun _ => x_mostTallied hv (HR_frame (fun k hk => f1 _ (hne k hk)) hr) (fun s hs => ht s (by omega)) (hq J1 f1), fun c => absurd (Int.le_refl _) c⟩
  · rw [if_pos (by omega)] at hq; exact hq J (fun _ _ => rfl)
theorem n_busy {J : mJ} {b : Nat} {g u : Nat → Int} (h : MH J b g u) (hO : MP J g) {post' : Int → Prop} (hq : post' (busyF g (gRun g).1 (gRun g).2)) : v_X12_busy J 128 post' := by
  have hv := h.2.2.2.1
  have hn := gRun_le hv
  have h0 := hv.1
  unfold v_X12_busy
  rw [hO.1.1]
  unfold busyF at hq
  refine ⟨fun c => ?_, fun c => ?_⟩
  · rw [if_neg (by omega)] at hq
    unfold v_X12_busy_15
    intro ZZ hZ
    have inner : ∀ (m : Nat) (v1 v2 : Int), (m : Int) < g 0 → v_X12_busy_66 J 128 post' ZZ v1 v2 (m : Int) (stC (gRun g).1 (gRun g).2 m) → v_X12_busy_30 J 128 post' (v_X12_busy_66 J 128 post' ZZ) v1 v2 (m : Int) 0 0 := by
      intro m v1 v2 hm hk
      unfold v_X12_busy_30
      intro Z2 hZ2
      refine lpN (S := fun k => Z2 v1 v2 (m : Int) ((cntF (fun k => decide ((gRun g).2 1 k = (m : Int))) k : Nat) : Int) (k : Int)) (N := (gRun g).1) (fun k hk ih2 => hZ2 _ _ _ _ _ ?_) (hZ2 _ _ _ _ _ ⟨fun _ => hk, fun c => absurd (Int.le_of_eq hO.1.1) c⟩)
      rw [hO.1.1, Int.toNat_natCast, show J (128 + 5) k = _ from hO.1.2 1 k (by decide) hk]
      have st := cnt_stepR (P := fun k => decide ((gRun g).2 1 k = (m : Int))) (ZZ := Z2 v1 v2 (m : Int)) (by omega) ih2
      exact ⟨fun c => by omega, fun _ => ⟨⟨by omega, by omega⟩, fun c => st.1 (decide_eq_false c), fun c => st.2 (decide_eq_true c)⟩⟩
    have cl : ∀ s, 0 ≤ stC (gRun g).1 (gRun g).2 s := fun s => by unfold stC; omega
    refine hZ _ _ _ (n_of h (j := 0) rfl (by decide) ⟨fun c => by omega, fun _ => inner 0 0 0 (by omega) ?_⟩)
    have fin : ZZ ((bestF (stC (gRun g).1 (gRun g).2) 0 : Nat) : Int) (stC (gRun g).1 (gRun g).2 (bestF (stC (gRun g).1 (gRun g).2) 0)) ((0 + 1 : Nat) : Int) := by
      refine lpN (S := fun k => ZZ ((bestF (stC (gRun g).1 (gRun g).2) k : Nat) : Int) (stC (gRun g).1 (gRun g).2 (bestF (stC (gRun g).1 (gRun g).2) k)) ((k + 1 : Nat) : Int)) (N := (g 0).toNat - 1) (fun k hk ih => hZ _ _ _ (n_of h (j := 0) rfl (by decide) ?_)) (hZ _ _ _ (n_of h (j := 0) rfl (by decide) ⟨fun _ => hq, fun c => by omega⟩))
      rw [bestF] at ih
      refine ⟨fun c => by omega, fun _ => inner (k + 1) _ _ (by omega) ?_⟩
      refine ⟨fun c => ⟨fun _ => ⟨⟨by omega, by omega⟩, ?_⟩, fun c2 => absurd c c2⟩, fun c => ⟨fun c2 => absurd c2 c, fun _ => ⟨⟨by omega, by omega⟩, ?_⟩⟩⟩
      · rintro _ rfl
        rw [if_neg (by omega)] at ih; exact ih
      · rintro _ rfl
        rw [if_pos (by omega)] at ih; exact ih
    change ZZ 0 (stC (gRun g).1 (gRun g).2 0) 1 at fin
    have c0 := cl 0
    refine ⟨fun c => ⟨fun _ => ⟨⟨by omega, by omega⟩, ?_⟩, fun c2 => absurd c c2⟩, fun c => ⟨fun c2 => absurd c2 c, fun _ => ⟨⟨by omega, by omega⟩, ?_⟩⟩⟩
    · rintro _ rfl
      rw [show stC (gRun g).1 (gRun g).2 0 = 0 by omega] at fin; exact fin
    · rintro _ rfl
      exact fin
  · rw [if_pos (by omega)] at hq; exact hq
/-- copies -/
def sumF (f : Nat → Nat) : Nat → Nat
  | 0 => 0
  | n + 1 => sumF f n + f n
theorem sumF_le {f : Nat → Nat} {m : Nat} : ∀ n, (∀ k, k < n → f k ≤ m) → sumF f n ≤ n * m
  | 0, _ => Nat.zero_le _
  | n + 1, h => by
    have := sumF_le (f := f) n (fun k hk => h k (by omega))
    have := h n (by omega)
    rw [sumF, Nat.succ_mul]; omega
def cpB (g : Nat → Int) (a b : Nat) : Bool := decide (g (42 + 14 * a) = g (42 + 14 * b)) && ! anyF (fun t => decide (gShoe g a (t : Int) ≠ gShoe g b (t : Int))) 100
def cpR (g : Nat → Int) (a b : Nat) : Bool := decide (a < b) && cpB g a b
def copF (g : Nat → Int) : Nat := sumF (fun a => cntF (cpR g a) (g 3).toNat) (g 3).toNat
theorem cpR_low (g : Nat → Int) (a : Nat) : cntF (cpR g a) (a + 1) = 0 := cntF_zero _ (fun k hk => by unfold cpR; rw [decide_eq_false (by omega), Bool.false_and])
theorem cp_rng {g : Nat → Int} (hv : HV g) {a b : Nat} (ha : (a : Int) ≤ g 3) (hb : b ≤ 7) : sumF (fun a => cntF (cpR g a) (g 3).toNat) a + cntF (cpR g a) b ≤ 100 := by
  have h3 := hv.2.2.2.1
  have s := sumF_le (f := fun a => cntF (cpR g a) (g 3).toNat) (m := 6) a (fun k _ => by have := cntF_le (cpR g k) (g 3).toNat; show cntF (cpR g k) (g 3).toNat ≤ 6; omega)
  have := cntF_le (cpR g a) b
  omega
theorem x_wear {J : mJ} {h : Nat} {g : Nat → Int} (hv : HV g) (hr : HR J h g) {a b : Nat} (ha : (a : Int) < g 3) (hb : (b : Int) < g 3) {post' : Bool → Prop} (hq : post' (! anyF (fun t => decide (gShoe g a (t : Int) ≠ gShoe g b (t : Int))) 100)) : v_X3_wearTheSame J h (a : Int) (b : Int) post' := by
  unfold v_X3_wearTheSame v_X3_wearTheSame_2
  intro ZZ hZ
  refine lpN (S := fun t => anyF (fun t => decide (gShoe g a (t : Int) ≠ gShoe g b (t : Int))) t = false → ZZ (t : Int)) (N := 100) (fun t ht ih h1 => hZ _ ?_) (fun h1 => hZ _ ⟨fun _ => by rw [h1] at hq; exact hq, fun c => absurd (Int.le_refl _) c⟩) rfl
  refine ⟨fun c => by omega, fun _ => x_shoeAt hv hr ha (x_shoeAt hv hr hb ⟨fun c => ⟨⟨by omega, by omega⟩, ?_⟩, fun c => ?_⟩)⟩
  · rintro _ rfl
    exact ih (by rw [anyF, h1, decide_eq_false (fun c2 => c2 c)]; rfl)
  · rw [(anyF_iff (P := fun t => decide (gShoe g a (t : Int) ≠ gShoe g b (t : Int))) 100).mpr ⟨t, ht, decide_eq_true c⟩] at hq; exact hq
theorem x_copies {J : mJ} {h : Nat} {g : Nat → Int} (hv : HV g) (hr : HR J h g) {post' : Int → Prop} (hq : post' ((copF g : Nat) : Int)) : v_X3_copies J h post' := by
  have h3 := hv.2.2.2.1
  unfold v_X3_copies v_X3_copies_4
  intro ZZ hZ
  refine lpN (S := fun a => ZZ ((sumF (fun a => cntF (cpR g a) (g 3).toNat) a : Nat) : Int) (a : Int)) (N := (g 3).toNat) (fun a ha ih => hZ _ _ ?_) (hZ _ _ ?_)
  · rw [hr.1.2.2.2.1]
    refine ⟨fun c => by omega, fun _ => ⟨⟨by omega, by omega⟩, ?_⟩⟩
    rintro _ rfl
    unfold v_X3_copies_16
    intro Z2 hZ2
    have key := lpN (S := fun d => Z2 ((sumF (fun a => cntF (cpR g a) (g 3).toNat) a + cntF (cpR g a) (a + 1 + d) : Nat) : Int) (a : Int) ((a + 1 + d : Nat) : Int)) (N := (g 3).toNat - (a + 1)) (fun d hd ih2 => hZ2 _ _ _ ?_) (hZ2 _ _ _ ?_)
    · rw [Nat.add_zero, cpR_low, Nat.add_zero] at key; exact key
    · have rg := cp_rng hv (a := a) (b := a + 1 + d) (by omega) (by omega)
      have rb := cp_rng hv (a := a) (b := a + 1 + d + 1) (by omega) (by omega)
      rw [hr.1.2.2.2.1]
      simp only [Int.toNat_natCast]
      obtain ⟨_, w1, _⟩ := hr.2.2.2.1 a (by omega)
      obtain ⟨_, w2, _⟩ := hr.2.2.2.1 (a + 1 + d) (by omega)
      rw [w1, w2]
      rw [show a + 1 + (d + 1) = (a + 1 + d) + 1 by omega] at ih2
      have hab : decide (a < a + 1 + d) = true := decide_eq_true (by omega)
      have nf : cpB g a (a + 1 + d) = false → ∀ y, y = ((a + 1 + d : Nat) : Int) + 1 → Z2 ((sumF (fun a => cntF (cpR g a) (g 3).toNat) a + cntF (cpR g a) (a + 1 + d) : Nat) : Int) (a : Int) y := by
        intro hf
        rintro _ rfl
        rw [cntF_f (by unfold cpR; rw [hf, Bool.and_false])] at ih2; exact ih2
      refine ⟨fun c => by omega, fun _ => ⟨⟨by omega, by omega⟩, ⟨by omega, by omega⟩, fun c => ⟨⟨by omega, by omega⟩, nf ?_⟩, fun c => x_wear hv hr (by omega) (by omega) ⟨fun c2 => ⟨⟨by omega, by omega⟩, nf ?_⟩, fun c2 => ⟨⟨by omega, by omega⟩, ?_⟩⟩⟩⟩
      · unfold cpB; rw [decide_eq_false c, Bool.false_and]
      · unfold cpB; rw [c2, Bool.and_false]
      · rintro _ rfl
        refine ⟨⟨by omega, by omega⟩, ?_⟩
        rintro _ rfl
        rw [cntF_t (by unfold cpR cpB; rw [hab, decide_eq_true c, c2]; rfl)] at ih2; exact ih2
    · rw [hr.1.2.2.2.1]
      refine ⟨fun _ => ⟨⟨by omega, by omega⟩, ?_⟩, fun c => by omega⟩
      rintro _ rfl
      rw [sumF] at ih
      rw [show a + 1 + ((g 3).toNat - (a + 1)) = (g 3).toNat by omega]
      exact ih
  · rw [hr.1.2.2.2.1]; exact ⟨fun _ => hq, fun c => by omega⟩
theorem n_copies {J : mJ} {b : Nat} {g u : Nat → Int} (h : MH J b g u) (hp : UP u) {post' : Int → Prop} (hq : post' ((copF g : Nat) : Int)) : v_X12_copies J 128 post' := by
  have hv := h.2.2.2.1
  have h3 := hv.2.2.2.1
  unfold v_X12_copies v_X12_copies_4
  intro ZZ hZ
  refine lpN (S := fun a => ZZ ((sumF (fun a => cntF (cpR g a) (g 3).toNat) a : Nat) : Int) (a : Int)) (N := (g 3).toNat) (fun a ha ih => hZ _ _ (n_people h ?_)) (hZ _ _ (n_people h ⟨fun _ => hq, fun c => by omega⟩))
  refine ⟨fun c => by omega, fun _ => ⟨⟨by omega, by omega⟩, ?_⟩⟩
  rintro _ rfl
  unfold v_X12_copies_16
  intro Z2 hZ2
  have key := lpN (S := fun d => Z2 ((sumF (fun a => cntF (cpR g a) (g 3).toNat) a + cntF (cpR g a) (a + 1 + d) : Nat) : Int) (a : Int) ((a + 1 + d : Nat) : Int)) (N := (g 3).toNat - (a + 1)) (fun d hd ih2 => hZ2 _ _ _ (n_people h ?_)) (hZ2 _ _ _ (n_people h ?_))
  · rw [Nat.add_zero, cpR_low, Nat.add_zero] at key; exact key
  · have rg := cp_rng hv (a := a) (b := a + 1 + d) (by omega) (by omega)
    rw [show a + 1 + (d + 1) = (a + 1 + d) + 1 by omega] at ih2
    have hab : decide (a < a + 1 + d) = true := decide_eq_true (by omega)
    have inner : ∀ b0 : Bool, b0 = decide (g (42 + 14 * a) = g (42 + 14 * (a + 1 + d))) → v_X12_copies_49 J 128 post' (v_X12_copies_91 J 128 post' Z2) ((sumF (fun a => cntF (cpR g a) (g 3).toNat) a + cntF (cpR g a) (a + 1 + d) : Nat) : Int) (a : Int) ((a + 1 + d : Nat) : Int) (bZ b0) 0 := by
      intro b0 eb
      generalize hS : ((sumF (fun a => cntF (cpR g a) (g 3).toNat) a + cntF (cpR g a) (a + 1 + d) : Nat) : Int) = sv
      unfold v_X12_copies_49
      intro Z3 hZ3
      have k3 := lpN (S := fun t => Z3 sv (a : Int) ((a + 1 + d : Nat) : Int) (bZ (b0 && ! anyF (fun t => decide (gShoe g a (t : Int) ≠ gShoe g (a + 1 + d) (t : Int))) t)) (t : Int)) (N := 100) (fun t ht ih3 => hZ3 _ _ _ _ _ ?_) (hZ3 _ _ _ _ _ ⟨fun _ => ?_, fun c => absurd (Int.le_refl _) c⟩)
      · rw [anyF, Bool.not_false, Bool.and_true] at k3; exact k3
      · rw [anyF] at ih3
        cases hb : (b0 && ! anyF (fun t => decide (gShoe g a (t : Int) ≠ gShoe g (a + 1 + d) (t : Int))) t)
        · refine ⟨fun c => by omega, fun _ => ⟨fun _ => ⟨⟨by omega, by omega⟩, ?_⟩, fun c => absurd rfl c⟩⟩
          rintro _ rfl
          rw [Bool.not_or, ← Bool.and_assoc, hb, Bool.false_and] at ih3; exact ih3
        · refine ⟨fun c => by omega, fun _ => ⟨fun c => absurd c (by decide), fun _ => n_shoeOf h (by omega) (n_shoeOf h (by omega) ?_)⟩⟩
          rw [mShoe_plain hp]
          rw [Bool.not_or, ← Bool.and_assoc, hb, Bool.true_and] at ih3
          refine ⟨fun c => ⟨⟨by omega, by omega⟩, ?_⟩, fun c => ⟨⟨by omega, by omega⟩, ?_⟩⟩
          · rintro _ rfl
            rw [decide_eq_true c] at ih3; exact ih3
          · rintro _ rfl
            rw [decide_eq_false (fun c2 => c2 c)] at ih3; exact ih3
      · have ec : (b0 && ! anyF (fun t => decide (gShoe g a (t : Int) ≠ gShoe g (a + 1 + d) (t : Int))) 100) = cpB g a (a + 1 + d) := by rw [eb]; rfl
        rw [ec, ← hS]
        cases hc : cpB g a (a + 1 + d)
        · refine ⟨fun _ => ⟨⟨by omega, by omega⟩, ?_⟩, fun c => absurd rfl c⟩
          rintro _ rfl
          refine ⟨⟨by omega, by omega⟩, ?_⟩
          rintro _ rfl
          rw [cntF_f (by unfold cpR; rw [hc, Bool.and_false])] at ih2
          rw [Int.add_zero]; exact ih2
        · refine ⟨fun c => absurd c (by decide), fun _ => ⟨⟨by omega, by omega⟩, ?_⟩⟩
          rintro _ rfl
          refine ⟨⟨by omega, by omega⟩, ?_⟩
          rintro _ rfl
          rw [cntF_t (by unfold cpR; rw [hab, hc]; rfl)] at ih2; exact ih2
    refine ⟨fun c => by omega, fun _ => n_told h a 1 (42 + 14 * a) rfl rfl ⟨by omega, by omega⟩ (by omega) (n_told h (a + 1 + d) 1 (42 + 14 * (a + 1 + d)) rfl rfl ⟨by omega, by omega⟩ (by omega) ⟨fun c => inner false (decide_eq_false c).symm, fun c => inner true (decide_eq_true c).symm⟩)⟩
  · refine ⟨fun _ => ⟨⟨by omega, by omega⟩, ?_⟩, fun c => by omega⟩
    rintro _ rfl
    rw [sumF] at ih
    rw [show a + 1 + ((g 3).toNat - (a + 1)) = (g 3).toNat by omega]
    exact ih
/-- shoes heard -/
def shB (T : Nat → Nat → Int) (f k : Nat) : Nat := if bt (T 6 k) f = true then 2 ^ (T 3 k).toNat else 0
def shoesF (n : Nat) (T : Nat → Nat → Int) (f : Nat) : Int := popZ ((orF (shB T f) n : Nat) : Int)
theorem shB_lt {g : Nat → Int} {n : Nat} {T : Nat → Nat → Int} (hV : TV g n T) {f k : Nat} (hk : k < n) : shB T f k < 2 ^ 10 := by
  obtain ⟨_, _, _, h3, _⟩ := hV k hk
  unfold shB; split
  · exact Nat.pow_lt_pow_right (by decide) (by omega)
  · decide
theorem x_shoesHeard {J : mJ} {e h : Nat} {g : Nat → Int} (hv : HV g) (hO : EvO J e g) {f : Nat} (hf : f < 6) {post' : Int → Prop} (hq : post' (shoesF (gRun g).1 (gRun g).2 f)) : v_X2_shoesHeard J e h (f : Int) post' := by
  have hn := gRun_le hv
  have hlt : ∀ k, k ≤ (gRun g).1 → orF (shB (gRun g).2 f) k < 2 ^ 10 := fun k hk => orF_lt (b := 10) k (fun i hi => shB_lt (gRun_TV hv) (by omega))
  unfold v_X2_shoesHeard v_X2_shoesHeard_4
  intro ZZ hZ
  refine lpN (S := fun k => ZZ ((orF (shB (gRun g).2 f) k : Nat) : Int) (k : Int)) (N := (gRun g).1) (fun k hk ih => hZ _ _ ?_) (hZ _ _ ⟨fun _ => ?_, fun c => absurd (Int.le_of_eq hO.1.1) c⟩)
  · rw [hO.1.1]
    simp only [Int.toNat_natCast]
    rw [show J (e + 7) k = _ from hO.1.2.1 6 k (by decide) hk, show J (e + 4) k = _ from hO.1.2.1 3 k (by decide) hk]
    obtain ⟨_, _, _, h3, _, _, h6, _⟩ := gRun_TV hv k hk
    have l1 := hlt k (by omega)
    rw [orF] at ih
    unfold shB at ih
    refine ⟨fun c => by omega, fun _ => ⟨⟨by omega, by omega⟩, p_hasZ ⟨by omega, by omega⟩ (by omega) ⟨fun c => ⟨⟨by omega, by omega⟩, ?_⟩, fun c => ⟨⟨by omega, by omega⟩, ?_⟩⟩⟩⟩
    · rintro _ rfl
      rw [if_neg (by rw [c]; decide), Nat.or_zero] at ih; exact ih
    · rintro _ rfl
      refine ⟨⟨by omega, by omega⟩, ?_⟩
      rintro _ rfl
      rw [if_pos c] at ih
      obtain ⟨w, hw⟩ : ∃ w : Nat, (gRun g).2 3 k = (w : Int) := ⟨((gRun g).2 3 k).toNat, by omega⟩
      rw [hw, Int.toNat_natCast] at ih
      have l2 : 2 ^ w ≤ 2 ^ 9 := Nat.pow_le_pow_right (by decide) (by omega)
      rw [hw, shlZ_one (by omega), orZ_nat (by omega) (by omega)]; exact ih
  · have l1 := hlt _ (Nat.le_refl _)
    exact p_bitCount ⟨by omega, by omega⟩ hq
theorem n_tells {J : mJ} {g : Nat → Int} (hv : HV g) (hO : MP J g) {f : Nat} (hf : f < 6) {post' : Int → Prop} (hq : post' (shoesF (gRun g).1 (gRun g).2 f)) : v_X12_tells J 128 (f : Int) post' := by
  have hn := gRun_le hv
  have hlt : ∀ k, k ≤ (gRun g).1 → orF (shB (gRun g).2 f) k < 2 ^ 10 := fun k hk => orF_lt (b := 10) k (fun i hi => shB_lt (gRun_TV hv) (by omega))
  unfold v_X12_tells v_X12_tells_4
  intro ZZ hZ
  refine lpN (S := fun k => ZZ ((orF (shB (gRun g).2 f) k : Nat) : Int) (k : Int)) (N := (gRun g).1) (fun k hk ih => hZ _ _ ?_) (hZ _ _ ⟨fun _ => ?_, fun c => absurd (Int.le_of_eq hO.1.1) c⟩)
  · rw [hO.1.1]
    simp only [Int.toNat_natCast]
    rw [show J (128 + 10) k = _ from hO.1.2 6 k (by decide) hk, show J (128 + 7) k = _ from hO.1.2 3 k (by decide) hk]
    obtain ⟨_, _, _, h3, _, _, h6, _⟩ := gRun_TV hv k hk
    have l1 := hlt k (by omega)
    rw [orF] at ih
    unfold shB at ih
    rw [bit1_iff (x := (gRun g).2 6 k) (f := f) ⟨by omega, by omega⟩ (by omega)]
    refine ⟨fun c => by omega, fun _ => ⟨⟨by omega, by omega⟩, fun c => ?_, fun c => ⟨⟨by omega, by omega⟩, ?_⟩⟩⟩
    · rintro _ rfl
      refine ⟨⟨by omega, by omega⟩, ?_⟩
      rintro _ rfl
      rw [if_neg c, Nat.or_zero] at ih
      rw [orZ_zero (by omega)]; exact ih
    · rintro _ rfl
      refine ⟨⟨by omega, by omega⟩, ?_⟩
      rintro _ rfl
      rw [if_pos c] at ih
      obtain ⟨w, hw⟩ : ∃ w : Nat, (gRun g).2 3 k = (w : Int) := ⟨((gRun g).2 3 k).toNat, by omega⟩
      rw [hw, Int.toNat_natCast] at ih
      have l2 : 2 ^ w ≤ 2 ^ 9 := Nat.pow_le_pow_right (by decide) (by omega)
      rw [hw, shlZ_one (by omega), orZ_nat (by omega) (by omega)]; exact ih
  · have l1 := hlt _ (Nat.le_refl _)
    exact m_bits ⟨by omega, by omega⟩ hq
