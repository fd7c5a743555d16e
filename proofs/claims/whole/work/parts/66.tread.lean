/-! the class adds a tread -/
theorem divZ_nat {a d : Nat} (ha : a < 2 ^ 31) (h0 : 0 < d) (hd : d < 2 ^ 31) : divZ (a : Int) (d : Int) = ((a / d : Nat) : Int) := by
  unfold divZ
  rw [zi_nI, zi_nI, pk_div ha h0 hd]
  exact nI_toI (Nat.lt_of_le_of_lt (Nat.div_le_self _ _) ha)
theorem divZ_two {x : Int} (h : 0 ≤ x ∧ x ≤ 1000000) : divZ x 2 = x / 2 := by
  obtain ⟨n, rfl⟩ : ∃ n : Nat, x = (n : Int) := ⟨x.toNat, by omega⟩
  have := divZ_nat (a := n) (d := 2) (by omega) (by decide) (by decide)
  rw [show ((2 : Nat) : Int) = 2 from rfl] at this
  rw [this]; omega
/-- the class's evening at e holds n treads T -/
def EvR (J : mJ) (e n : Nat) (T : Nat → Nat → Int) : Prop := J e 2 = (n : Int) ∧ (∀ j k : Nat, j < 9 → k < n → J (e + 1 + j) k = T j k) ∧ (∀ s : Nat, s < 24 → J (e + 14) s = latF (T 1) (s : Int) n)
/-- treads that can be -/
def TV (g : Nat → Int) (n : Nat) (T : Nat → Nat → Int) : Prop := ∀ k : Nat, k < n → (0 ≤ T 0 k ∧ T 0 k < g 3) ∧ (0 ≤ T 1 k ∧ T 1 k < g 0) ∧ (0 ≤ T 2 k ∧ T 2 k ≤ 99) ∧ (0 ≤ T 3 k ∧ T 3 k ≤ 9) ∧ (0 ≤ T 4 k ∧ T 4 k ≤ 18) ∧ (-1 ≤ T 5 k ∧ T 5 k < (k : Int)) ∧ (0 ≤ T 6 k ∧ T 6 k < 64) ∧ (0 ≤ T 7 k ∧ T 7 k < 64) ∧ (1 ≤ T 8 k ∧ T 8 k ≤ (k : Int) + 1)
theorem EarT_frame {J J1 : mJ} {e : Nat} {g : Nat → Int} (h : J1 (e + 12) = J (e + 12)) (hT : EarT J e g) : EarT J1 e g := by
  intro s l hs hl; rw [h]; exact hT s l hs hl
theorem x_hearersI {J : mJ} {e h : Nat} {g : Nat → Int} (hv : HV g) (hT : EarT J e g) {s : Nat} {l : Int} (hs : (s : Int) < g 0) (hl : 0 ≤ l ∧ l ≤ 18) {post' : Int → Prop} (hq : post' ((gEars g l (s : Int) : Nat) : Int)) : v_X2_hearers J e h (s : Int) l post' := by
  obtain ⟨m, rfl⟩ : ∃ m : Nat, l = (m : Int) := ⟨l.toNat, by omega⟩
  exact x_hearers hv hT hs (by omega) hq
theorem trF_7 {q : Qs} {keep : Int} {T : Nat → Nat → Int} {n p s : Nat} {t : Int} : trF q keep T n p s t 7 = if echoF T n s t keep = -1 then 0 else ((q.2.2 (T 4 (echoF T n s t keep).toNat / 2) s : Nat) : Int) := rfl
theorem trF_8 {q : Qs} {keep : Int} {T : Nat → Nat → Int} {n p s : Nat} {t : Int} : trF q keep T n p s t 8 = if echoF T n s t keep = -1 then 1 else T 8 (echoF T n s t keep).toNat + 1 := rfl
set_option maxHeartbeats 1000000 in
theorem x_addTread {J : mJ} {e h n p s : Nat} {g : Nat → Int} {T : Nat → Nat → Int} {t : Int} (hv : HV g) (hr : HR J h g) (hne : ∀ k, k < 14 → ∀ j, j < 17 → h + k ≠ e + j) (hE : EvR J e n T) (hT : EarT J e g) (hV : TV g n T) (hn : n < 600) (hp : (p : Int) < g 3) (hs : (s : Int) < g 0) (hon : J (e + 15) p = (s : Int)) (ht : 0 ≤ t ∧ t ≤ 99) {post' : mJ → Prop}
    (hq : ∀ J1 : mJ, EvR J1 e (n + 1) (adF T n (trF (gShoe g, gLoud g, gEars g) (g 1) T n p s t)) → (∀ c, (c < e ∨ e + 10 < c) → c ≠ e + 14 → J1 c = J c) → (∀ k, k ≠ 2 → J1 e k = J e k) → J1 (e + 10) = up1 (J (e + 10)) p t → post' J1) : v_X2_addTread J e h (p : Int) t post' := by
  obtain ⟨hE1, hE2, hE3⟩ := hE
  have h0 := hv.1
  have h3 := hv.2.2.2.1
  have hk1 := hv.2.1
  have hs24 : s < 24 := by omega
  have hsh := gShoe_rng hv hp t
  have hlo := gLoud_rng hv hp hs24 hsh
  have hlat := hE3 s hs24
  have hlr := latF_rng (T 1) (s : Int) n
  have fr : ∀ (J' : mJ) (c k : Nat) (v : Int), (∃ j, j < 17 ∧ c = e + j) → HR J' h g → HR (up2 J' c k v) h g := by
    intro J' c k v hc hr'
    obtain ⟨j, hj, rfl⟩ := hc
    exact HR_frame (fun q hq' => up2_n _ _ _ (hne q hq' j hj)) hr'
  have ei : ∀ q : Int, (q : Int).toNat = q.toNat := fun _ => rfl
  unfold v_X2_addTread
  rw [hE1]
  refine ⟨fun _ => ?_, fun c => absurd (by omega) c⟩
  rintro _ rfl
  refine ⟨⟨by omega, by omega⟩, ?_⟩
  simp only [Int.toNat_natCast]
  intro y3 hy3
  rw [hon] at hy3
  subst hy3
  refine ⟨⟨by omega, by omega⟩, ?_⟩
  simp only [Int.toNat_natCast]
  intro y5 hy5
  rw [hlat] at hy5
  have hb : (0 : Int) ≤ (n : Int) ∧ (n : Int) < 600 := ⟨by omega, by omega⟩
  refine ⟨hb, ?_⟩
  intro J7 e7
  refine ⟨hb, ?_⟩
  intro J9 e9
  refine ⟨hb, ?_⟩
  intro J11 e11
  have hr11 : HR J11 h g := by rw [e11, e9, e7]; exact fr _ _ _ _ ⟨3, by decide, rfl⟩ (fr _ _ _ _ ⟨2, by decide, rfl⟩ (fr _ _ _ _ ⟨1, by decide, rfl⟩ hr))
  refine x_shoeAt hv hr11 hp ⟨hb, ?_⟩
  intro J14 e14
  have hr14 : HR J14 h g := by rw [e14]; exact fr _ _ _ _ ⟨4, by decide, rfl⟩ hr11
  have hsh14 : J14 (e + 4) n = gShoe g p t := by rw [e14, up2_s, up1_s]
  rw [hsh14]
  refine ⟨hb, x_loudOf hv hr14 hp hs24 hsh ⟨hb, ?_⟩⟩
  intro J18 e18
  have hr18 : HR J18 h g := by rw [e18]; exact fr _ _ _ _ ⟨5, by decide, rfl⟩ hr14
  have k18 : ∀ c, (c < e + 1 ∨ e + 5 < c) → J18 c = J c := by
    intro c hc
    rw [e18, up2_n _ _ _ (by omega), e14, up2_n _ _ _ (by omega), e11, up2_n _ _ _ (by omega), e9, up2_n _ _ _ (by omega), e7, up2_n _ _ _ (by omega)]
  have c1 : J18 (e + 1) = up1 (J (e + 1)) n (p : Int) := by rw [e18, up2_n _ _ _ (by omega), e14, up2_n _ _ _ (by omega), e11, up2_n _ _ _ (by omega), e9, up2_n _ _ _ (by omega), e7, up2_s]
  have c2 : J18 (e + 2) = up1 (J (e + 2)) n (s : Int) := by rw [e18, up2_n _ _ _ (by omega), e14, up2_n _ _ _ (by omega), e11, up2_n _ _ _ (by omega), e9, up2_s, e7, up2_n _ _ _ (by omega)]
  have c3 : J18 (e + 3) = up1 (J (e + 3)) n t := by rw [e18, up2_n _ _ _ (by omega), e14, up2_n _ _ _ (by omega), e11, up2_s, e9, up2_n _ _ _ (by omega), e7, up2_n _ _ _ (by omega)]
  have c4 : J18 (e + 4) = up1 (J (e + 4)) n (gShoe g p t) := by rw [e18, up2_n _ _ _ (by omega), e14, up2_s, e11, up2_n _ _ _ (by omega), e9, up2_n _ _ _ (by omega), e7, up2_n _ _ _ (by omega)]
  have c5 : J18 (e + 5) = up1 (J (e + 5)) n (gLoud g p s (gShoe g p t)) := by rw [e18, up2_s, e14, up2_n _ _ _ (by omega), e11, up2_n _ _ _ (by omega), e9, up2_n _ _ _ (by omega), e7, up2_n _ _ _ (by omega)]
  clear e7 e9 e11 e14 e18 hr11 hr14 hsh14
  have hT18 : EarT J18 e g := EarT_frame (k18 _ (by omega)) hT
  have tail : ∀ x : Int, x = echoF T n s t (g 1) → v_X2_addTread_128 e h (p : Int) t post' J18 (n : Int) (s : Int) y5 (n : Int) x := by
    intro x hx
    have hxr : x = -1 ∨ (x = y5 ∧ 0 ≤ y5) := by
      rw [hx]; unfold echoF; split
      · right; constructor
        · exact hy5.symm
        · omega
      · left; rfl
    refine ⟨hb, ?_⟩
    simp only [Int.toNat_natCast]
    intro J22 e22
    refine ⟨hb, ?_⟩
    have l22 : J22 (e + 5) n = gLoud g p s (gShoe g p t) := by rw [e22, up2_n _ _ _ (by omega), c5, up1_s]
    rw [l22]
    refine x_hearersI hv (EarT_frame (by rw [e22, up2_n _ _ _ (by omega)]) hT18) hs hlo ⟨hb, ?_⟩
    intro J26 e26
    have x26 : J26 (e + 6) n = x := by rw [e26, up2_n _ _ _ (by omega), e22, up2_s, up1_s]
    rw [x26]
    -- the last part, for the echo heard w and the ring z
    have fin : ∀ (w : Int), w = trF (gShoe g, gLoud g, gEars g) (g 1) T n p s t 7 → v_X2_addTread_181 e h (p : Int) t post' J26 (n : Int) (s : Int) y5 (n : Int) w := by
      intro w hw7
      refine ⟨hb, ?_⟩
      simp only [Int.toNat_natCast]
      intro J31 e31
      have x31 : J31 (e + 6) n = x := by rw [e31, up2_n _ _ _ (by omega), x26]
      rw [x31]
      have fin2 : ∀ (z : Int), z = trF (gShoe g, gLoud g, gEars g) (g 1) T n p s t 8 → v_X2_addTread_210 e h (p : Int) t post' J31 (n : Int) (s : Int) (n : Int) z := by
        intro z hz8
        refine ⟨hb, ?_⟩
        simp only [Int.toNat_natCast]
        intro J36 e36
        refine ⟨⟨by omega, by omega⟩, ?_⟩
        intro J38 e38
        refine ⟨⟨by omega, by omega⟩, ?_⟩
        intro J40 e40
        have n40 : J40 e 2 = (n : Int) := by rw [e40, up2_n _ _ _ (by omega), e38, up2_n _ _ _ (by omega), e36, up2_n _ _ _ (by omega), e31, up2_n _ _ _ (by omega), e26, up2_n _ _ _ (by omega), e22, up2_n _ _ _ (by omega), k18 _ (by omega), hE1]
        rw [n40]
        refine ⟨⟨by omega, by omega⟩, ?_⟩
        intro J42 e42
        have low : ∀ c, c ≠ e → c ≠ e + 6 → c ≠ e + 7 → c ≠ e + 8 → c ≠ e + 9 → c ≠ e + 10 → c ≠ e + 14 → J42 c = J18 c := by
          intro c a0 a6 a7 a8 a9 a10 a14
          rw [e42, up2_n _ _ _ a0, e40, up2_n _ _ _ a10, e38, up2_n _ _ _ a14, e36, up2_n _ _ _ a9, e31, up2_n _ _ _ a8, e26, up2_n _ _ _ a7, e22, up2_n _ _ _ a6]
        have c6 : J42 (e + 6) = up1 (J (e + 6)) n x := by rw [e42, up2_n _ _ _ (by omega), e40, up2_n _ _ _ (by omega), e38, up2_n _ _ _ (by omega), e36, up2_n _ _ _ (by omega), e31, up2_n _ _ _ (by omega), e26, up2_n _ _ _ (by omega), e22, up2_s, k18 _ (by omega)]
        have c7 : J42 (e + 7) = up1 (J (e + 7)) n ((gEars g (gLoud g p s (gShoe g p t)) (s : Int) : Nat) : Int) := by rw [e42, up2_n _ _ _ (by omega), e40, up2_n _ _ _ (by omega), e38, up2_n _ _ _ (by omega), e36, up2_n _ _ _ (by omega), e31, up2_n _ _ _ (by omega), e26, up2_s, e22, up2_n _ _ _ (by omega), k18 _ (by omega)]
        have c8 : J42 (e + 8) = up1 (J (e + 8)) n w := by rw [e42, up2_n _ _ _ (by omega), e40, up2_n _ _ _ (by omega), e38, up2_n _ _ _ (by omega), e36, up2_n _ _ _ (by omega), e31, up2_s, e26, up2_n _ _ _ (by omega), e22, up2_n _ _ _ (by omega), k18 _ (by omega)]
        have c9 : J42 (e + 9) = up1 (J (e + 9)) n z := by rw [e42, up2_n _ _ _ (by omega), e40, up2_n _ _ _ (by omega), e38, up2_n _ _ _ (by omega), e36, up2_s, e31, up2_n _ _ _ (by omega), e26, up2_n _ _ _ (by omega), e22, up2_n _ _ _ (by omega), k18 _ (by omega)]
        have c10 : J42 (e + 10) = up1 (J (e + 10)) p t := by rw [e42, up2_n _ _ _ (by omega), e40, up2_s, e38, up2_n _ _ _ (by omega), e36, up2_n _ _ _ (by omega), e31, up2_n _ _ _ (by omega), e26, up2_n _ _ _ (by omega), e22, up2_n _ _ _ (by omega), k18 _ (by omega)]
        have c14 : J42 (e + 14) = up1 (J (e + 14)) s (n : Int) := by rw [e42, up2_n _ _ _ (by omega), e40, up2_n _ _ _ (by omega), e38, up2_s, e36, up2_n _ _ _ (by omega), e31, up2_n _ _ _ (by omega), e26, up2_n _ _ _ (by omega), e22, up2_n _ _ _ (by omega), k18 _ (by omega)]
        have ce : J42 e = up1 (J e) 2 ((n : Int) + 1) := by rw [e42, up2_s, e40, up2_n _ _ _ (by omega), e38, up2_n _ _ _ (by omega), e36, up2_n _ _ _ (by omega), e31, up2_n _ _ _ (by omega), e26, up2_n _ _ _ (by omega), e22, up2_n _ _ _ (by omega), k18 _ (by omega)]
        have cell : ∀ (j : Nat) (v : Int), j < 9 → J42 (e + 1 + j) = up1 (J (e + 1 + j)) n v → v = trF (gShoe g, gLoud g, gEars g) (g 1) T n p s t j → ∀ k, k < n + 1 → J42 (e + 1 + j) k = adF T n (trF (gShoe g, gLoud g, gEars g) (g 1) T n p s t) j k := by
          intro j v hj hc hvv k hk
          rw [hc]
          by_cases hkn : k = n
          · subst hkn; rw [up1_s, adF_new, hvv]
          · rw [up1_n _ _ hkn, adF_old (by omega)]; exact hE2 j k hj (by omega)
        refine hq J42 ⟨by rw [ce, up1_s]; omega, ?_, ?_⟩ ?_ ?_ c10
        · intro j k hj hk
          match j, hj with
          | 0, _ => exact cell 0 _ (by decide) ((low _ (by omega) (by omega) (by omega) (by omega) (by omega) (by omega) (by omega)).trans c1) rfl k hk
          | 1, _ => exact cell 1 _ (by decide) ((low _ (by omega) (by omega) (by omega) (by omega) (by omega) (by omega) (by omega)).trans c2) rfl k hk
          | 2, _ => exact cell 2 _ (by decide) ((low _ (by omega) (by omega) (by omega) (by omega) (by omega) (by omega) (by omega)).trans c3) rfl k hk
          | 3, _ => exact cell 3 _ (by decide) ((low _ (by omega) (by omega) (by omega) (by omega) (by omega) (by omega) (by omega)).trans c4) rfl k hk
          | 4, _ => exact cell 4 _ (by decide) ((low _ (by omega) (by omega) (by omega) (by omega) (by omega) (by omega) (by omega)).trans c5) rfl k hk
          | 5, _ => exact cell 5 _ (by decide) c6 hx k hk
          | 6, _ => exact cell 6 _ (by decide) c7 rfl k hk
          | 7, _ => exact cell 7 _ (by decide) c8 hw7 k hk
          | 8, _ => exact cell 8 _ (by decide) c9 hz8 k hk
          | j + 9, h9 => omega
        · intro s' hs'
          rw [c14, latF, adF_new]
          by_cases hss : s' = s
          · subst hss; rw [up1_s, if_pos (by simp [trF])]
          · rw [up1_n _ _ hss, if_neg (by simp [trF]; omega), hE3 s' hs']
            exact latF_cong n (fun k hk => (adF_old hk).symm)
        · intro c hc hc14
          rw [low c (by omega) (by omega) (by omega) (by omega) (by omega) (by omega) hc14, k18 _ (by omega)]
        · intro k hk
          rw [ce, up1_n _ _ hk]
      refine ⟨hb, fun c => ?_, fun c => ?_⟩
      · obtain ⟨hxy, hy0⟩ := hxr.resolve_left c
        have hyn : y5.toNat < n := by omega
        have hV5 := hV _ hyn
        have r31 : J31 (e + 9) y5.toNat = T 8 y5.toNat := by
          rw [e31, up2_n _ _ _ (by omega), e26, up2_n _ _ _ (by omega), e22, up2_n _ _ _ (by omega), k18 _ (by omega)]
          exact hE2 8 _ (by decide) hyn
        rw [r31]
        refine ⟨⟨by omega, by omega⟩, ⟨by omega, by omega⟩, fin2 _ ?_⟩
        rw [trF_8, ← hx, if_neg c, hxy]
      · refine fin2 _ ?_
        rw [trF_8, ← hx, if_pos c]
    refine ⟨hb, fun c => ?_, fun c => ?_⟩
    · obtain ⟨hxy, hy0⟩ := hxr.resolve_left c
      have hyn : y5.toNat < n := by omega
      have hV5 := hV _ hyn
      have r26 : J26 (e + 5) y5.toNat = T 4 y5.toNat := by
        rw [e26, up2_n _ _ _ (by omega), e22, up2_n _ _ _ (by omega), c5, up1_n _ _ (by omega)]
        exact hE2 4 _ (by decide) hyn
      rw [r26, divZ_two ⟨by omega, by omega⟩]
      refine ⟨⟨by omega, by omega⟩, x_hearersI hv (EarT_frame (by rw [e26, up2_n _ _ _ (by omega), e22, up2_n _ _ _ (by omega)]) hT18) hs ⟨by omega, by omega⟩ (fin _ ?_)⟩
      rw [trF_7, ← hx, if_neg c, hxy]
    · refine fin _ ?_
      rw [trF_7, ← hx, if_pos c]
  refine ⟨fun c => tail _ ?_, fun c => ?_⟩
  · unfold echoF; rw [if_neg (by rw [← hy5]; omega)]
  · have hyn : y5.toNat < n := by omega
    have hV5 := hV _ hyn
    have m18 : J18 (e + 3) y5.toNat = T 2 y5.toNat := by rw [c3, up1_n _ _ (by omega)]; exact hE2 2 _ (by decide) hyn
    rw [m18, hr18.1.2.1]
    refine ⟨⟨by omega, by omega⟩, ⟨by omega, by omega⟩, fun c2 => tail _ ?_, fun c2 => tail _ ?_⟩
    · unfold echoF; rw [if_neg (by rw [← hy5]; omega)]
    · unfold echoF; rw [if_pos (by rw [← hy5]; exact ⟨c, by omega⟩)]; exact hy5
