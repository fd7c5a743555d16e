/-! the reference walks -/
theorem up2_up2 {α : Type} (J : Nat → Nat → α) (c k : Nat) (v w : α) : up2 (up2 J c k v) c k w = up2 J c k w := by
  funext d q
  by_cases hd : d = c
  · subst hd
    by_cases hq : q = k
    · subst hq; simp [up2, up1]
    · simp [up2, up1, hq]
  · simp [up2, hd]
theorem up2_self {α : Type} {J : Nat → Nat → α} {c k : Nat} {v : α} (h : J c k = v) : up2 J c k v = J := by
  funext d q
  by_cases hd : d = c
  · subst hd
    by_cases hq : q = k
    · subst hq; simp [up2, up1, h]
    · simp [up2, up1, hq]
  · simp [up2, hd]
def mBeg (u g : Nat → Int) (p : Nat) : Int := if (p : Int) = u 15 then u 16 else g (44 + 14 * p)
def mGo (u g : Nat → Int) (p : Nat) (t on : Int) (k : Nat) : Bool × Int × Nat := if (p : Int) = u 17 then (false, on, k) else goF (fun q => g (47 + 14 * p + q)) (g (46 + 14 * p)).toNat (mBeg u g p) (g (45 + 14 * p)) (g (43 + 14 * p)) t on k
/-- the told hour can be -/
def UE (u : Nat → Int) : Prop := 0 ≤ u 16 ∧ u 16 ≤ 60
theorem n_minuteOf {J : mJ} {b : Nat} {g u : Nat → Int} (h : MH J b g u) {p : Nat} (hp : (p : Int) < g 3) {post' : Int → Prop} (hq : post' (mBeg u g p)) : v_X12_minuteOf J 128 (p : Int) post' := by
  have h3 := h.2.2.2.1.2.2.2.1
  unfold v_X12_minuteOf
  rw [h.2.2.2.2.2 15 (by decide) (by decide) (by decide), h.2.2.2.2.2 16 (by decide) (by decide) (by decide)]
  unfold mBeg at hq
  exact ⟨fun c => n_told h p 3 (44 + 14 * p) rfl rfl ⟨by omega, by omega⟩ (by omega) ((pif hq).2 c), fun c => (pif hq).1 c⟩
set_option maxHeartbeats 1000000 in
theorem m_walks {J : mJ} {b n p k : Nat} {g u : Nat → Int} {T : Nat → Nat → Int} {t : Nat} {on : Int} (h : MH J b g u) (hh : UH u) (hR : MR J n T) (hV : TV g n T) (hn : n < 640) (hp : (p : Int) < g 3) (ht : t < 100) (hab : (p : Int) ≠ u 17) (hon : J 142 p = on) (hk : J 141 p = (k : Int)) (hkN : (k : Int) ≤ g (46 + 14 * p)) (ho : 0 < g (46 + 14 * p) → mBeg u g p < (t : Int) → 0 ≤ on ∧ on < g 0) {post' : mJ → Prop}
    (hq : ∀ (J1 : mJ) (r : Ts) (v : Bool × Int × Nat), v = mGo u g p (t : Int) on k → r = (if v.1 = true then (n + 1, adF T n (trF (mQ u g) (g 1) T n p v.2.1.toNat (t : Int))) else (n, T)) → MR J1 r.1 r.2 → (∀ c, (c < 128 ∨ 128 < c) → (c < 132 ∨ 139 < c) → c ≠ 141 → c ≠ 142 → c ≠ 143 → J1 c = J c) → (∀ k, k ≠ 25 → J1 128 k = J 128 k) → J1 141 = up1 (J 141) p (v.2.2 : Int) → J1 142 = up1 (J 142) p v.2.1 → J1 143 = (if v.1 = true then up1 (J 143) p (t : Int) else J 143) → post' J1) : v_X12_walks J 128 (p : Int) (t : Int) post' := by
  have hv := h.2.2.2.1
  have h0 := hv.1
  have h3 := hv.2.2.2.1
  obtain ⟨-, -, hrise, hbeg, hgoals, hiff, hst, -, hgl⟩ := hv.2.2.2.2.2.2.2.1 p hp
  have hb : (0 : Int) ≤ (p : Int) ∧ (p : Int) < 6 := ⟨by omega, by omega⟩
  have emg : mGo u g p (t : Int) on k = goF (fun q => g (47 + 14 * p + q)) (g (46 + 14 * p)).toNat (mBeg u g p) (g (45 + 14 * p)) (g (43 + 14 * p)) (t : Int) on k := by unfold mGo; rw [if_neg hab]
  have same : mGo u g p (t : Int) on k = (false, on, k) → post' J := by
    intro e
    refine hq J (n, T) (false, on, k) e.symm (by rw [if_neg Bool.false_ne_true]) hR (fun _ _ _ _ _ _ => rfl) (fun _ _ => rfl) (up1_self hk).symm (up1_self hon).symm (by rw [if_neg Bool.false_ne_true])
  unfold v_X12_walks
  refine n_told h p 3 (44 + 14 * p) rfl rfl ⟨by omega, by omega⟩ (by omega) ⟨fun c => same ?_, fun c => n_minuteOf h hp ⟨fun c2 => n_minuteOf h hp ⟨fun c3 => ?_, fun c3 => ?_⟩, fun c2 => same ?_⟩⟩
  · rw [emg]; unfold goF; rw [if_pos (Or.inl (by have := hiff.mp c; omega))]
  · have hNp : ¬ g (46 + 14 * p) = 0 := fun q => c (hiff.mpr q)
    have hor := opF_rng (fun q => g (47 + 14 * p + q)) on ((g (46 + 14 * p)).toNat - k) k
    have eg : mGo u g p (t : Int) on k = if opF (fun q => g (47 + 14 * p + q)) on ((g (46 + 14 * p)).toNat - k) k < (g (46 + 14 * p)).toNat then (true, nxF on (g (47 + 14 * p + opF (fun q => g (47 + 14 * p + q)) on ((g (46 + 14 * p)).toNat - k) k)) (g (43 + 14 * p)), opF (fun q => g (47 + 14 * p + q)) on ((g (46 + 14 * p)).toNat - k) k) else (false, on, opF (fun q => g (47 + 14 * p + q)) on ((g (46 + 14 * p)).toNat - k) k) := by
      rw [emg]; unfold goF opG
      rw [if_neg (by omega), if_neg (by omega)]
    generalize hm : opF (fun q => g (47 + 14 * p + q)) on ((g (46 + 14 * p)).toNat - k) k = m at eg hor
    have hon2 := ho (by omega) (by omega)
    have m8 : ∀ i : Nat, MH (up2 J 141 p (i : Int)) b g u := fun i => MH_frame (up2_n _ _ _ (by decide)) (fun k _ _ _ => by rw [up2_n _ _ _ (by decide)]) h
    have g8 : ∀ i : Nat, (up2 J 141 p (i : Int)) 141 p = (i : Int) := fun i => by rw [up2_s, up1_s]
    have o8 : ∀ i : Nat, (up2 J 141 p (i : Int)) 142 p = on := fun i => by rw [up2_n _ _ _ (by decide)]; exact hon
    have rest : (v_X12_walks_105 128 (p : Int) (t : Int) post') (up2 J 141 p (m : Int)) := by
      unfold v_X12_walks_105
      simp only [Int.toNat_natCast, show 128 + 13 = 141 from rfl, show 128 + 14 = 142 from rfl]
      rw [g8, o8]
      refine ⟨hb, n_told (m8 m) p 5 (46 + 14 * p) rfl rfl ⟨by omega, by omega⟩ (by omega) ⟨fun c4 => ⟨hb, hb, ⟨by omega, by omega⟩, n_told (m8 m) p (6 + m) (47 + 14 * p + m) rfl (by omega) ⟨by omega, by omega⟩ (by omega) (n_told (m8 m) p 2 (43 + 14 * p) rfl rfl ⟨by omega, by omega⟩ (by omega) ?_)⟩, fun c4 => ?_⟩⟩
      · have hgm := hgl m (by omega)
        refine m_towards ⟨by omega, by omega⟩ ⟨by omega, by omega⟩ hrise ⟨hb, ?_⟩
        intro J28 e28
        have hx := nxF_rng hon2 hgm (rise := g (43 + 14 * p)) (by omega)
        rw [if_pos (by omega)] at eg
        have q28 : ∀ c, c ≠ 141 → c ≠ 142 → J28 c = J c := fun c a1 a2 => by rw [e28, up2_n _ _ _ a2, up2_n _ _ _ a1]
        have m28 : MH J28 b g u := MH_frame (q28 _ (by decide) (by decide)) (fun k _ _ _ => by rw [q28 _ (by decide) (by decide)]) h
        rw [show J28 142 p = (((nxF on (g (47 + 14 * p + m)) (g (43 + 14 * p))).toNat : Nat) : Int) by rw [e28, up2_s, up1_s]; show nxF _ _ _ = _; omega]
        refine ⟨hb, m_treads m28 hh (MR_frame (fun j hj => q28 _ (by omega) (by omega)) (by rw [q28 _ (by decide) (by decide)]) hR) hV hn hp (by omega) ⟨by omega, by omega⟩ ?_⟩
        intro J30 hR30 q30 f30 l30
        refine hq J30 _ _ eg.symm rfl ?_ (fun c a1 a2 a3 a4 a5 => by rw [q30 c a1 a2 a5, q28 c a3 a4]) (fun k hk => by rw [f30 k hk, q28 _ (by decide) (by decide)]) ?_ ?_ ?_
        · rw [if_pos rfl]; exact hR30
        · rw [q30 _ (by decide) (by decide) (by decide), e28, up2_n _ _ _ (by decide), up2_s]
        · rw [q30 _ (by decide) (by decide) (by decide), e28, up2_s, up2_n _ _ _ (by decide)]
        · rw [if_pos rfl, l30, q28 _ (by decide) (by decide)]
      · rw [if_neg (by omega)] at eg
        refine hq _ _ _ eg.symm rfl ?_ (fun c a1 a2 a3 a4 a5 => by rw [up2_n _ _ _ a3]) (fun k hk => by rw [up2_n _ _ _ (by decide)]) ?_ ?_ ?_
        · rw [if_neg Bool.false_ne_true]; exact MR_frame (fun j hj => by rw [up2_n _ _ _ (by omega)]) (by rw [up2_n _ _ _ (by decide)]) hR
        · rw [up2_s]
        · rw [up2_n _ _ _ (by decide)]; exact (up1_self hon).symm
        · rw [if_neg Bool.false_ne_true, up2_n _ _ _ (by decide)]
    intro ZZ hZ
    have key : ∀ d i : Nat, i + d = (g (46 + 14 * p)).toNat → opF (fun q => g (47 + 14 * p + q)) on d i = m → ZZ (up2 J 141 p (i : Int)) := by
      intro d
      induction d with
      | zero =>
        intro i hi he
        apply hZ
        simp only [Int.toNat_natCast, show 128 + 13 = 141 from rfl, show 128 + 14 = 142 from rfl]
        rw [g8, o8]
        refine ⟨hb, n_told (m8 i) p 5 (46 + 14 * p) rfl rfl ⟨by omega, by omega⟩ (by omega) ⟨fun _ => ?_, fun c => absurd (by omega) c⟩⟩
        rw [show i = m from he]; exact rest
      | succ d ih =>
        intro i hi he
        apply hZ
        simp only [Int.toNat_natCast, show 128 + 13 = 141 from rfl, show 128 + 14 = 142 from rfl]
        rw [g8, o8]
        rw [opF] at he
        refine ⟨hb, n_told (m8 i) p 5 (46 + 14 * p) rfl rfl ⟨by omega, by omega⟩ (by omega) ⟨fun c => by exfalso; omega, fun _ => ⟨hb, ⟨by omega, by omega⟩, n_told (m8 i) p (6 + i) (47 + 14 * p + i) rfl (by omega) ⟨by omega, by omega⟩ (by omega) ?_⟩⟩⟩
        refine ⟨hb, fun c => ?_, fun c => ⟨hb, ⟨by omega, by omega⟩, hb, ?_⟩⟩
        · rw [if_neg c] at he
          rw [he]; exact rest
        · rintro _ rfl
          rw [if_pos c] at he
          rw [up2_up2]
          exact ih (i + 1) (by omega) he
    have := key _ k (by omega) hm
    rw [up2_self hk] at this
    exact this
  · have eg : mGo u g p (t : Int) on k = (true, g (45 + 14 * p), k) := by
      rw [emg]; unfold goF
      have : ¬ g (46 + 14 * p) = 0 := fun q => c (hiff.mpr q)
      rw [if_neg (by omega), if_pos c3]
    have hs0 := hst (by have : ¬ g (46 + 14 * p) = 0 := fun q => c (hiff.mpr q)
                        omega)
    refine n_told h p 4 (45 + 14 * p) rfl rfl ⟨by omega, by omega⟩ (by omega) ⟨hb, ?_⟩
    simp only [Int.toNat_natCast, show 128 + 14 = 142 from rfl]
    intro J6 e6
    have q6 : ∀ c, c ≠ 142 → J6 c = J c := fun c a2 => by rw [e6, up2_n _ _ _ a2]
    have m6 : MH J6 b g u := MH_frame (q6 _ (by decide)) (fun k _ _ _ => by rw [q6 _ (by decide)]) h
    rw [show J6 142 p = (((g (45 + 14 * p)).toNat : Nat) : Int) by rw [e6, up2_s, up1_s]; omega]
    refine ⟨hb, m_treads m6 hh (MR_frame (fun j hj => q6 _ (by omega)) (by rw [q6 _ (by decide)]) hR) hV hn hp (by omega) ⟨by omega, by omega⟩ ?_⟩
    intro J30 hR30 q30 f30 l30
    refine hq J30 _ _ eg.symm rfl ?_ (fun c a1 a2 a3 a4 a5 => by rw [q30 c a1 a2 a5, q6 c a4]) (fun k hk => by rw [f30 k hk, q6 _ (by decide)]) ?_ ?_ ?_
    · rw [if_pos rfl]; exact hR30
    · rw [q30 _ (by decide) (by decide) (by decide), q6 _ (by decide)]; exact (up1_self hk).symm
    · rw [q30 _ (by decide) (by decide) (by decide), e6, up2_s]
    · rw [if_pos rfl, l30, q6 _ (by decide)]
  · rw [emg]; unfold goF; rw [if_pos (Or.inr (by omega))]
