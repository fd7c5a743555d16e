/-! words on both sides; the reference's tokens -/
def vl (d : Nat → Nat) : Nat → Nat
  | 0 => 0
  | n + 1 => 32 * vl d n + d n
theorem vl_inj {d d' : Nat → Nat} : ∀ n n', (∀ i, i < n → 1 ≤ d i ∧ d i ≤ 26) → (∀ i, i < n' → 1 ≤ d' i ∧ d' i ≤ 26) → vl d n = vl d' n' → n = n' ∧ ∀ i, i < n → d i = d' i
  | 0, 0, _, _, _ => ⟨rfl, fun i hi => absurd hi (Nat.not_lt_zero _)⟩
  | 0, n' + 1, _, h2, h => by have := h2 n' (by omega); rw [vl, vl] at h; omega
  | n + 1, 0, h1, _, h => by have := h1 n (by omega); rw [vl, vl] at h; omega
  | n + 1, n' + 1, h1, h2, h => by
    have a := h1 n (by omega)
    have b := h2 n' (by omega)
    rw [vl, vl] at h
    obtain ⟨e1, e2⟩ := vl_inj n n' (fun i hi => h1 i (by omega)) (fun i hi => h2 i (by omega)) (by omega)
    subst e1
    refine ⟨rfl, fun i hi => ?_⟩
    by_cases e : i = n
    · subst e; omega
    · exact e2 i (by omega)
theorem vl_cong {d d' : Nat → Nat} : ∀ n, (∀ i, i < n → d i = d' i) → vl d n = vl d' n
  | 0, _ => rfl
  | n + 1, h => by rw [vl, vl, vl_cong n (fun i hi => h i (by omega)), h n (by omega)]
theorem vl_lt {d : Nat → Nat} : ∀ n, (∀ i, i < n → d i ≤ 26) → vl d n < 32 ^ n
  | 0, _ => by show 0 < 1; decide
  | n + 1, h => by
    have := vl_lt n (fun i hi => h i (by omega))
    have := h n (by omega)
    rw [vl, Nat.pow_succ]; omega
def vlW (o : Nat) : Nat := vl (fun i => chW o i - 96) (lnW o)
theorem chW_rng : ∀ o, o < 8 → ∀ i, i < 6 → i < lnW o → 97 ≤ chW o i ∧ chW o i ≤ 122 := by decide
theorem lnW_rng : ∀ o, o < 8 → 4 ≤ lnW o ∧ lnW o ≤ 6 := by decide
theorem chW_inj : ∀ o, o < 8 → ∀ o', o' < 8 → lnW o = lnW o' → (∀ i, i < 6 → i < lnW o → chW o i = chW o' i) → o = o' := by decide
theorem mw_iff {B : Nat → Nat} {w n o : Nat} : mwB B w n o = true ↔ n = lnW o ∧ ∀ i, i < lnW o → B (w + i) = chW o i := by
  unfold mwB
  rw [Bool.and_eq_true, decide_eq_true_eq]
  constructor
  · rintro ⟨h1, h2⟩
    refine ⟨h1, fun i hi => ?_⟩
    have h3 : anyF (fun i => decide (B (w + i) ≠ chW o i)) (lnW o) = false := by
      revert h2; cases anyF (fun i => decide (B (w + i) ≠ chW o i)) (lnW o)
      · intro _; rfl
      · intro h; exact absurd h (by decide)
    have := anyF_false.mp h3 i hi
    rw [decide_eq_false_iff_not] at this
    exact Classical.not_not.mp this
  · rintro ⟨h1, h2⟩
    refine ⟨h1, ?_⟩
    rw [anyF_false.mpr (fun i hi => decide_eq_false (fun h => h (h2 i hi)))]; rfl
theorem mw_uniq {B : Nat → Nat} {w n o o' : Nat} (ho : o < 8) (ho' : o' < 8) (h : mwB B w n o = true) (h' : mwB B w n o' = true) : o = o' := by
  rw [mw_iff] at h h'
  have := lnW_rng o ho
  exact chW_inj o ho o' ho' (by omega) (fun i _ hi => by rw [← h.2 i hi, ← h'.2 i (by omega)])
theorem mw_vl {B : Nat → Nat} {w n o : Nat} (ho : o < 8) (hl : ∀ i, i < n → 97 ≤ B (w + i) ∧ B (w + i) ≤ 122) : mwB B w n o = true ↔ vl (fun i => B (w + i) - 96) n = vlW o := by
  have hr := lnW_rng o ho
  have hc := chW_rng o ho
  rw [mw_iff]
  constructor
  · rintro ⟨h1, h2⟩
    subst h1
    exact vl_cong _ (fun i hi => by show B (w + i) - 96 = chW o i - 96; rw [h2 i hi])
  · intro h
    obtain ⟨e1, e2⟩ := vl_inj n (lnW o) (fun i hi => by have := hl i hi; show 1 ≤ B (w + i) - 96 ∧ B (w + i) - 96 ≤ 26; omega) (fun i hi => by have := hc i (by omega) hi; show 1 ≤ chW o i - 96 ∧ chW o i - 96 ≤ 26; omega) h
    refine ⟨e1, fun i hi => ?_⟩
    have a := e2 i (by omega)
    change B (w + i) - 96 = chW o i - 96 at a
    have := hl i (by omega)
    have := hc i (by omega) hi
    omega
def wcZ (v : Nat) : Int := if fstF (fun o => decide (v = vlW o)) 0 8 = -1 then 99 else fstF (fun o => decide (v = vlW o)) 0 8 + 1
theorem wc_fs {v c : Nat} (hc : c < 8) (h : v = vlW c) (hn : ∀ i, i < c → v ≠ vlW i) : wcZ v = (c : Int) + 1 := by
  unfold wcZ
  rw [fst_isFs (P := fun o => decide (v = vlW o)) 8 (c := c) ⟨Nat.zero_le _, by omega, decide_eq_true h, fun i _ hi => decide_eq_false (hn i hi)⟩, if_neg (by omega)]
theorem cmp_eq {v c : Nat} {r : Int64} (hv : v < 2 ^ 62) (hc : c < 2 ^ 62) (hr : r = nL c) : (lg_cmp (nL v) r).toInt = 0 ↔ v = c := by
  subst hr
  have e1 : (nL v).toInt = (v : Int) := Int64.toInt_ofNat_of_lt (by omega)
  have e2 : (nL c).toInt = (c : Int) := Int64.toInt_ofNat_of_lt (by omega)
  unfold lg_cmp
  by_cases h : v = c
  · subst h
    rw [if_neg (by show ¬ nL v < nL v; rw [Int64.lt_iff_toInt_lt]; omega), if_pos rfl]
    exact ⟨fun _ => rfl, fun _ => rfl⟩
  · refine ⟨fun h2 => ?_, fun h2 => absurd h2 h⟩
    by_cases g : nL v > nL c
    · rw [if_pos g] at h2; exact absurd h2 (by decide)
    · rw [if_neg g, if_neg (fun e => h (by have := congrArg Int64.toInt e; rw [e1, e2] at this; omega))] at h2
      exact absurd h2 (by decide)
abbrev f4I (a1 a2 a3 a4 : Int) : Prop := ir (a1 * 32) ∧ ir ((a1 * 32) + a2) ∧ ir (((a1 * 32) + a2) * 32) ∧ ir ((((a1 * 32) + a2) * 32) + a3) ∧ ir (((((a1 * 32) + a2) * 32) + a3) * 32) ∧ ir ((((((a1 * 32) + a2) * 32) + a3) * 32) + a4)
theorem n_four {a1 a2 a3 a4 : Int} {c : Nat} (h : f4I a1 a2 a3 a4) (e : (zi ((((((a1 * 32) + a2) * 32) + a3) * 32) + a4)).toInt64 = nL c) {post' : Int64 → Prop} (hq : post' (nL c)) : v_X12_four a1 a2 a3 a4 post' := by
  unfold v_X12_four; rw [e]; exact ⟨h.1, h.2.1, h.2.2.1, h.2.2.2.1, h.2.2.2.2.1, h.2.2.2.2.2, hq⟩
theorem n_eight {a1 a2 a3 a4 a5 a6 a7 a8 : Int} {c : Nat} (h : f4I a1 a2 a3 a4) (h2 : f4I a5 a6 a7 a8) (e : (zi ((((((a1 * 32) + a2) * 32) + a3) * 32) + a4)).toInt64 * (1048576 : Int64) + (zi ((((((a5 * 32) + a6) * 32) + a7) * 32) + a8)).toInt64 = nL c) {post' : Int64 → Prop} (hq : post' (nL c)) : v_X12_eight a1 a2 a3 a4 a5 a6 a7 a8 post' := by
  unfold v_X12_eight v_X12_four
  refine ⟨h.1, h.2.1, h.2.2.1, h.2.2.2.1, h.2.2.2.2.1, h.2.2.2.2.2, h2.1, h2.2.1, h2.2.2.1, h2.2.2.2.1, h2.2.2.2.2.1, h2.2.2.2.2.2, ?_⟩
  show post' _
  rw [e]; exact hq
theorem n_wordOf {v : Nat} (hv : v < 2 ^ 62) {post' : Int → Prop} (hq : post' (wcZ v)) : v_X12_wordOf (nL v) post' := by
  have fin : ∀ c, c < 8 → v = vlW c → (∀ i, i < c → v ≠ vlW i) → post' ((c : Int) + 1) := fun c hc h hn => by rw [wc_fs hc h hn] at hq; exact hq
  unfold v_X12_wordOf
  refine n_eight (c := vlW 0) (by decide) (by decide) (by decide +kernel) ?_
  rw [cmp_eq (c := vlW 0) hv (by decide) rfl]
  have q0 : ∀ i, i < 0 → v ≠ vlW i := fun i hi => absurd hi (Nat.not_lt_zero _)
  refine ⟨fun c0 => ?_, fun c0 => fin 0 (by decide) c0 q0⟩
  have q1 : ∀ i, i < 1 → v ≠ vlW i := fun i hi => by
    by_cases e : i = 0
    · subst e; exact c0
    · exact q0 i (by omega)
  refine n_four (c := vlW 1) (by decide) (by decide +kernel) ?_
  rw [cmp_eq (c := vlW 1) hv (by decide) rfl]
  refine ⟨fun c1 => ?_, fun c1 => fin 1 (by decide) c1 q1⟩
  have q2 : ∀ i, i < 2 → v ≠ vlW i := fun i hi => by
    by_cases e : i = 1
    · subst e; exact c1
    · exact q1 i (by omega)
  refine n_eight (c := vlW 2) (by decide) (by decide) (by decide +kernel) ?_
  rw [cmp_eq (c := vlW 2) hv (by decide) rfl]
  refine ⟨fun c2 => ?_, fun c2 => fin 2 (by decide) c2 q2⟩
  have q3 : ∀ i, i < 3 → v ≠ vlW i := fun i hi => by
    by_cases e : i = 2
    · subst e; exact c2
    · exact q2 i (by omega)
  refine n_four (c := vlW 3) (by decide) (by decide +kernel) ?_
  rw [cmp_eq (c := vlW 3) hv (by decide) rfl]
  refine ⟨fun c3 => ?_, fun c3 => fin 3 (by decide) c3 q3⟩
  have q4 : ∀ i, i < 4 → v ≠ vlW i := fun i hi => by
    by_cases e : i = 3
    · subst e; exact c3
    · exact q3 i (by omega)
  refine n_eight (c := vlW 4) (by decide) (by decide) (by decide +kernel) ?_
  rw [cmp_eq (c := vlW 4) hv (by decide) rfl]
  refine ⟨fun c4 => ?_, fun c4 => fin 4 (by decide) c4 q4⟩
  have q5 : ∀ i, i < 5 → v ≠ vlW i := fun i hi => by
    by_cases e : i = 4
    · subst e; exact c4
    · exact q4 i (by omega)
  refine n_four (c := vlW 5) (by decide) (by decide +kernel) ?_
  rw [cmp_eq (c := vlW 5) hv (by decide) rfl]
  refine ⟨fun c5 => ?_, fun c5 => fin 5 (by decide) c5 q5⟩
  have q6 : ∀ i, i < 6 → v ≠ vlW i := fun i hi => by
    by_cases e : i = 5
    · subst e; exact c5
    · exact q5 i (by omega)
  refine n_eight (c := vlW 6) (by decide) (by decide) (by decide +kernel) ?_
  rw [cmp_eq (c := vlW 6) hv (by decide) rfl]
  refine ⟨fun c6 => ?_, fun c6 => fin 6 (by decide) c6 q6⟩
  have q7 : ∀ i, i < 7 → v ≠ vlW i := fun i hi => by
    by_cases e : i = 6
    · subst e; exact c6
    · exact q6 i (by omega)
  refine n_eight (c := vlW 7) (by decide) (by decide) (by decide +kernel) ?_
  rw [cmp_eq (c := vlW 7) hv (by decide) rfl]
  refine ⟨fun c7 => ?_, fun c7 => fin 7 (by decide) c7 q7⟩
  have q8 : ∀ i, i < 8 → v ≠ vlW i := fun i hi => by
    by_cases e : i = 7
    · subst e; exact c7
    · exact q7 i (by omega)
  have : wcZ v = 99 := by
    unfold wcZ
    rw [if_pos]
    exact fst_none.mpr (fun i hi => decide_eq_false (q8 i hi))
  rw [this] at hq; exact hq
theorem wdF_fs {B : Nat → Nat} {w n : Nat} : (wdF B w n < 8 → mwB B w n (wdF B w n) = true) ∧ (∀ o, o < 8 → mwB B w n o = true → wdF B w n = o) ∧ wdF B w n ≤ 8 := by
  unfold wdF
  rcases fst_cases (mwB B w n) 0 8 with h | ⟨c, h⟩
  · rw [fst_isNo 8 h, if_pos rfl]
    exact ⟨fun h2 => absurd h2 (by decide), fun o ho h2 => by rw [h o (Nat.zero_le _) (by omega)] at h2; exact Bool.noConfusion h2, by decide⟩
  · have hc : c < 8 := by have := h.2.1; omega
    rw [fst_isFs 8 h, if_neg (by omega), Int.toNat_natCast]
    exact ⟨fun _ => h.2.2.1, fun o ho h2 => mw_uniq hc ho h.2.2.1 h2, by omega⟩
theorem wc_wd {B : Nat → Nat} {w n : Nat} (hl : ∀ i, i < n → 97 ≤ B (w + i) ∧ B (w + i) ≤ 122) : wcZ (vl (fun i => B (w + i) - 96) n) = if wdF B w n < 8 then (wdF B w n : Int) + 1 else 99 := by
  obtain ⟨h1, h2, h3⟩ := wdF_fs (B := B) (w := w) (n := n)
  by_cases c : wdF B w n < 8
  · rw [if_pos c]
    have a := h1 c
    exact wc_fs c ((mw_vl c hl).mp a) (fun i hi h => by
      have := h2 i (by omega) ((mw_vl (by omega) hl).mpr h)
      omega)
  · rw [if_neg c]
    unfold wcZ
    rw [if_pos]
    refine fst_none.mpr (fun i hi => decide_eq_false (fun h => ?_))
    have := h2 i hi ((mw_vl hi hl).mpr h)
    omega
theorem wd_long {B : Nat → Nat} {w n : Nat} (h : 8 < n) : wdF B w n = 8 := by
  obtain ⟨h1, h2, h3⟩ := wdF_fs (B := B) (w := w) (n := n)
  by_cases c : wdF B w n < 8
  · have := mw_iff.mp (h1 c)
    have := lnW_rng _ c
    omega
  · omega
/-- the reference's token -/
def rtk (c : Tk) : Nat := if kd c = 0 then 0 else if kd c = 2 then 1 else if kd c = 4 then 2 else if kd c = 3 then 5 else if kd c = 1 ∧ wd c < 8 then 3 else 4
theorem rtk_w (a b c x : Nat) : rtk (1, a, b, c, x) = if x < 8 then 3 else 4 := by
  by_cases h : x < 8
  · rw [if_pos h]; simp [rtk, kd, wd, h]
  · rw [if_neg h]; simp [rtk, kd, wd, h]
def TkM (J : mJ) (c : Tk) : Prop := J 128 3 = (en c : Int) ∧ J 128 4 = (pl c : Int) ∧ J 128 5 = (rtk c : Int) ∧ (kd c = 2 → J 128 6 = (nu c : Int)) ∧ (rtk c = 3 → J 128 7 = (wd c : Int) + 1)
def TpM (J : mJ) (B : Nat → Nat) (N : Nat) : Prop := N ≤ 600 ∧ (∀ i, i < 600 → B i ≤ 255 ∧ J 129 (10 + i) = (B i : Int)) ∧ J 128 2 = (N : Int)
def FrM (J J1 : mJ) : Prop := (∀ c, c ≠ 128 → J1 c = J c) ∧ (∀ i, (i < 3 ∨ 7 < i) → J1 128 i = J 128 i)
theorem TpM_fr {J J1 : mJ} {B : Nat → Nat} {N : Nat} (h : FrM J J1) (hT : TpM J B N) : TpM J1 B N := ⟨hT.1, by rw [h.1 129 (by decide)]; exact hT.2.1, by rw [h.2 2 (by omega)]; exact hT.2.2⟩
theorem FrM_up {J J1 : mJ} {i : Nat} {v : Int} (h : FrM J J1) (hi : 3 ≤ i ∧ i ≤ 7) : FrM J (up2 J1 128 i v) := ⟨fun c hc => by rw [up2_n _ _ _ hc]; exact h.1 c hc, fun j hj => by rw [up2_off _ _ (Or.inr (by omega))]; exact h.2 j hj⟩
theorem n_byteAt {J : mJ} {B : Nat → Nat} {N j : Nat} (hT : TpM J B N) {post' : Int → Prop} (hq : post' (if j < N then (B j : Int) else -1)) : v_X12_byteAt J 128 (j : Int) post' := by
  have := hT.1
  unfold v_X12_byteAt
  rw [hT.2.2]
  refine ⟨fun c => ?_, fun c => ⟨⟨by omega, by omega⟩, ⟨by omega, by omega⟩, ?_⟩⟩
  · rw [if_neg (by omega)] at hq; exact hq
  · rw [if_pos (by omega)] at hq
    rw [show (10 + (j : Int)).toNat = 10 + j by omega, show J (128 + 1) (10 + j) = _ from (hT.2.1 j (by omega)).2]; exact hq
theorem n_isLetter {b : Nat} {post' : Bool → Prop} (hq : post' (decide (97 ≤ b ∧ b ≤ 122))) : v_X12_isLetter (b : Int) post' := by
  have hq := pb hq
  exact ⟨fun c => hq.2 (by omega), fun c => ⟨fun c2 => hq.2 (by omega), fun c2 => hq.1 (by omega)⟩⟩
theorem n_isDigit {b : Nat} {post' : Bool → Prop} (hq : post' (decide (48 ≤ b ∧ b ≤ 57))) : v_X12_isDigit (b : Int) post' := by
  have hq := pb hq
  exact ⟨fun c => hq.2 (by omega), fun c => ⟨fun c2 => hq.2 (by omega), fun c2 => hq.1 (by omega)⟩⟩
theorem zi64 : ∀ b, b < 123 → (zi (b : Nat)).toInt64 = nL b := by decide
theorem nL_step {a b : Nat} (hb : 97 ≤ b ∧ b ≤ 122) : (32 : Int64) * nL a + (zi (b : Int)).toInt64 - 96 = nL (32 * a + (b - 96)) := by
  rw [zi64 b (by omega), show (32 : Int64) = nL 32 from rfl, show (96 : Int64) = nL 96 from rfl, show nL 32 * nL a = nL (32 * a) from (Int64.ofNat_mul 32 a).symm, nL_add, show 32 * a + b = (32 * a + (b - 96)) + 96 by omega, ← nL_add]
  exact Int64.add_sub_cancel _ _
theorem n_advance {J : mJ} {B : Nat → Nat} {N k : Nat} (hT : TpM J B N) (hk : J 128 3 = (k : Int)) (hN : k ≤ N) {post' : mJ → Prop} (hq : ∀ J1, TkM J1 (tkF B N k) → FrM J J1 → post' J1) : v_X12_advance J 128 post' := by
  have n6 := hT.1
  obtain ⟨⟨s1, s2⟩, s3, s4⟩ := spn_in (P := blB B) hN
  unfold tkF at hq
  unfold v_X12_advance v_X12_advance_0
  intro ZZ hZ
  refine lpS (S := fun j => ∀ J1, FrM J J1 → J1 128 3 = (j : Int) → ZZ J1) (P := blB B) (N := N) hN (fun j j1 j2 jb ih J1 fr e3 => hZ _ ?_) (fun J1 fr e3 => hZ _ ?_) J ⟨fun _ _ => rfl, fun _ _ => rfl⟩ hk
  · have hT1 := TpM_fr fr hT
    rw [e3]
    unfold blB at jb
    rw [decide_eq_true_eq] at jb
    have nx : v_X12_advance_26 128 post' ZZ J1 := by
      unfold v_X12_advance_26
      rw [e3]
      refine ⟨⟨by omega, by omega⟩, ?_⟩
      rintro J2 rfl
      exact ih _ (FrM_up fr (by omega)) (by rw [up2_at]; rfl)
    refine n_byteAt hT1 ?_
    rw [if_pos (by omega)]
    refine ⟨fun _ => nx, fun c => n_byteAt hT1 ?_⟩
    rw [if_pos (by omega)]
    exact ⟨fun c2 => by omega, fun _ => nx⟩
  · generalize spn (blB B) N k = w at *
    have hT1 := TpM_fr fr hT
    have go : v_X12_advance_39 128 post' J1 := by
      unfold v_X12_advance_39
      rintro J2 rfl
      have fr2 : FrM J (up2 J1 128 4 (J1 128 3)) := FrM_up fr (by omega)
      have hT2 := TpM_fr fr2 hT
      have e4 : up2 J1 128 4 (J1 128 3) 128 4 = (w : Int) := by rw [up2_at]; exact e3
      have e32 : up2 J1 128 4 (J1 128 3) 128 3 = (w : Int) := by rw [up2_off _ _ (Or.inr (by decide))]; exact e3
      generalize up2 J1 128 4 (J1 128 3) = J2 at *
      rw [e32]
      refine n_byteAt hT2 ?_
      by_cases cw : w < N
      · rw [if_pos cw]
        unfold tkW at hq
        rw [if_pos cw] at hq
        refine ⟨fun _ => n_isLetter ⟨fun c1 => n_isDigit ⟨fun c2 => ⟨⟨by omega, by omega⟩, ?_⟩, fun c2 => ?_⟩, fun c1 => ?_⟩, fun c => by omega⟩
        · rintro J3 rfl
          rw [if_neg (by unfold leB; rw [c1]; decide), if_neg (by unfold diB; rw [c2]; decide)] at hq
          have fin : ∀ v : Nat, v = rtk (if B w = 45 then 3 else if B w = 59 then 4 else 5, w, w + 1, 0, 8) → v_X12_advance_318 128 post' (up2 J2 128 3 ((w : Int) + 1)) (v : Int) := by
            rintro v rfl
            unfold v_X12_advance_318
            rintro J4 rfl
            refine hq _ ⟨?_, ?_, ?_, fun h => ?_, fun h => ?_⟩ (FrM_up (FrM_up fr2 (by omega)) (by omega))
            · rw [up2_off _ _ (Or.inr (by decide)), up2_at]; rfl
            · rw [up2_off _ _ (Or.inr (by decide)), up2_off _ _ (Or.inr (by decide))]; exact e4
            · rw [up2_at]
            · change (if B w = 45 then 3 else if B w = 59 then 4 else 5) = 2 at h
              split at h
              · omega
              · split at h <;> omega
            · exfalso
              by_cases q1 : B w = 45
              · rw [if_pos q1] at h; exact absurd h (by show ¬ (5 = 3); decide)
              · rw [if_neg q1] at h
                by_cases q2 : B w = 59
                · rw [if_pos q2] at h; exact absurd h (by show ¬ (2 = 3); decide)
                · rw [if_neg q2] at h; exact absurd h (by show ¬ (4 = 3); decide)
          refine ⟨fun c3 => ⟨fun c4 => fin 4 ?_, fun c4 => fin 5 ?_⟩, fun c3 => fin 2 ?_⟩
          · rw [if_neg (by omega), if_neg (by omega)]; rfl
          · rw [if_pos (by omega)]; rfl
          · rw [if_neg (by omega), if_pos (by omega)]; rfl
        · rw [if_neg (by unfold leB; rw [c1]; decide), if_pos (by unfold diB; exact c2)] at hq
          obtain ⟨⟨b1, b2⟩, b3, b4⟩ := spn_in (P := diB B) (Nat.le_of_lt cw)
          rintro J3 rfl
          unfold v_X12_advance_198
          intro Z2 hZ2
          refine lpS (S := fun j => ∀ J3, FrM J J3 → J3 128 3 = (j : Int) → J3 128 4 = (w : Int) → J3 128 6 = ((nmF B w (j - w) : Nat) : Int) → Z2 J3) (P := diB B) (N := N) (Nat.le_of_lt cw) (fun j j1 j2 jb ih J3 fr3 e6 e8 e9 => hZ2 _ ?_) (fun J3 fr3 e6 e8 e9 => hZ2 _ ?_) _ (FrM_up fr2 (by omega)) (by rw [up2_off _ _ (Or.inr (by decide))]; exact e32) (by rw [up2_off _ _ (Or.inr (by decide))]; exact e4) (by rw [up2_at, Nat.sub_self]; rfl)
          · have hT3 := TpM_fr fr3 hT
            rw [e6, e8, e9]
            refine n_byteAt hT3 ?_
            rw [if_pos (by omega)]
            refine n_isDigit ?_
            unfold diB at jb
            rw [jb]
            rw [decide_eq_true_eq] at jb
            rw [show j + 1 - w = (j - w) + 1 by omega, nmF, show w + (j - w) = j by omega] at ih
            refine ⟨fun c2 => Bool.noConfusion c2, fun _ => ⟨⟨by omega, by omega⟩, fun c5 => ?_, fun c5 => ?_⟩⟩
            · unfold v_X12_advance_248
              rw [e6]
              refine ⟨⟨by omega, by omega⟩, ?_⟩
              rintro J4 rfl
              rw [if_neg (by omega)] at ih
              exact ih _ (FrM_up fr3 (by omega)) (by rw [up2_at]; rfl) (by rw [up2_off _ _ (Or.inr (by decide))]; exact e8) (by rw [up2_off _ _ (Or.inr (by decide))]; exact e9)
            · have h99 := nmF_99 (B := B) (w := w) (j - w) (fun i hi => by
                have := b3 (w + i) (by omega) (by omega)
                unfold diB at this; rw [decide_eq_true_eq] at this; exact this.2)
              have h99' : nmF B w (j - w) ≤ 99 := by
                split at h99
                · omega
                · split at h99 <;> omega
              refine ⟨⟨by omega, by omega⟩, n_byteAt hT3 ?_⟩
              rw [if_pos (by omega)]
              refine ⟨⟨by omega, by omega⟩, ⟨by omega, by omega⟩, ?_⟩
              rintro J4 rfl
              unfold v_X12_advance_248
              rw [show up2 J3 128 6 (10 * ((nmF B w (j - w) : Nat) : Int) + (B j : Int) - 48) 128 3 = (j : Int) by rw [up2_off _ _ (Or.inr (by decide))]; exact e6]
              refine ⟨⟨by omega, by omega⟩, ?_⟩
              rintro J5 rfl
              rw [if_pos (by omega)] at ih
              exact ih _ (FrM_up (FrM_up fr3 (by omega)) (by omega)) (by rw [up2_at]; rfl) (by rw [up2_off _ _ (Or.inr (by decide)), up2_off _ _ (Or.inr (by decide))]; exact e8) (by rw [up2_off _ _ (Or.inr (by decide)), up2_at]; omega)
          · have hT3 := TpM_fr fr3 hT
            have k81 : v_X12_advance_261 128 post' J3 := by
              unfold v_X12_advance_261
              rw [e6, e8]
              have fin : ∀ v q : Nat, q = (if spn (diB B) N w - w ≤ 2 then 2 else 5) → (v = if q = 2 then 1 else 4) → v_X12_advance_280 128 post' J3 (v : Int) := by
                intro v q eq ev
                rw [← eq] at hq
                unfold v_X12_advance_280
                rintro J4 rfl
                have hqq : q = 2 ∨ q = 5 := by split at eq <;> omega
                refine hq _ ⟨?_, ?_, ?_, fun h => ?_, fun h => ?_⟩ (FrM_up fr3 (by omega))
                · rw [up2_off _ _ (Or.inr (by decide))]; exact e6
                · rw [up2_off _ _ (Or.inr (by decide))]; exact e8
                · rw [up2_at, ev]
                  rcases hqq with rfl | rfl <;> rfl
                · rw [up2_off _ _ (Or.inr (by decide))]; exact e9
                · exfalso
                  rcases hqq with rfl | rfl
                  · exact absurd h (by show ¬ (1 = 3); decide)
                  · exact absurd h (by show ¬ (4 = 3); decide)
              refine ⟨⟨by omega, by omega⟩, fun c5 => fin 1 2 ?_ rfl, fun c5 => fin 4 5 ?_ rfl⟩
              · rw [if_pos (by omega)]
              · rw [if_neg (by omega)]
            rw [e6]
            refine n_byteAt hT3 ?_
            by_cases c5 : spn (diB B) N w < N
            · rw [if_pos c5]
              refine n_isDigit ?_
              rw [show decide (48 ≤ B (spn (diB B) N w) ∧ B (spn (diB B) N w) ≤ 57) = false from b4 c5]
              exact ⟨fun _ => k81, fun c2 => Bool.noConfusion c2⟩
            · rw [if_neg c5]
              exact ⟨fun _ => ⟨fun _ => k81, fun c2 => Bool.noConfusion c2⟩, fun c6 => absurd (by decide) c6⟩
        · rw [if_pos (by unfold leB; exact c1)] at hq
          obtain ⟨⟨b1, b2⟩, b3, b4⟩ := spn_in (P := leB B) (Nat.le_of_lt cw)
          have hle : ∀ i, i < spn (leB B) N w - w → 97 ≤ B (w + i) ∧ B (w + i) ≤ 122 := fun i hi => by
            have := b3 (w + i) (by omega) (by omega)
            unfold leB at this; rw [decide_eq_true_eq] at this; exact this
          rintro _ rfl
          unfold v_X12_advance_77
          intro Z2 hZ2
          have k0 := lpS (S := fun j => ∀ J3, FrM J J3 → J3 128 3 = (j : Int) → J3 128 4 = (w : Int) → Z2 J3 (nL (vl (fun i => B (w + i) - 96) (if j - w < 8 then j - w else 8)))) (P := leB B) (N := N) (Nat.le_of_lt cw) (fun j j1 j2 jb ih J3 fr3 e6 e8 => hZ2 _ _ ?_) (fun J3 fr3 e6 e8 => hZ2 _ _ ?_) J2 fr2 e32 e4
          · rw [Nat.sub_self, if_pos (by decide)] at k0; exact k0
          · have hT3 := TpM_fr fr3 hT
            rw [e6, e8]
            refine n_byteAt hT3 ?_
            rw [if_pos (by omega)]
            refine n_isLetter ?_
            unfold leB at jb
            rw [jb]
            rw [decide_eq_true_eq] at jb
            refine ⟨fun c2 => Bool.noConfusion c2, fun _ => ⟨⟨by omega, by omega⟩, fun c5 => ?_, fun c5 => n_byteAt hT3 ?_⟩⟩
            · unfold v_X12_advance_125
              rw [e6]
              refine ⟨⟨by omega, by omega⟩, ?_⟩
              rintro J4 rfl
              have := ih _ (FrM_up (i := 3) (v := (j : Int) + 1) fr3 (by omega)) (by rw [up2_at]; rfl) (by rw [up2_off _ _ (Or.inr (by decide))]; exact e8)
              rw [if_neg (by omega)] at this
              rw [if_neg (by omega)]; exact this
            · rw [if_pos (by omega), if_pos (by omega), nL_step jb]
              rintro _ rfl
              unfold v_X12_advance_125
              rw [e6]
              refine ⟨⟨by omega, by omega⟩, ?_⟩
              rintro J4 rfl
              have := ih _ (FrM_up (i := 3) (v := (j : Int) + 1) fr3 (by omega)) (by rw [up2_at]; rfl) (by rw [up2_off _ _ (Or.inr (by decide))]; exact e8)
              have ee : (if j + 1 - w < 8 then j + 1 - w else 8) = (j - w) + 1 := by split <;> omega
              rw [ee, vl, show w + (j - w) = j by omega] at this
              exact this
          · have hT3 := TpM_fr fr3 hT
            have k138 : v_X12_advance_138 128 post' J3 (nL (vl (fun i => B (w + i) - 96) (if spn (leB B) N w - w < 8 then spn (leB B) N w - w else 8))) := by
              unfold v_X12_advance_138
              rw [e6, e8]
              have fin : ∀ v : Int, v = (if wdF B w (spn (leB B) N w - w) < 8 then (wdF B w (spn (leB B) N w - w) : Int) + 1 else 99) → v_X12_advance_162 128 post' J3 v := by
                rintro v rfl
                obtain ⟨_, _, w8⟩ := wdF_fs (B := B) (w := w) (n := spn (leB B) N w - w)
                generalize wdF B w (spn (leB B) N w - w) = x at *
                unfold v_X12_advance_162
                rintro J4 rfl
                rw [up2_at]
                have fin2 : ∀ t : Nat, t = (if x < 8 then 3 else 4) → v_X12_advance_180 128 post' (up2 J3 128 7 (if x < 8 then (x : Int) + 1 else 99)) (t : Int) := by
                  intro t et
                  unfold v_X12_advance_180
                  rintro J5 rfl
                  refine hq _ ⟨?_, ?_, ?_, fun h => absurd h (by show ¬ (1 = 2); decide), fun h => ?_⟩ (FrM_up (FrM_up fr3 (by omega)) (by omega))
                  · rw [up2_off _ _ (Or.inr (by decide)), up2_off _ _ (Or.inr (by decide))]; exact e6
                  · rw [up2_off _ _ (Or.inr (by decide)), up2_off _ _ (Or.inr (by decide))]; exact e8
                  · rw [up2_at, et, rtk_w]
                  · rw [up2_off _ _ (Or.inr (by decide)), up2_at]
                    by_cases c8 : x < 8
                    · rw [if_pos c8]; rfl
                    · exfalso
                      rw [rtk_w, if_neg c8] at h
                      omega
                refine ⟨fun c6 => fin2 3 ?_, fun c6 => fin2 4 ?_⟩
                · rw [if_pos]
                  by_cases c8 : x < 8
                  · exact c8
                  · rw [if_neg c8] at c6; exact absurd rfl c6
                · rw [if_neg]
                  intro c8
                  rw [if_pos c8] at c6; omega
              refine ⟨⟨by omega, by omega⟩, fun c5 => ?_, fun c5 => fin 99 ?_⟩
              · have ee : (if spn (leB B) N w - w < 8 then spn (leB B) N w - w else 8) = spn (leB B) N w - w := by split <;> omega
                rw [ee]
                have lt := vl_lt (d := fun i => B (w + i) - 96) (spn (leB B) N w - w) (fun i hi => by have := hle i hi; show B (w + i) - 96 ≤ 26; omega)
                have l8 : 32 ^ (spn (leB B) N w - w) ≤ 32 ^ 8 := Nat.pow_le_pow_right (by decide) (by omega)
                refine n_wordOf (Nat.lt_of_lt_of_le lt (Nat.le_trans l8 (by decide))) (fin _ (wc_wd hle))
              · rw [wd_long (by omega), if_neg (by decide)]
            rw [e6]
            refine n_byteAt hT3 ?_
            by_cases c5 : spn (leB B) N w < N
            · rw [if_pos c5]
              refine n_isLetter ?_
              rw [show decide (97 ≤ B (spn (leB B) N w) ∧ B (spn (leB B) N w) ≤ 122) = false from b4 c5]
              exact ⟨fun _ => k138, fun c2 => Bool.noConfusion c2⟩
            · rw [if_neg c5]
              exact ⟨fun _ => ⟨fun _ => k138, fun c2 => Bool.noConfusion c2⟩, fun c6 => absurd (by decide) c6⟩
      · rw [if_neg cw]
        refine ⟨fun c => absurd c (by decide), fun _ => ?_⟩
        rintro J3 rfl
        unfold tkW at hq
        rw [if_neg cw] at hq
        refine hq _ ⟨?_, ?_, ?_, fun h => absurd h (by show ¬ (0 = 2); decide), fun h => absurd h (by show ¬ (0 = 3); decide)⟩ (FrM_up fr2 (by omega))
        · rw [up2_off _ _ (Or.inr (by decide))]; exact e32
        · rw [up2_off _ _ (Or.inr (by decide))]; exact e4
        · rw [up2_at]; rfl
    rw [e3]
    refine n_byteAt hT1 ?_
    by_cases c : w < N
    · rw [if_pos c]
      have b := s4 c
      unfold blB at b
      rw [decide_eq_false_iff_not] at b
      refine ⟨fun c1 => absurd (Or.inl (by omega)) b, fun c1 => n_byteAt hT1 ?_⟩
      rw [if_pos c]
      exact ⟨fun _ => go, fun c2 => absurd (Or.inr (by omega)) b⟩
    · rw [if_neg c]
      refine ⟨fun c1 => absurd c1 (by decide), fun c1 => n_byteAt hT1 ?_⟩
      rw [if_neg c]
      exact ⟨fun _ => go, fun c2 => absurd c2 (by decide)⟩
