/-! tokens on both sides -/
def spF (P : Nat → Bool) : Nat → Nat → Nat
  | 0, k => k
  | d + 1, k => if P k = true then spF P d (k + 1) else k
def spn (P : Nat → Bool) (N k : Nat) : Nat := spF P (N - k) k
theorem spF_in (P : Nat → Bool) : ∀ d k, (k ≤ spF P d k ∧ spF P d k ≤ k + d) ∧ (∀ j, k ≤ j → j < spF P d k → P j = true) ∧ (spF P d k < k + d → P (spF P d k) = false)
  | 0, k => ⟨⟨Nat.le_refl _, Nat.le_refl _⟩, fun j h1 h2 => by rw [spF] at h2; omega, fun h => absurd h (Nat.lt_irrefl _)⟩
  | d + 1, k => by
    rw [spF]
    by_cases c : P k = true
    · rw [if_pos c]
      obtain ⟨⟨h1, h2⟩, h3, h4⟩ := spF_in P d (k + 1)
      refine ⟨⟨by omega, by omega⟩, fun j a b => ?_, fun h => h4 (by omega)⟩
      by_cases e : j = k
      · rw [e]; exact c
      · exact h3 j (by omega) b
    · rw [if_neg c]
      exact ⟨⟨Nat.le_refl _, by omega⟩, fun j a b => by omega, fun _ => Bool.eq_false_iff.mpr c⟩
theorem spn_in {P : Nat → Bool} {N k : Nat} (h : k ≤ N) : (k ≤ spn P N k ∧ spn P N k ≤ N) ∧ (∀ j, k ≤ j → j < spn P N k → P j = true) ∧ (spn P N k < N → P (spn P N k) = false) := by
  obtain ⟨⟨h1, h2⟩, h3, h4⟩ := spF_in P (N - k) k
  exact ⟨⟨h1, by unfold spn; omega⟩, h3, fun h => h4 (by unfold spn at h; omega)⟩
/-- a loop that goes on while P holds -/
theorem lpS {S : Nat → Prop} {P : Nat → Bool} {N k : Nat} (h : k ≤ N) (hs : ∀ j, k ≤ j → j < spn P N k → P j = true → S (j + 1) → S j) (he : S (spn P N k)) : S k := by
  obtain ⟨⟨h1, h2⟩, h3, h4⟩ := spn_in (P := P) h
  have := lpN (S := fun d => S (k + d)) (N := spn P N k - k) (fun d hd ih => hs (k + d) (by omega) (by omega) (h3 _ (by omega) (by omega)) ih) (by show S (k + (spn P N k - k)); rw [show k + (spn P N k - k) = spn P N k by omega]; exact he)
  exact this
def blB (B : Nat → Nat) (j : Nat) : Bool := decide (B j = 10 ∨ B j = 32)
def leB (B : Nat → Nat) (j : Nat) : Bool := decide (97 ≤ B j ∧ B j ≤ 122)
def diB (B : Nat → Nat) (j : Nat) : Bool := decide (48 ≤ B j ∧ B j ≤ 57)
def chT : List (List Nat) := [[115, 116, 101, 112, 115], [107, 101, 101, 112], [99, 97, 114, 112, 101, 116], [102, 108, 97, 116], [112, 101, 114, 115, 111, 110], [119, 97, 108, 107], [99, 104, 97, 110, 103, 101], [104, 101, 97, 114, 100]]
def chW (o i : Nat) : Nat := (chT.getD o []).getD i 0
def lnW (o : Nat) : Nat := tb_len.getD o 0
/-- the bytes from w on, n of them, are those of word o -/
def mwB (B : Nat → Nat) (w n o : Nat) : Bool := decide (n = lnW o) && ! anyF (fun i => decide (B (w + i) ≠ chW o i)) (lnW o)
def wdF (B : Nat → Nat) (w n : Nat) : Nat := (if fstF (mwB B w n) 0 8 = -1 then 8 else fstF (mwB B w n) 0 8).toNat
def nmF (B : Nat → Nat) (w : Nat) : Nat → Nat
  | 0 => 0
  | i + 1 => if i < 2 then nmF B w i * 10 + (B (w + i) - 48) else nmF B w i
/-- a token: kind, place, end, number, word -/
abbrev Tk : Type := Nat × Nat × Nat × Nat × Nat
def tkW (B : Nat → Nat) (N w : Nat) : Tk :=
  if w < N then
    (if leB B w = true then (1, w, spn (leB B) N w, 0, wdF B w (spn (leB B) N w - w))
    else if diB B w = true then (if spn (diB B) N w - w ≤ 2 then 2 else 5, w, spn (diB B) N w, nmF B w (spn (diB B) N w - w), 8)
    else (if B w = 45 then 3 else if B w = 59 then 4 else 5, w, w + 1, 0, 8))
  else (0, w, w, 0, 8)
def tkF (B : Nat → Nat) (N k : Nat) : Tk := tkW B N (spn (blB B) N k)
def kd (c : Tk) : Nat := c.1
def pl (c : Tk) : Nat := c.2.1
def en (c : Tk) : Nat := c.2.2.1
def nu (c : Tk) : Nat := c.2.2.2.1
def wd (c : Tk) : Nat := c.2.2.2.2
theorem spn_1 {P : Nat → Bool} {N k : Nat} (h : k < N) (hp : P k = true) : k < spn P N k := by
  obtain ⟨⟨h1, h2⟩, h3, h4⟩ := spn_in (P := P) (Nat.le_of_lt h)
  by_cases c : k = spn P N k
  · rw [← c] at h4; rw [h4 h] at hp; exact Bool.noConfusion hp
  · omega
theorem nmF_99 {B : Nat → Nat} {w : Nat} : ∀ n, (∀ i, i < n → B (w + i) ≤ 57) → nmF B w n ≤ (if n = 0 then 0 else if n = 1 then 9 else 99)
  | 0, _ => Nat.le_refl _
  | 1, h => by
    have := h 0 (by omega)
    rw [nmF, nmF, if_pos (by decide), if_neg (by decide), if_pos rfl]; omega
  | n + 2, h => by
    have ih := nmF_99 (B := B) (w := w) (n + 1) (fun i hi => h i (by omega))
    have h1 := h (n + 1) (by omega)
    rw [if_neg (by omega), if_neg (by omega), nmF]
    rw [if_neg (by omega)] at ih
    by_cases c : n = 0
    · subst c; rw [if_pos rfl] at ih; rw [if_pos (by decide)]; omega
    · rw [if_neg (by omega)] at ih; rw [if_neg (by omega)]; exact ih
theorem tk_in {B : Nat → Nat} {N k : Nat} (h : k ≤ N) : k ≤ pl (tkF B N k) ∧ (kd (tkF B N k) = 0 → pl (tkF B N k) = N ∧ en (tkF B N k) = N) ∧ (kd (tkF B N k) ≠ 0 → pl (tkF B N k) < en (tkF B N k) ∧ en (tkF B N k) ≤ N) ∧ kd (tkF B N k) ≤ 5 ∧ (kd (tkF B N k) = 2 → nu (tkF B N k) ≤ 99) ∧ (kd (tkF B N k) = 1 → wd (tkF B N k) = wdF B (pl (tkF B N k)) (en (tkF B N k) - pl (tkF B N k))) := by
  obtain ⟨⟨h1, h2⟩, h3, h4⟩ := spn_in (P := blB B) h
  unfold tkF
  generalize spn (blB B) N k = w at h1 h2 h3 h4
  unfold tkW
  by_cases c : w < N
  · rw [if_pos c]
    by_cases c1 : leB B w = true
    · rw [if_pos c1]
      have a := spn_1 c c1
      obtain ⟨⟨b1, b2⟩, _⟩ := spn_in (P := leB B) (Nat.le_of_lt c)
      exact ⟨h1, fun h => absurd h (by show ¬ (1 = 0); decide), fun _ => ⟨a, b2⟩, by show 1 ≤ 5; decide, fun h => absurd h (by show ¬ (1 = 2); decide), fun _ => rfl⟩
    · rw [if_neg c1]
      by_cases c2 : diB B w = true
      · rw [if_pos c2]
        have a := spn_1 c c2
        obtain ⟨⟨b1, b2⟩, b3, _⟩ := spn_in (P := diB B) (Nat.le_of_lt c)
        refine ⟨h1, fun h => ?_, fun _ => ⟨a, b2⟩, ?_, fun _ => ?_, fun h => ?_⟩
        · change (if spn (diB B) N w - w ≤ 2 then 2 else 5) = 0 at h
          split at h <;> omega
        · show (if spn (diB B) N w - w ≤ 2 then 2 else 5) ≤ 5
          split <;> omega
        · have := nmF_99 (B := B) (w := w) (spn (diB B) N w - w) (fun i hi => by
            have := b3 (w + i) (by omega) (by omega)
            unfold diB at this; rw [decide_eq_true_eq] at this; exact this.2)
          show nmF B w (spn (diB B) N w - w) ≤ 99
          split at this
          · omega
          · split at this <;> omega
        · change (if spn (diB B) N w - w ≤ 2 then 2 else 5) = 1 at h
          split at h <;> omega
      · rw [if_neg c2]
        refine ⟨h1, fun h => ?_, fun _ => ⟨by show w < w + 1; omega, by show w + 1 ≤ N; omega⟩, ?_, fun h => ?_, fun h => ?_⟩
        · change (if B w = 45 then 3 else if B w = 59 then 4 else 5) = 0 at h
          split at h
          · omega
          · split at h <;> omega
        · show (if B w = 45 then 3 else if B w = 59 then 4 else 5) ≤ 5
          split
          · omega
          · split <;> omega
        · change (if B w = 45 then 3 else if B w = 59 then 4 else 5) = 2 at h
          split at h
          · omega
          · split at h <;> omega
        · change (if B w = 45 then 3 else if B w = 59 then 4 else 5) = 1 at h
          split at h
          · omega
          · split at h <;> omega
  · rw [if_neg c]
    exact ⟨h1, fun _ => ⟨by show w = N; omega, by show w = N; omega⟩, fun h => absurd rfl h, by show 0 ≤ 5; decide, fun h => absurd h (by show ¬ (0 = 2); decide), fun h => absurd h (by show ¬ (0 = 1); decide)⟩
/-- the class's token; its tape -/
def TkC (J : mJ) (c : Tk) : Prop := J 44 6 = (en c : Int) ∧ J 44 7 = (kd c : Int) ∧ J 44 8 = (pl c : Int) ∧ (kd c = 2 → J 44 9 = (nu c : Int))
def TpC (J : mJ) (B : Nat → Nat) (N : Nat) : Prop := N ≤ 600 ∧ (∀ i, i < 600 → B i ≤ 255 ∧ J 2 i = sb (B i : Int)) ∧ J 44 5 = (N : Int)
def FrC (J J1 : mJ) : Prop := (∀ c, c ≠ 44 → J1 c = J c) ∧ (∀ i, (i < 6 ∨ 9 < i) → J1 44 i = J 44 i)
theorem TpC_fr {J J1 : mJ} {B : Nat → Nat} {N : Nat} (h : FrC J J1) (hT : TpC J B N) : TpC J1 B N := ⟨hT.1, by rw [h.1 2 (by decide)]; exact hT.2.1, by rw [h.2 5 (by omega)]; exact hT.2.2⟩
theorem FrC_up {J J1 : mJ} {i : Nat} {v : Int} (h : FrC J J1) (hi : 6 ≤ i ∧ i ≤ 9) : FrC J (up2 J1 44 i v) := ⟨fun c hc => by rw [up2_n _ _ _ hc]; exact h.1 c hc, fun j hj => by rw [up2_off _ _ (Or.inr (by omega))]; exact h.2 j hj⟩
theorem x_isBlank {b : Nat} (hb : b ≤ 255) {post' : Bool → Prop} (hq : post' (decide (b = 10 ∨ b = 32))) : v_X5_isBlank (sb (b : Int)) post' := by
  have e : sb (b : Int) = if b < 128 then (b : Int) else (b : Int) - 256 := by unfold sb; split <;> split <;> omega
  have hq := pb hq
  refine ⟨fun c => hq.1 ?_, fun c => ⟨fun c2 => hq.2 ?_, fun c2 => hq.1 ?_⟩⟩ <;> split at e <;> omega
theorem x_isLetter {b : Nat} (hb : b ≤ 255) {post' : Bool → Prop} (hq : post' (decide (97 ≤ b ∧ b ≤ 122))) : v_X5_isLetter (sb (b : Int)) post' := by
  have e : sb (b : Int) = if b < 128 then (b : Int) else (b : Int) - 256 := by unfold sb; split <;> split <;> omega
  have hq := pb hq
  refine ⟨fun c => hq.2 ?_, fun c => ⟨fun c2 => hq.2 ?_, fun c2 => hq.1 ?_⟩⟩ <;> split at e <;> omega
theorem x_isDigit {b : Nat} (hb : b ≤ 255) {post' : Bool → Prop} (hq : post' (decide (48 ≤ b ∧ b ≤ 57))) : v_X5_isDigit (sb (b : Int)) post' := by
  have e : sb (b : Int) = if b < 128 then (b : Int) else (b : Int) - 256 := by unfold sb; split <;> split <;> omega
  have hq := pb hq
  refine ⟨fun c => hq.2 ?_, fun c => ⟨fun c2 => hq.2 ?_, fun c2 => hq.1 ?_⟩⟩ <;> split at e <;> omega
theorem x_nextToken {J : mJ} {B : Nat → Nat} {N k : Nat} (hT : TpC J B N) (hk : J 44 6 = (k : Int)) (hN : k ≤ N) {post' : mJ → Prop} (hq : ∀ J1, TkC J1 (tkF B N k) → FrC J J1 → post' J1) : v_X5_nextToken J 44 2 post' := by
  have n6 := hT.1
  obtain ⟨⟨s1, s2⟩, s3, s4⟩ := spn_in (P := blB B) hN
  unfold tkF at hq
  unfold v_X5_nextToken v_X5_nextToken_0
  intro ZZ hZ
  refine lpS (S := fun j => ∀ J1, FrC J J1 → J1 44 6 = (j : Int) → ZZ J1) (P := blB B) (N := N) hN (fun j j1 j2 jb ih J1 fr e6 => hZ _ ?_) (fun J1 fr e6 => hZ _ ?_) J ⟨fun _ _ => rfl, fun _ _ => rfl⟩ hk
  · have hT1 := TpC_fr fr hT
    rw [hT1.2.2, e6, Int.toNat_natCast, (hT1.2.1 j (by omega)).2]
    refine ⟨fun c => by omega, fun _ => ⟨⟨by omega, by omega⟩, x_isBlank (hT1.2.1 j (by omega)).1 ?_⟩⟩
    change blB B j = true at jb
    rw [show decide (B j = 10 ∨ B j = 32) = true from jb]
    refine ⟨fun c2 => Bool.noConfusion c2, fun _ => ⟨⟨by omega, by omega⟩, ?_⟩⟩
    rintro J2 rfl
    exact ih _ (FrC_up fr (by omega)) (by rw [up2_at]; rfl)
  · generalize spn (blB B) N k = w at *
    have hT1 := TpC_fr fr hT
    have go : v_X5_nextToken_39 44 2 post' J1 := by
      unfold v_X5_nextToken_39
      rintro J2 rfl
      have fr2 : FrC J (up2 J1 44 8 (J1 44 6)) := FrC_up fr (by omega)
      have hT2 := TpC_fr fr2 hT
      have e8 : up2 J1 44 8 (J1 44 6) 44 8 = (w : Int) := by rw [up2_at]; exact e6
      have e62 : up2 J1 44 8 (J1 44 6) 44 6 = (w : Int) := by rw [up2_off _ _ (Or.inr (by decide))]; exact e6
      generalize up2 J1 44 8 (J1 44 6) = J2 at *
      rw [hT2.2.2, e62]
      refine ⟨fun c => ?_, fun c => ?_⟩
      · have cw : w < N := by omega
        unfold tkW at hq
        rw [if_pos cw] at hq
        rw [Int.toNat_natCast, (hT2.2.1 w (by omega)).2]
        refine ⟨⟨by omega, by omega⟩, x_isLetter (hT2.2.1 w (by omega)).1 ⟨fun c1 => ⟨⟨by omega, by omega⟩, x_isDigit (hT2.2.1 w (by omega)).1 ⟨fun c2 => ?_, fun c2 => ?_⟩⟩, fun c1 => ?_⟩⟩
        · rw [if_neg (by unfold leB; rw [c1]; decide), if_neg (by unfold diB; rw [c2]; decide)] at hq
          have hb := (hT2.2.1 w (by omega)).1
          have e : sb (B w : Int) = if B w < 128 then (B w : Int) else (B w : Int) - 256 := by unfold sb; split <;> split <;> omega
          have fin : ∀ v : Nat, v = (if B w = 45 then 3 else if B w = 59 then 4 else 5) → v_X5_nextToken_148 44 2 post' J2 (v : Int) := by
            rintro v rfl
            unfold v_X5_nextToken_148
            rintro J3 rfl
            rw [show up2 J2 44 7 (((if B w = 45 then 3 else if B w = 59 then 4 else 5 : Nat)) : Int) 44 6 = (w : Int) by rw [up2_off _ _ (Or.inr (by decide))]; exact e62]
            refine ⟨⟨by omega, by omega⟩, ?_⟩
            rintro J4 rfl
            refine hq _ ⟨?_, ?_, ?_, fun h => ?_⟩ (FrC_up (FrC_up fr2 (by omega)) (by omega))
            · rw [up2_at]; rfl
            · rw [up2_off _ _ (Or.inr (by decide)), up2_at]; rfl
            · rw [up2_off _ _ (Or.inr (by decide)), up2_off _ _ (Or.inr (by decide))]; exact e8
            · change (if B w = 45 then 3 else if B w = 59 then 4 else 5) = 2 at h
              split at h
              · omega
              · split at h <;> omega
          refine ⟨⟨by omega, by omega⟩, fun c3 => ⟨⟨by omega, by omega⟩, fun c4 => fin 5 ?_, fun c4 => fin 4 ?_⟩, fun c3 => fin 3 ?_⟩
          · rw [if_neg (by split at e <;> omega), if_neg (by split at e <;> omega)]
          · rw [if_neg (by split at e <;> omega), if_pos (by split at e <;> omega)]
          · rw [if_pos (by split at e <;> omega)]
        · rw [if_neg (by unfold leB; rw [c1]; decide), if_pos (by unfold diB; exact c2)] at hq
          obtain ⟨⟨b1, b2⟩, b3, b4⟩ := spn_in (P := diB B) (Nat.le_of_lt cw)
          unfold v_X5_readNumber
          rintro J3 rfl
          unfold v_X5_readNumber_5
          intro Z2 hZ2
          refine lpS (S := fun j => ∀ J3, FrC J J3 → J3 44 6 = (j : Int) → J3 44 8 = (w : Int) → J3 44 9 = ((nmF B w (j - w) : Nat) : Int) → Z2 J3) (P := diB B) (N := N) (Nat.le_of_lt cw) (fun j j1 j2 jb ih J3 fr3 e6 e8 e9 => hZ2 _ ?_) (fun J3 fr3 e6 e8 e9 => hZ2 _ ?_) _ (FrC_up fr2 (by omega)) (by rw [up2_off _ _ (Or.inr (by decide))]; exact e62) (by rw [up2_off _ _ (Or.inr (by decide))]; exact e8) (by rw [up2_at, Nat.sub_self]; rfl)
          · have hT3 := TpC_fr fr3 hT
            have hb := (hT3.2.1 j (by omega)).1
            rw [hT3.2.2, e6, e8, e9, Int.toNat_natCast, (hT3.2.1 j (by omega)).2]
            refine ⟨fun c => by omega, fun _ => ⟨⟨by omega, by omega⟩, x_isDigit hb ?_⟩⟩
            unfold diB at jb
            rw [jb]
            rw [decide_eq_true_eq] at jb
            rw [show j + 1 - w = (j - w) + 1 by omega, nmF, show w + (j - w) = j by omega] at ih
            have hsb : sb (B j : Int) = (B j : Int) := by unfold sb; rw [if_pos (by omega)]
            refine ⟨fun c2 => Bool.noConfusion c2, fun _ => ⟨⟨by omega, by omega⟩, fun c5 => ?_, fun c5 => ?_⟩⟩
            · unfold v_X5_readNumber_68
              rw [e6]
              refine ⟨⟨by omega, by omega⟩, ?_⟩
              rintro J4 rfl
              rw [if_neg (by omega)] at ih
              exact ih _ (FrC_up fr3 (by omega)) (by rw [up2_at]; rfl) (by rw [up2_off _ _ (Or.inr (by decide))]; exact e8) (by rw [up2_off _ _ (Or.inr (by decide))]; exact e9)
            · have h99 := nmF_99 (B := B) (w := w) (j - w) (fun i hi => by
                have := b3 (w + i) (by omega) (by omega)
                unfold diB at this; rw [decide_eq_true_eq] at this; exact this.2)
              have h99' : nmF B w (j - w) ≤ 99 := by
                split at h99
                · omega
                · split at h99 <;> omega
              rw [hsb]
              refine ⟨⟨by omega, by omega⟩, ⟨by omega, by omega⟩, ⟨by omega, by omega⟩, ⟨by omega, by omega⟩, ?_⟩
              rintro J4 rfl
              unfold v_X5_readNumber_68
              rw [show up2 J3 44 9 (((nmF B w (j - w) : Nat) : Int) * 10 + (B j : Int) - 48) 44 6 = (j : Int) by rw [up2_off _ _ (Or.inr (by decide))]; exact e6]
              refine ⟨⟨by omega, by omega⟩, ?_⟩
              rintro J5 rfl
              rw [if_pos (by omega)] at ih
              exact ih _ (FrC_up (FrC_up fr3 (by omega)) (by omega)) (by rw [up2_at]; rfl) (by rw [up2_off _ _ (Or.inr (by decide)), up2_off _ _ (Or.inr (by decide))]; exact e8) (by rw [up2_off _ _ (Or.inr (by decide)), up2_at]; omega)
          · have hT3 := TpC_fr fr3 hT
            have k81 : v_X5_readNumber_81 44 2 post' J3 := by
              unfold v_X5_readNumber_81
              rw [e6, e8]
              have fin : ∀ v : Nat, v = (if spn (diB B) N w - w ≤ 2 then 2 else 5) → v_X5_readNumber_100 44 2 post' J3 (v : Int) := by
                rintro v rfl
                unfold v_X5_readNumber_100
                rintro J4 rfl
                refine hq _ ⟨?_, ?_, ?_, fun h => ?_⟩ (FrC_up fr3 (by omega))
                · rw [up2_off _ _ (Or.inr (by decide))]; exact e6
                · rw [up2_at]; rfl
                · rw [up2_off _ _ (Or.inr (by decide))]; exact e8
                · rw [up2_off _ _ (Or.inr (by decide))]; exact e9
              refine ⟨⟨by omega, by omega⟩, fun c5 => fin 5 ?_, fun c5 => fin 2 ?_⟩
              · rw [if_neg (by omega)]
              · rw [if_pos (by omega)]
            rw [hT3.2.2, e6]
            refine ⟨fun _ => k81, fun c5 => ⟨⟨by omega, by omega⟩, ?_⟩⟩
            rw [Int.toNat_natCast, (hT3.2.1 _ (by omega)).2]
            refine x_isDigit (hT3.2.1 _ (by omega)).1 ?_
            rw [show decide (48 ≤ B (spn (diB B) N w) ∧ B (spn (diB B) N w) ≤ 57) = false from b4 (by omega)]
            exact ⟨fun _ => k81, fun c2 => Bool.noConfusion c2⟩
        · rw [if_pos (by unfold leB; exact c1)] at hq
          obtain ⟨⟨b1, b2⟩, b3, b4⟩ := spn_in (P := leB B) (Nat.le_of_lt cw)
          unfold v_X5_readWord
          rintro J3 rfl
          unfold v_X5_readWord_5
          intro Z2 hZ2
          refine lpS (S := fun j => ∀ J3, FrC J J3 → J3 44 6 = (j : Int) → J3 44 8 = (w : Int) → J3 44 7 = 1 → Z2 J3) (P := leB B) (N := N) (Nat.le_of_lt cw) (fun j j1 j2 jb ih J3 fr3 e6 e8 e7 => hZ2 _ ?_) (fun J3 fr3 e6 e8 e7 => hZ2 _ ?_) _ (FrC_up fr2 (by omega)) (by rw [up2_off _ _ (Or.inr (by decide))]; exact e62) (by rw [up2_off _ _ (Or.inr (by decide))]; exact e8) (by rw [up2_at])
          · have hT3 := TpC_fr fr3 hT
            rw [hT3.2.2, e6, Int.toNat_natCast, (hT3.2.1 j (by omega)).2]
            refine ⟨fun c => by omega, fun _ => ⟨⟨by omega, by omega⟩, x_isLetter (hT3.2.1 j (by omega)).1 ?_⟩⟩
            unfold leB at jb
            rw [jb]
            refine ⟨fun c2 => Bool.noConfusion c2, fun _ => ⟨⟨by omega, by omega⟩, ?_⟩⟩
            rintro J4 rfl
            exact ih _ (FrC_up fr3 (by omega)) (by rw [up2_at]; rfl) (by rw [up2_off _ _ (Or.inr (by decide))]; exact e8) (by rw [up2_off _ _ (Or.inr (by decide))]; exact e7)
          · have hT3 := TpC_fr fr3 hT
            have hq := hq J3 ⟨e6, e7, e8, fun h => absurd h (by show ¬ (1 = 2); decide)⟩ fr3
            rw [hT3.2.2, e6]
            refine ⟨fun _ => hq, fun c5 => ⟨⟨by omega, by omega⟩, ?_⟩⟩
            rw [Int.toNat_natCast, (hT3.2.1 _ (by omega)).2]
            refine x_isLetter (hT3.2.1 _ (by omega)).1 ?_
            rw [show decide (97 ≤ B (spn (leB B) N w) ∧ B (spn (leB B) N w) ≤ 122) = false from b4 (by omega)]
            exact ⟨fun _ => hq, fun c2 => Bool.noConfusion c2⟩
      · rintro J3 rfl
        unfold tkW at hq
        rw [if_neg (by omega)] at hq
        refine hq _ ⟨?_, ?_, ?_, fun h => absurd h (by show ¬ (0 = 2); decide)⟩ (FrC_up fr2 (by omega))
        · rw [up2_off _ _ (Or.inr (by decide))]; exact e62
        · rw [up2_at]; rfl
        · rw [up2_off _ _ (Or.inr (by decide))]; exact e8
    rw [hT1.2.2, e6]
    refine ⟨fun _ => go, fun c => ⟨⟨by omega, by omega⟩, ?_⟩⟩
    rw [Int.toNat_natCast, (hT1.2.1 w (by omega)).2]
    refine x_isBlank (hT1.2.1 w (by omega)).1 ?_
    have := s4 (by omega)
    unfold blB at this
    rw [this]
    exact ⟨fun _ => go, fun c2 => Bool.noConfusion c2⟩
