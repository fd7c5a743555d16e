/-! the class's line at a token -/
def lnF (sort : Int) (c : Tk) : Nat := if kd c = 1 then (if sort = 0 then (if wd c < 7 then wd c else 8) else (if wd c = 7 then 7 else 8)) else 8
theorem lenI : ∀ o, o < 8 → (Int32.ofNat (tb_len.getD o 0)) >>> ((0 : Int32) &&& 31) = nI (lnW o) := by decide
theorem chI : ∀ o, o < 8 → ∀ i, i < 6 → i < lnW o → ((((tb_byt.getD o []).getD (nI i).toNatClampNeg 0) &&& 255).toUInt32 % 65536).toInt32 = nI (chW o i) := by decide
theorem chN : ∀ o, o < 8 → ∀ i, i < 6 → i < lnW o → (nI (chW o i)).toUInt32.toUInt16.toUInt32.toInt32 = nI (chW o i) := by decide
theorem nJ_lt {a b : Nat} (ha : a < 2 ^ 31) (hb : b < 2 ^ 31) : nI a < nI b ↔ a < b := by rw [Int32.lt_iff_toInt_lt, nI_toI ha, nI_toI hb]; omega
theorem nJ_le {a b : Nat} (ha : a < 2 ^ 31) (hb : b < 2 ^ 31) : nI a ≤ nI b ↔ a ≤ b := by rw [Int32.le_iff_toInt_le, nI_toI ha, nI_toI hb]; omega
theorem nJ_eq {a b : Nat} (ha : a < 2 ^ 31) (hb : b < 2 ^ 31) : nI a = nI b ↔ a = b := by
  constructor
  · intro h
    have := congrArg Int32.toInt h
    rw [nI_toI ha, nI_toI hb] at this; omega
  · intro h; rw [h]
theorem nJ_cl {a : Nat} (ha : a < 2 ^ 31) : (nI a).toNatClampNeg = a := by
  rw [← zi_nI, z_clamp ⟨by omega, by omega⟩ (by omega), Int.toNat_natCast]
theorem w_len {o : Nat} (ho : o < 8) {post : Int32 → Prop} (hq : post (nI (lnW o))) : w_J0_length_8abf5 o post := by
  show post ((Int32.ofNat (tb_len.getD o 0)) >>> ((0 : Int32) &&& 31))
  rw [lenI o ho]; exact hq
theorem w_charAt {o i : Nat} (ho : o < 8) (hi : i < lnW o) {post : Int32 → Prop} (hq : post (nI (chW o i))) : w_J0_charAt_5068e o (nI i) post := by
  have lr := lnW_rng o ho
  unfold w_J0_charAt_5068e w_J0_isLatin1_aae02 w_J1_charAt_3b067 w_J0_checkIndex_df160 w_J3_checkIndex_8e157
  rw [chI o ho i (by omega) hi]
  refine ⟨fun c => Bool.noConfusion c, fun _ => ⟨fun c => ?_, fun _ => ⟨fun _ => ⟨?_, ?_, hq⟩, fun c => ?_⟩⟩⟩
  · rw [show (0 : Int32) = nI 0 from rfl, nJ_lt (by omega) (by omega)] at c; omega
  · rw [vp_in_iff, nI_toI (by omega)]
    exact ⟨by omega, by show (i : Int) < ((lnW o : Nat) : Int); omega⟩
  · show Value.int _ = Value.int _
    rw [chN o ho i (by omega) hi]
  · exact c ((nJ_lt (by omega) (by show lnW o < 2 ^ 31; omega)).mpr hi)
theorem sb_ch {b ch : Nat} (hb : b ≤ 255) (hc : ch < 128) : zi (sb (b : Int)) = nI ch ↔ b = ch := by
  have hs : ir (sb (b : Int)) := by unfold sb; split <;> exact ⟨by omega, by omega⟩
  rw [zeq rfl (zi_nI ch).symm hs ⟨by omega, by omega⟩]
  unfold sb; split <;> omega
theorem w_tokenIs {J : mJ} {B : Nat → Nat} {N o : Nat} {c : Tk} (hT : TpC J B N) (hc : TkC J c) (hp : pl c ≤ en c) (he : en c ≤ N) (ho : o < 8) {post : Bool → Prop} (hq : post (mwB B (pl c) (en c - pl c) o)) : w_X5_tokenIs (zz J) 44 2 o post := by
  have n6 := hT.1
  have lr := lnW_rng o ho
  have e6 : zz J 44 6 = nI (en c) := by show zi (J 44 6) = _; rw [hc.1, zi_nI]
  have e8 : zz J 44 8 = nI (pl c) := by show zi (J 44 8) = _; rw [hc.2.2.1, zi_nI]
  unfold w_X5_tokenIs
  refine w_len ho ?_
  rw [e6, e8, pk_sub hp, nJ_eq (by omega) (by omega)]
  refine ⟨fun c1 => ?_, fun c1 => ?_⟩
  · unfold w_X5_tokenIs_20
    intro ZZ hZ
    refine lpN (S := fun i => (∀ j, j < i → B (pl c + j) = chW o j) → ZZ (nI i)) (N := lnW o) (fun i hi ih hn => hZ _ (w_len ho ?_)) (fun hn => hZ _ (w_len ho ?_)) (fun j hj => absurd hj (Nat.not_lt_zero _))
    · rw [e8, nI_plus, nJ_cl (by omega), nJ_le (by omega) (by omega)]
      have cr := chW_rng o ho i (by omega) hi
      refine ⟨fun c2 => by omega, fun _ => ⟨?_, w_charAt ho hi ?_⟩⟩
      · rw [vp_in_iff, nI_toI (by omega)]; omega
      · rw [show zz J 2 (pl c + i) = zi (sb (B (pl c + i) : Int)) by show zi (J 2 (pl c + i)) = _; rw [(hT.2.1 (pl c + i) (by omega)).2], sb_ch (hT.2.1 _ (by omega)).1 (by omega)]
        refine ⟨fun c3 => ?_, fun c3 => ?_⟩
        · rintro _ rfl
          rw [show (1 : Int32) = nI 1 from rfl, nI_plus]
          refine ih (fun j hj => ?_)
          by_cases ee : j = i
          · subst ee; exact c3
          · exact hn j (by omega)
        · rw [show mwB B (pl c) (en c - pl c) o = false from Bool.eq_false_iff.mpr (fun h => c3 ((mw_iff.mp h).2 i hi))] at hq; exact hq
    · rw [nJ_le (by omega) (by omega)]
      refine ⟨fun _ => ?_, fun c2 => absurd (Nat.le_refl _) c2⟩
      rw [mw_iff.mpr ⟨c1, hn⟩] at hq; exact hq
  · rw [show mwB B (pl c) (en c - pl c) o = false from Bool.eq_false_iff.mpr (fun h => c1 (mw_iff.mp h).1)] at hq; exact hq
theorem w_wordOf {o : Nat} (ho : o < 8) {post : Nat → Prop} (hq : post o) : w_X5_wordOf (nI o) post := by
  have k : ∀ m : Nat, m < 8 → nI o = nI m → post m := fun m hm e => by
    have : o = m := (nJ_eq (by omega) (by omega)).mp e
    rw [← this]; exact hq
  unfold w_X5_wordOf
  refine ⟨k 0 (by decide), k 1 (by decide), k 2 (by decide), k 3 (by decide), k 4 (by decide), k 5 (by decide), k 6 (by decide), fun c0 c1 c2 c3 c4 c5 c6 => ?_⟩
  have : o = 7 := by
    have d : ∀ m : Nat, m < 8 → ¬ nI o = nI m → o ≠ m := fun m hm h e => h (by rw [e])
    have := d 0 (by decide) c0
    have := d 1 (by decide) c1
    have := d 2 (by decide) c2
    have := d 3 (by decide) c3
    have := d 4 (by decide) c4
    have := d 5 (by decide) c5
    have := d 6 (by decide) c6
    omega
  rw [← this]; exact hq
theorem x_lineAtToken {J : mJ} {a1 : Int} {B : Nat → Nat} {N : Nat} {c : Tk} (hT : TpC J B N) (hc : TkC J c) (hp : pl c ≤ en c) (he : en c ≤ N) (hk : kd c ≤ 5) (hw : kd c = 1 → wd c = wdF B (pl c) (en c - pl c)) (ha : ir a1) {post' : Int → Prop} (hq : post' (if lnF a1 c = 8 then -1 else (lnF a1 c : Int))) : v_X5_lineAtToken J 44 2 a1 post' := by
  intro _ post hp'
  have e7 : zz J 44 7 = nI (kd c) := by show zi (J 44 7) = _; rw [hc.2.1, zi_nI]
  obtain ⟨w1, w2, w3⟩ := wdF_fs (B := B) (w := pl c) (n := en c - pl c)
  have fin : ∀ r : Int, r = (if lnF a1 c = 8 then -1 else (lnF a1 c : Int)) → -1 ≤ r → r ≤ 8 → post (zi r) := by
    intro r hr h1 h2
    rw [← hr] at hq
    exact hp' _ r rfl ⟨by omega, by omega⟩ hq
  have P8 : ∀ o, (decide (kd c = 1) && mwB B (pl c) (en c - pl c) o) = true ↔ kd c = 1 ∧ mwB B (pl c) (en c - pl c) o = true := fun o => by rw [Bool.and_eq_true, decide_eq_true_eq]
  have loop : ∀ f l : Nat, f ≤ l → l < 8 → (∀ r, r = fstF (fun o => decide (kd c = 1) && mwB B (pl c) (en c - pl c) o) f (l + 1 - f) → post (zi r)) → w_X5_lineAtToken_26 (zz J) 44 2 (zi a1) post (nI l) (nI f) := by
    intro f l hf hl hr
    unfold w_X5_lineAtToken_26
    intro ZZ hZ
    refine lpN (S := fun d => fstF (fun o => decide (kd c = 1) && mwB B (pl c) (en c - pl c) o) f (l + 1 - f) = fstF (fun o => decide (kd c = 1) && mwB B (pl c) (en c - pl c) o) (f + d) (l + 1 - f - d) → ZZ (nI l) (nI (f + d))) (N := l + 1 - f) (fun d hd ih hn => hZ _ _ ?_) (fun hn => hZ _ _ ?_) rfl
    · rw [show l + 1 - f - d = (l + 1 - f - (d + 1)) + 1 by omega, fstF] at hn
      rw [e7, nJ_lt (by omega) (by omega), show (1 : Int32) = nI 1 from rfl, nJ_eq (by omega) (by omega), nI_plus]
      have nx : ¬ (decide (kd c = 1) && mwB B (pl c) (en c - pl c) (f + d)) = true → ∀ x, x = nI (f + d + 1) → ZZ (nI l) x := by
        intro hb
        rintro _ rfl
        rw [if_neg hb] at hn
        exact ih hn
      refine ⟨fun c1 => by omega, fun _ => ⟨fun c2 => nx (by rw [P8]; exact fun h => c2 h.1), fun c2 => w_wordOf (by omega) (w_tokenIs hT hc hp he (by omega) ⟨fun c3 => nx (by rw [P8, c3]; exact fun h => Bool.noConfusion h.2), fun c3 => ?_⟩)⟩⟩
      rw [if_pos ((P8 _).mpr ⟨c2, c3⟩)] at hn
      have := hr _ hn.symm
      rw [zi_nI] at this; exact this
    · rw [nJ_lt (by omega) (by omega)]
      refine ⟨fun _ => ?_, fun c1 => by omega⟩
      rw [Nat.sub_self] at hn
      exact hr (-1) hn.symm
  have z0 : zi a1 = 0 ↔ a1 = 0 := zeq rfl (rfl : (0 : Int32) = zi 0) ha (by decide)
  unfold w_X5_lineAtToken w_X5_lineAtToken_10
  rw [z0]
  unfold lnF at fin
  refine ⟨fun c1 => ⟨fun _ => loop 7 7 (by decide) (by decide) ?_, fun c2 => absurd c2 c1⟩, fun c1 => ⟨fun c2 => absurd c1 c2, fun _ => loop 0 6 (by decide) (by decide) ?_⟩⟩
  · rw [if_neg c1] at fin
    rintro r rfl
    show post (zi (if (decide (kd c = 1) && mwB B (pl c) (en c - pl c) 7) = true then ((7 : Nat) : Int) else -1))
    by_cases c2 : kd c = 1
    · rw [if_pos c2, hw c2] at fin
      by_cases c3 : mwB B (pl c) (en c - pl c) 7 = true
      · rw [if_pos ((P8 7).mpr ⟨c2, c3⟩)]
        rw [if_pos (w2 7 (by decide) c3), if_neg (by decide)] at fin
        exact fin 7 rfl (by decide) (by decide)
      · rw [if_neg (fun h => c3 ((P8 7).mp h).2)]
        have h7 : ¬ wdF B (pl c) (en c - pl c) = 7 := fun h => c3 (by have := w1 (by omega); rw [h] at this; exact this)
        rw [if_neg h7, if_pos rfl] at fin
        exact fin (-1) rfl (by decide) (by decide)
    · rw [if_neg (fun h => c2 ((P8 7).mp h).1)]
      rw [if_neg c2, if_pos rfl] at fin
      exact fin (-1) rfl (by decide) (by decide)
  · rw [if_pos c1] at fin
    rintro r rfl
    by_cases c2 : kd c = 1
    · rw [if_pos c2, hw c2] at fin
      by_cases c3 : wdF B (pl c) (en c - pl c) < 7
      · rw [if_pos c3, if_neg (by omega)] at fin
        rw [fst_isFs (c := wdF B (pl c) (en c - pl c)) (6 + 1 - 0) ⟨Nat.zero_le _, by omega, (P8 _).mpr ⟨c2, w1 (by omega)⟩, fun i _ hi => Bool.eq_false_iff.mpr (fun h => by have := w2 i (by omega) ((P8 i).mp h).2; omega)⟩]
        exact fin _ rfl (by omega) (by omega)
      · rw [if_neg c3, if_pos rfl] at fin
        rw [show fstF (fun o => decide (kd c = 1) && mwB B (pl c) (en c - pl c) o) 0 (6 + 1 - 0) = -1 from fst_none.mpr (fun i hi => Bool.eq_false_iff.mpr (fun h => by have := w2 i (by omega) ((P8 i).mp h).2; omega))]
        exact fin (-1) rfl (by decide) (by decide)
    · rw [if_neg c2, if_pos rfl] at fin
      rw [show fstF (fun o => decide (kd c = 1) && mwB B (pl c) (en c - pl c) o) 0 (6 + 1 - 0) = -1 from fst_none.mpr (fun i hi => Bool.eq_false_iff.mpr (fun h => c2 ((P8 i).mp h).1))]
      exact fin (-1) rfl (by decide) (by decide)
