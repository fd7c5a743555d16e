def v_J6_bitCount_0f7a4 (a1 : Int) (post' : Int → Prop) : Prop := ∀ post : (Int32 → Prop), (∀ (x : Int32) (r : Int), x = zi r → ir r → post' r → post x) → w_J6_bitCount_0f7a4 (zi a1) post
theorem vw_J6_bitCount_0f7a4 {xa1 : Int32} {a1 : Int}  (ea1 : xa1 = zi a1) (_ : ir a1) {post : Int32 → Prop} {post' : Int → Prop} (hp : ∀ (x : Int32) (r : Int), x = zi r → ir r → post' r → post x) (hv : v_J6_bitCount_0f7a4 a1 post') : w_J6_bitCount_0f7a4 xa1 post := by
  subst ea1
  exact hv post hp
def v_J6_signum_0f7a4 (a1 : Int) (post' : Int → Prop) : Prop := ∀ post : (Int32 → Prop), (∀ (x : Int32) (r : Int), x = zi r → ir r → post' r → post x) → w_J6_signum_0f7a4 (zi a1) post
theorem vw_J6_signum_0f7a4 {xa1 : Int32} {a1 : Int}  (ea1 : xa1 = zi a1) (_ : ir a1) {post : Int32 → Prop} {post' : Int → Prop} (hp : ∀ (x : Int32) (r : Int), x = zi r → ir r → post' r → post x) (hv : v_J6_signum_0f7a4 a1 post') : w_J6_signum_0f7a4 xa1 post := by
  subst ea1
  exact hv post hp
def v_X5_lineAtToken (J : mJ) (o : Nat) (otp : Nat) (a1 : Int) (post' : Int → Prop) : Prop := irm J → ∀ post : (Int32 → Prop), (∀ (x : Int32) (r : Int), x = zi r → ir r → post' r → post x) → w_X5_lineAtToken (zz J) o otp (zi a1) post
theorem vw_X5_lineAtToken {J : mJ} {o : Nat} {otp : Nat} {xa1 : Int32} {a1 : Int} (hJ : irm J) (ea1 : xa1 = zi a1) (_ : ir a1) {post : Int32 → Prop} {post' : Int → Prop} (hp : ∀ (x : Int32) (r : Int), x = zi r → ir r → post' r → post x) (hv : v_X5_lineAtToken J o otp a1 post') : w_X5_lineAtToken (zz J) o otp xa1 post := by
  subst ea1
  exact hv hJ post hp
def v_X9_giveOut (d : Nat) (J : mJ) (a1 : Nat) (a1n : Nat) (a2 : Nat) (a2n : Nat) (a3 : Int) (a4 : Int) (a5 : Int) (post' : Bool → mJ → Prop) : Prop := irm J → ∀ post : (Bool → mI → Prop), (∀ (r : Bool) (J1 : mJ), irm J1 → post' r J1 → post r (zz J1)) → w_X9_giveOut d (zz J) a1 a1n a2 a2n (zi a3) (zi a4) (zi a5) post
theorem vw_X9_giveOut (d : Nat) {J : mJ} {a1 : Nat} {a1n : Nat} {a2 : Nat} {a2n : Nat} {xa3 : Int32} {a3 : Int} {xa4 : Int32} {a4 : Int} {xa5 : Int32} {a5 : Int} (hJ : irm J) (ea3 : xa3 = zi a3) (_ : ir a3) (ea4 : xa4 = zi a4) (_ : ir a4) (ea5 : xa5 = zi a5) (_ : ir a5) {post : Bool → mI → Prop} {post' : Bool → mJ → Prop} (hp : ∀ (r : Bool) (J1 : mJ), irm J1 → post' r J1 → post r (zz J1)) (hv : v_X9_giveOut d J a1 a1n a2 a2n a3 a4 a5 post') : w_X9_giveOut d (zz J) a1 a1n a2 a2n xa3 xa4 xa5 post := by
  subst ea3
  subst ea4
  subst ea5
  exact hv hJ post hp
