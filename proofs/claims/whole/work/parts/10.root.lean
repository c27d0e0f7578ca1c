/-! compare, whole, root, the table of sizes -/
theorem tx_place {post : Int32 → Prop} {a : Nat} (ha : a < 256) : wpX_place post (nI a) = post (cond (tf_ng a) (-nI (a % 128)) (nI (a % 128))) := by
  unfold wpX_place
  rw [tf_r128 a ha, tf_nd (by decide), forall_eq, tx_isNegative ha, tf_br]
  cases tf_ng a <;> rfl
theorem tf_ct {w : Nat} (t : Bool) (h : w < 2 ^ 31) : (cond t (-nI w) (nI w)).toInt = cond t (-(w : Int)) (w : Int) := by
  cases t
  · exact nI_toInt h
  · exact tf_nT h
def tf_sz3 (z : Int) : Int32 := if 0 < z then 1 else if z = 0 then 0 else -1
theorem ty_sgn {post : Int32 → Prop} {M N H : Int32} {A : Nat → Int32} {x : Int64} {z : Int} (hx : x.toInt = z) : wpY_sign post (M, N, H, A) x = post (tf_sz3 z) := by
  unfold wpY_sign tf_sz3
  dsimp only
  rw [Int64.le_iff_toInt_le, Int64.le_iff_toInt_le, hx, tf_z64]
  by_cases h1 : 0 < z
  · rw [if_pos h1, tf_ift (by omega), tf_iff (by omega)]
  · rw [if_neg h1]
    by_cases h2 : z = 0
    · rw [if_pos h2, tf_ift (by omega), tf_ift (by omega)]
    · rw [if_neg h2, tf_iff (by omega)]
theorem tf_ord (x y : Nat) : (x < y ∧ tf_sz x < tf_sz y) ∨ (x = y ∧ tf_sz x = tf_sz y) ∨ (y < x ∧ tf_sz y < tf_sz x) := by
  rcases Nat.lt_trichotomy x y with h | h | h
  · have h1 := tf_szs x
    have h2 := tf_szm (show x + 1 ≤ y from h)
    exact Or.inl ⟨h, by omega⟩
  · exact Or.inr (Or.inl ⟨h, by rw [h]⟩)
  · have h1 := tf_szs y
    have h2 := tf_szm (show y + 1 ≤ x from h)
    exact Or.inr (Or.inr ⟨h, by omega⟩)
theorem tg_cmp {m a b : Nat} {N HX HY : Int32} {A : Nat → Int32} (hA : tf_TB A) (ha : a < 256) (hb : b < 256) : ∃ r : Int32, (∀ post, post r → wpX_compare post (nI m, N, HX) (nI a) (nI b)) ∧ (∀ post, post r → wpY_compare post (nI m, N, HY, A) (nI a) (nI b)) := by
  simp only [wpX_compare, wpY_compare, tx_code ha, tx_code hb, ty_code ha, ty_code hb, tf_br, tx_isNone ha, tx_isNone hb, ty_isNone ha, ty_isNone hb, tx_place ha, tx_place hb, cond_true]
  cases hna : tf_nn a
  · cases hnb : tf_nn b
    · have h1 := tf_fle hna
      have h2 := tf_fle hnb
      have s1 := tf_szb (show a % 128 ≤ 120 by omega)
      have s2 := tf_szb (show b % 128 ≤ 120 by omega)
      simp only [cond_false, ty_val hA ha h1, ty_val hA hb h2]
      obtain ⟨z, hz⟩ : ∃ z : Int, z = cond (tf_ng a) (-(tf_sz (a % 128) : Int)) (tf_sz (a % 128) : Int) - cond (tf_ng b) (-(tf_sz (b % 128) : Int)) (tf_sz (b % 128) : Int) := ⟨_, rfl⟩
      have hx : (cond (tf_ng a) (-nI (tf_sz (a % 128))) (nI (tf_sz (a % 128))) - cond (tf_ng b) (-nI (tf_sz (b % 128))) (nI (tf_sz (b % 128)))).toInt64.toInt = z := by
        rw [Int32.toInt_toInt64, Int32.toInt_sub, tf_ct _ (by omega), tf_ct _ (by omega), ← hz]
        apply Int.bmod_eq_of_le
        · rw [hz]
          cases tf_ng a <;> cases tf_ng b <;> simp only [cond_true, cond_false] <;> omega
        · rw [hz]
          cases tf_ng a <;> cases tf_ng b <;> simp only [cond_true, cond_false] <;> omega
      have o := tf_ord (a % 128) (b % 128)
      have oa := tf_ord 0 (a % 128)
      have ob := tf_ord 0 (b % 128)
      rw [tf_sz0] at oa ob
      have q1 := tf_ct (w := a % 128) (tf_ng a) (by omega)
      have q2 := tf_ct (w := b % 128) (tf_ng b) (by omega)
      refine ⟨tf_sz3 z, fun post hp => ?_, fun post hp => by rw [ty_sgn hx]; exact hp⟩
      rw [← Int32.toInt_inj, Int32.le_iff_toInt_le, q1, q2]
      unfold tf_sz3 at hp
      refine br_c (fun he => ?_) (fun hn => br_c (fun hl => ?_) (fun hg => ?_))
      · have : z = 0 := by
          revert hz he
          cases tf_ng a <;> cases tf_ng b <;> simp only [cond_true, cond_false] <;> omega
        rw [if_neg (by omega), if_pos this] at hp
        exact hp
      · have : 0 < z := by
          revert hz hn hl
          cases tf_ng a <;> cases tf_ng b <;> simp only [cond_true, cond_false] <;> omega
        rw [if_pos this] at hp
        exact hp
      · have : z < 0 := by
          revert hz hn hg
          cases tf_ng a <;> cases tf_ng b <;> simp only [cond_true, cond_false] <;> omega
        rw [if_neg (by omega), if_neg (by omega)] at hp
        exact hp
    · exact ⟨2, fun post hp => hp, fun post hp => hp⟩
  · exact ⟨2, fun post hp => hp, fun post hp => hp⟩
theorem tf_sr9 {n : Nat} (h : n < 2 ^ 62) : lN n >>> ((9 : Int32).toInt64 &&& 63) = lN (n / 512) := tf_shr (k := 9) h (by decide)
theorem tf_nI64 (n : Nat) : (-lN n).toInt32 = -nI n := by
  rw [Int64.toInt32_neg, lN_i]
theorem tg_whole {m a : Nat} {N HX HY : Int32} {A : Nat → Int32} (hm : m < 4) (hA : tf_TB A) (ha : a < 256) : ∃ r : Int32, (∀ post, post r → wpX_whole post (nI m, N, HX) (nI a)) ∧ (∀ post, post r → wpY_whole post (nI m, N, HY, A) (nI a)) := by
  simp only [wpX_whole, wpY_whole, wY_whole_100, wY_whole_104, wY_whole_129, wY_whole_130, wY_whole_144, tx_code ha, ty_code ha, tf_br, tx_isNone ha, ty_isNone ha, tx_isInfinite ha, ty_isInfinite ha, tx_isNegative ha, ty_isNegative ha, tx_aw hm, ty_goesUp hm, tx_size ha, tf_r128 a ha, cond_true, tf_10, true_implies, false_implies, not_true_eq_false, not_false_eq_true, and_true, true_and]
  cases hna : tf_nn a
  · cases hfa : tf_nf a
    · have h1 := tf_fin hna hfa
      have s1 := tf_szb (show a % 128 ≤ 120 by omega)
      simp only [cond_false, tf_vin (show a % 128 < 121 by omega), tf_look hA (show a % 128 < 121 by omega), forall_eq]
      generalize tf_sz (a % 128) = S at s1
      simp only [show nI S / 512 = nI (S / 512) from pk_div (d := 512) (by omega) (by decide) (by decide), show nI S - nI (S / 512) * 512 = nI (S % 512) from (by rw [← pk_rem (a := S) (d := 512) (by omega) (by decide) (by decide), pk_div (by omega) (by decide) (by decide)]; rfl), show nI (S / 512) - nI (S / 512) / 2 * 2 = nI (S / 512 % 2) from pk_rem (d := 2) (by omega) (by decide) (by decide), tf_nd (show ¬ (128 : Int32) = 0 by decide), tf_nd (show ¬ (512 : Int32) = 0 by decide), tf_nd (show ¬ (2 : Int32) = 0 by decide), nI_1]
      refine ⟨cond (tf_ng a) (-nI (S / 512 + cond (tf_su m (tf_aw m (tf_ng a)) (S / 512) (S % 512) 256 false) 1 0)) (nI (S / 512 + cond (tf_su m (tf_aw m (tf_ng a)) (S / 512) (S % 512) 256 false) 1 0)), fun post hp => ?_, fun post hp => ?_⟩
      · refine tx_step (cut := 9) (mo := false) hm (by omega) (by decide) (by decide) ?_
        rw [tf_sr9 (by omega), tf_b64, lN_add, lN_i, tf_nI64]
        revert hp
        cases tf_ng a <;> exact fun hp => hp
      · unfold tf_su at hp
        have hU : ∀ d : Nat, post (cond (tf_ng a) (-nI d) (nI d)) = cond (tf_ng a) (post (-nI d)) (post (nI d)) := by
          intro d
          cases tf_ng a <;> rfl
        rw [hU] at hp
        by_cases h0 : m = 0
        · subst h0
          rw [if_pos rfl] at hp
          refine br_t rfl ?_
          refine br_c (fun hg => ?_) (fun hn => br_c (fun he => ?_) (fun hl => ?_))
          · have h5 := (nI_ltI (a := 256) (by decide) (by omega)).mp hg
            rw [decide_eq_false (show ¬ S % 512 = 0 by omega), decide_eq_true h5] at hp
            exact hp
          · have h5 := (nI_eq (b := 256) (by omega) (by decide)).mp he
            rw [decide_eq_false (show ¬ S % 512 = 0 by omega), decide_eq_false (show ¬ 256 < S % 512 by omega), decide_eq_true h5] at hp
            refine br_c (fun ho => ?_) (fun ho => ?_)
            · rw [decide_eq_true ((nI_eq (b := 1) (by omega) (by decide)).mp ho)] at hp
              exact hp
            · rw [decide_eq_false (fun z => ho (by rw [z]; rfl))] at hp
              exact hp
          · have h5 : ¬ S % 512 = 256 := fun z => hl (by rw [z]; rfl)
            have h6 : ¬ 256 < S % 512 := fun z => hn ((nI_ltI (a := 256) (by decide) (by omega)).mpr z)
            rw [decide_eq_false h5, decide_eq_false h6, Bool.false_and, Bool.or_false, Bool.or_false, Bool.and_false] at hp
            exact hp
        · rw [if_neg h0] at hp
          refine br_f (fun z => h0 ((tf_mE hm (by decide)).mp z)) ?_
          refine br_c (fun hz => ?_) (fun hz => ?_)
          · have h5 := (nI_leI (b := 0) (by omega) (by decide)).mp hz
            rw [decide_eq_true (show S % 512 = 0 by omega)] at hp
            exact hp
          · have h5 : ¬ S % 512 = 0 := fun z => hz (by rw [z]; decide)
            rw [decide_eq_false h5] at hp
            revert hp
            cases tf_aw m (tf_ng a) <;> exact fun hp => hp
    · refine ⟨cond (tf_ng a) (-1000) 1000, fun post hp => ?_, fun post hp => ?_⟩
      · simp only [cond_true]
        revert hp
        cases tf_ng a <;> exact fun hp => hp
      · simp only [cond_true]
        revert hp
        cases tf_ng a <;> exact fun hp => hp
  · exact ⟨9999, fun post hp => hp, fun post hp => hp⟩
theorem tf_sq {t f q : Nat} (h1 : f * f ≤ q) (h2 : q < (f + 1) * (f + 1)) : t * t ≤ q ↔ t ≤ f := by
  constructor
  · intro h
    apply Classical.byContradiction
    intro hn
    have := Nat.mul_self_le_mul_self (show f + 1 ≤ t by omega)
    omega
  · intro h
    have := Nat.mul_self_le_mul_self h
    omega
theorem tf_sq2 {t f q : Nat} (h1 : f * f ≤ q) (h2 : q < (f + 1) * (f + 1)) : t * t = q ↔ t = f ∧ f * f = q := by
  constructor
  · intro h
    have h3 := (tf_sq (t := t) h1 h2).mp (by omega)
    have h4 : f ≤ t := Nat.mul_self_le_mul_self_iff.mp (by omega)
    have h5 : t = f := by omega
    subst h5
    exact ⟨rfl, h⟩
  · rintro ⟨rfl, h⟩
    exact h
theorem tf_sq3 {t f q : Nat} (h1 : f * f ≤ q) (h2 : q < (f + 1) * (f + 1)) : t * t < q ↔ t < f ∨ (t = f ∧ f * f ≠ q) := by
  have a1 := tf_sq (t := t) h1 h2
  have a2 := tf_sq2 (t := t) h1 h2
  omega
/-- f is the root's floor in 512th parts, q = 2 ^ 18 * Q -/
def tf_R (Q f : Nat) : Prop := f * f ≤ 262144 * Q ∧ 262144 * Q < (f + 1) * (f + 1) ∧ Q < 2 ^ 30 ∧ f < 2 ^ 22
theorem tf_m512 (s : Nat) : 512 * s * (512 * s) = 262144 * (s * s) := by
  rw [Nat.mul_mul_mul_comm]
theorem tf_m256 (s : Nat) : 256 * s * (256 * s) = 65536 * (s * s) := by
  rw [Nat.mul_mul_mul_comm]
theorem tf_v1 {Q f s : Nat} (h : tf_R Q f) : s * s ≤ Q ↔ 512 * s ≤ f := by
  rw [← tf_sq h.1 h.2.1, tf_m512]
  omega
theorem tf_v2 {Q f s : Nat} (h : tf_R Q f) : s * s = Q ↔ 512 * s = f ∧ f * f = 262144 * Q := by
  rw [← tf_sq2 h.1 h.2.1, tf_m512]
  omega
theorem tf_v3 {Q f s : Nat} (h : tf_R Q f) : s * s < 4 * Q ↔ 256 * s < f ∨ (256 * s = f ∧ f * f ≠ 262144 * Q) := by
  rw [← tf_sq3 h.1 h.2.1, tf_m256]
  omega
theorem tf_v4 {Q f s : Nat} (h : tf_R Q f) : s * s = 4 * Q ↔ 256 * s = f ∧ f * f = 262144 * Q := by
  rw [← tf_sq2 h.1 h.2.1, tf_m256]
  omega
theorem tf_bq {s : Nat} (hs : s ≤ 262144) : s * s < 2 ^ 40 := by
  have := Nat.mul_le_mul hs hs
  omega
theorem ty_r168 {post : Int32 → SY → Prop} {N H : Int32} {A : Nat → Int32} {m c : Nat} (g e ex : Bool) (hm : m < 4) (hc : c ≤ 119) (hp : post (nI (tf_sg false (tf_cc (tf_up m g e c false) ex c))) (nI m, tf_cn N ex false (tf_cc (tf_up m g e c false) ex c), H, A)) : wY_root_168 post (nI c) (tf_sn g e) (tf_b ex) (nI m) N H A := by
  unfold wY_root_168
  exact ty_choose g e ex false false hm hc hp
theorem ty_r104 {post : Int32 → SY → Prop} {N H : Int32} {A : Nat → Int32} {m c Q f : Nat} (hA : tf_TB A) (hR : tf_R Q f) (hm : m < 4) (hRS : tf_RS c f) (hp : post (nI (tf_ra m c f (decide (f * f ≠ 262144 * Q)) false)) (nI m, tf_rn N m c f (decide (f * f ≠ 262144 * Q)) false, H, A)) : wY_root_104 post (lN Q) (nI c) (nI m) N H A := by
  have hc := hRS.1
  have s1 := tf_szb (show c ≤ 120 by omega)
  have s2 := tf_szb (show c + 1 ≤ 120 by omega)
  have b1 := tf_bq (s := tf_sz c + tf_sz (c + 1)) (by omega)
  have b2 := tf_bq (s := tf_sz c) (by omega)
  have hQ := hR.2.2.1
  have hgr : tf_gr f = false := by
    unfold tf_gr
    rw [tf_sz120]
    have := hR.2.2.2
    exact decide_eq_false (by omega)
  unfold wY_root_104
  refine ⟨vp_in_nI (by omega) (by omega), ?_, ?_⟩
  · rw [nI_1]
    exact vp_in_nI (by omega) (by omega)
  · rw [nI_1, nI_clamp (by omega), nI_clamp (by omega), hA c (by omega), hA (c + 1) (by omega), nI_add, nI_l (by omega), nI_l (by omega), forall_eq, lN_mul, lN_mul, show (4 : Int64) * lN Q = lN (4 * Q) from lN_mul 4 Q, ty_sign (by omega) (by omega)]
    refine ⟨vp_in_nI (by omega) (by omega), vp_in_nI (by omega) (by omega), ?_⟩
    have g1 : decide ((tf_sz c + tf_sz (c + 1)) * (tf_sz c + tf_sz (c + 1)) < 4 * Q) = tf_g c f (decide (f * f ≠ 262144 * Q)) := by
      unfold tf_g
      rw [← Bool.decide_and, ← Bool.decide_or]
      refine decide_eq_decide.mpr ((tf_v3 hR).trans ?_)
      rw [eq_comm (a := f)]
    have g2 : decide (4 * Q = (tf_sz c + tf_sz (c + 1)) * (tf_sz c + tf_sz (c + 1))) = tf_e c f (decide (f * f ≠ 262144 * Q)) := by
      unfold tf_e
      rw [← decide_not, ← Bool.decide_and]
      refine decide_eq_decide.mpr (eq_comm.trans ((tf_v4 hR).trans ?_))
      rw [eq_comm (a := f)]
      omega
    rw [g1, g2, pk_lEQ (by omega) (by omega)]
    have hu := tf_v2 (s := tf_sz c) hR
    by_cases hx : tf_sz c * tf_sz c = Q
    · have e1 : tf_ex c f (decide (f * f ≠ 262144 * Q)) = true := by
        unfold tf_ex
        rw [← decide_not, ← Bool.decide_and]
        exact decide_eq_true (by omega)
      refine br_t hx (ty_r168 _ _ true hm hc ?_)
      unfold tf_ra tf_rn tf_rc at hp
      rw [e1, hgr] at hp
      exact hp
    · have e1 : tf_ex c f (decide (f * f ≠ 262144 * Q)) = false := by
        unfold tf_ex
        rw [← decide_not, ← Bool.decide_and]
        exact decide_eq_false (by omega)
      refine br_f hx (ty_r168 _ _ false hm hc ?_)
      unfold tf_ra tf_rn tf_rc at hp
      rw [e1, hgr] at hp
      exact hp
theorem ty_r65 {post : Int32 → SY → Prop} {N H : Int32} {A : Nat → Int32} {m c Q f : Nat} (hA : tf_TB A) (hR : tf_R Q f) (hm : m < 4) (hRS : tf_RS c f) (hp : post (nI (tf_ra m c f (decide (f * f ≠ 262144 * Q)) false)) (nI m, tf_rn N m c f (decide (f * f ≠ 262144 * Q)) false, H, A)) : ∀ n d : Nat, d + n = 120 → d ≤ 119 → 512 * tf_sz d ≤ f → wY_root_65 post (lN Q) (nI m) N H A n (nI d) := by
  intro n
  induction n with
  | zero =>
    intro d hd h9 _
    omega
  | succ n ih =>
    intro d hd h9 h
    by_cases h119 : d = 119
    · subst h119
      have e : c = 119 := tf_RSu hRS ⟨by omega, h, fun z => absurd z (by omega)⟩
      subst e
      exact br_t (by decide) (ty_r104 hA hR hm hRS hp)
    · have s2 := tf_szb (show d + 1 ≤ 120 by omega)
      have b2 := tf_bq (s := tf_sz (d + 1)) (by omega)
      have hQ := hR.2.2.1
      have hu := tf_v1 (s := tf_sz (d + 1)) hR
      have hi : vp_in (nI d + 1) 121 := by
        rw [nI_1]
        exact vp_in_nI (by omega) (by omega)
      refine br_f (nI_ge (b := 119) (by omega) (by decide)) ⟨hi, hi, ?_⟩
      rw [nI_1, nI_clamp (by omega), hA (d + 1) (by omega), nI_l (by omega), lN_mul, pk_lLT (by omega) (by omega)]
      by_cases hx : Q < tf_sz (d + 1) * tf_sz (d + 1)
      · have e : c = d := tf_RSu hRS ⟨by omega, h, fun _ => by omega⟩
        subst e
        exact br_t hx (ty_r104 hA hR hm hRS hp)
      · refine br_f hx (nm_e ?_)
        exact ih (d + 1) (by omega) (by omega) (by omega)
theorem tx_rb {post : Int64 → Prop} {q : Nat} (hq : q < 2 ^ 62) (hp : ∀ r : Nat, r * r ≤ q → q < (r + 1) * (r + 1) → r < 2 ^ 22 → post (lN r)) : ∀ j d : Nat, d * d ≤ q → q < (d + 2 ^ j) * (d + 2 ^ j) → d + 2 ^ j ≤ 2 ^ 22 → wX_rootBelow_6 post (lN q) (j + 1) (lN d) (nI j + (-1)) := by
  intro j
  induction j with
  | zero =>
    intro d h1 h2 h3
    exact br_t (by decide) (hp d h1 h2 (by omega))
  | succ j ih =>
    intro d h1 h2 h3
    have hpow : 2 ^ (j + 1) = 2 ^ j + 2 ^ j := by rw [Nat.pow_succ]; omega
    have hpos := Nat.two_pow_pos j
    have hj : j < 22 := by
      apply Classical.byContradiction
      intro hn
      have := Nat.pow_le_pow_right (show 0 < 2 by omega) (show 23 ≤ j + 1 by omega)
      omega
    have ht : (d + 2 ^ j) * (d + 2 ^ j) ≤ 2 ^ 22 * 2 ^ 22 := Nat.mul_le_mul (by omega) (by omega)
    rw [pk_m1]
    refine br_f (nI_pos (by omega)) (nm_r (e' := lN (d + 2 ^ j)) ?_ ?_)
    · have := wb_shl 1 (k := j) (by omega)
      rw [Nat.one_mul] at this
      rw [show (1 : Int64) = lN 1 from rfl, this, lN_add]
    · rw [lN_mul, pk_lLT (by omega) (by omega)]
      by_cases hx : q < (d + 2 ^ j) * (d + 2 ^ j)
      · refine br_t hx (nm_e ?_)
        exact ih d h1 hx (by omega)
      · refine br_f hx (nm_e ?_)
        refine ih (d + 2 ^ j) (by omega) ?_ (by omega)
        rw [Nat.add_assoc, ← hpow]
        exact h2
