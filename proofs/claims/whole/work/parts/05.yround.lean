/-! the reference's rounding -/
def tf_TB (A : Nat → Int32) : Prop := ∀ c, c < 121 → A c = nI (tf_sz c)
theorem ty_c99 {post : Int32 → SY → Prop} {M N H : Int32} {A : Nat → Int32} {d : Nat} {ng : Bool} (hp : post (nI (tf_sg ng d)) (M, N, H, A)) : wY_choose_99 post (tf_b ng) (nI d) M N H A := by
  unfold wY_choose_99
  rw [ty_signed]
  exact hp
theorem tf_120 {d : Nat} (hd : d ≤ 120) : nI d = 120 ↔ d = 120 := nI_eq (b := 120) (by omega) (by decide)
theorem ty_c77 {post : Int32 → SY → Prop} {M N H : Int32} {A : Nat → Int32} {d : Nat} {ng gr : Bool} (hd : d ≤ 120) (hp : post (nI (tf_sg ng d)) (M, if (decide (d = 120) || gr) = true then N ||| 2 else N, H, A)) : wY_choose_77 post (tf_b gr) (tf_b ng) (nI d) M N H A := by
  unfold wY_choose_77 wY_choose_89
  by_cases h : d = 120
  · refine br_t ((tf_120 hd).mpr h) (nm_e (ty_c99 ?_))
    rw [decide_eq_true h] at hp
    exact hp
  · refine br_f (fun z => h ((tf_120 hd).mp z)) ?_
    rw [decide_eq_false h] at hp
    rw [tf_br]
    cases gr
    · exact ty_c99 hp
    · exact nm_e (ty_c99 hp)
theorem ty_c54 {post : Int32 → SY → Prop} {M N H : Int32} {A : Nat → Int32} {d : Nat} {ng gr ex : Bool} (hd : d ≤ 120) (hp : post (nI (tf_sg ng d)) (M, tf_cn N ex gr d, H, A)) : wY_choose_54 post (tf_b ex) (tf_b gr) (tf_b ng) (nI d) M N H A := by
  unfold wY_choose_54 wY_choose_67
  unfold tf_cn tf_cn1 at hp
  rw [tf_br]
  cases ex
  · exact nm_e (ty_c77 hd hp)
  · show (_ → _) ∧ (_ → _)
    by_cases h : d = 120
    · refine br_t ((tf_120 hd).mpr h) (nm_e (ty_c77 hd ?_))
      rw [decide_eq_true h] at hp
      rw [decide_eq_true h]
      exact hp
    · refine br_f (fun z => h ((tf_120 hd).mp z)) (ty_c77 hd ?_)
      rw [decide_eq_false h] at hp
      rw [decide_eq_false h]
      exact hp
theorem ty_c36 {post : Int32 → SY → Prop} {M N H : Int32} {A : Nat → Int32} {c : Nat} {ng gr ex : Bool} (up : Bool) (hc : c ≤ 119) (hp : post (nI (tf_sg ng (tf_cc up ex c))) (M, tf_cn N ex gr (tf_cc up ex c), H, A)) : wY_choose_36 post (nI c) (tf_b ex) (tf_b gr) (tf_b ng) (tf_b up) M N H A := by
  unfold wY_choose_36 wY_choose_53
  rw [tf_br, tf_br]
  cases up
  · exact ty_c54 (d := c) (by omega) hp
  · cases ex
    · show wY_choose_54 post (tf_b false) (tf_b gr) (tf_b ng) (nI c + 1) M N H A
      rw [nI_1]
      exact ty_c54 (d := c + 1) (by omega) hp
    · exact ty_c54 (d := c) (by omega) hp
def tf_sn (g e : Bool) : Int32 := cond g 1 (cond e 0 (-1))
theorem ty_choose {post : Int32 → SY → Prop} {N H : Int32} {A : Nat → Int32} {m c : Nat} (g e ex gr ng : Bool) (hm : m < 4) (hc : c ≤ 119) (hp : post (nI (tf_sg ng (tf_cc (tf_up m g e c ng) ex c))) (nI m, tf_cn N ex gr (tf_cc (tf_up m g e c ng) ex c), H, A)) : wpY_choose post (nI m, N, H, A) (nI c) (tf_sn g e) (tf_b ex) (tf_b gr) (tf_b ng) := by
  unfold wpY_choose wY_choose_22 wY_choose_26
  dsimp only
  by_cases h0 : m = 0
  · subst h0
    refine br_t rfl ?_
    unfold tf_up at hp
    rw [if_pos rfl] at hp
    cases g
    · refine br_f (by cases e <;> decide) ?_
      cases e
      · exact br_f (by decide) (ty_c36 false hc hp)
      · refine br_t rfl ⟨by decide, ?_⟩
        rw [show nI c - nI c / 2 * 2 = nI (c % 2) from pk_rem (d := 2) (by omega) (by decide) (by decide)]
        by_cases ho : c % 2 = 1
        · refine br_t (by rw [ho]; rfl) ?_
          rw [decide_eq_true ho] at hp
          exact ty_c36 true hc hp
        · refine br_f (fun z => ho ((nI_eq (b := 1) (by omega) (by decide)).mp z)) ?_
          rw [decide_eq_false ho] at hp
          exact ty_c36 false hc hp
    · exact br_t (by show (0 : Int32) < 1; decide) (ty_c36 true hc hp)
  · refine br_f (fun z => h0 ((tf_mE hm (by decide)).mp z)) ?_
    rw [ty_goesUp hm]
    unfold tf_up at hp
    rw [if_neg h0] at hp
    exact ty_c36 _ hc hp
theorem tf_subI {p q : Nat} (hp : p < 2 ^ 62) (hq : q < 2 ^ 62) : (lN p - lN q).toInt = (p : Int) - q := by
  rw [Int64.toInt_sub, pk_lT (by omega), pk_lT (by omega)]
  exact Int.bmod_eq_of_le (by omega) (by omega)
theorem tf_z64 : (0 : Int64).toInt = 0 := by decide
theorem ty_sign {post : Int32 → Prop} {M N H : Int32} {A : Nat → Int32} {p q : Nat} (hp : p < 2 ^ 62) (hq : q < 2 ^ 62) : wpY_sign post (M, N, H, A) (lN p - lN q) = post (tf_sn (decide (q < p)) (decide (p = q))) := by
  unfold wpY_sign
  dsimp only
  rw [Int64.le_iff_toInt_le, Int64.le_iff_toInt_le, tf_subI hp hq, tf_z64]
  by_cases h1 : q < p
  · rw [decide_eq_true h1, tf_ift (by omega), tf_iff (by omega)]
    rfl
  · rw [decide_eq_false h1]
    by_cases h2 : p = q
    · rw [decide_eq_true h2, tf_ift (by omega), tf_ift (by omega)]
      rfl
    · rw [decide_eq_false h2, tf_iff (by omega)]
      rfl
theorem tf_q1 {t f b r : Nat} (hr : r < b) : t * b < f * b + r ↔ t < f ∨ (t = f ∧ r ≠ 0) := by
  constructor
  · intro h
    rcases Nat.lt_trichotomy t f with h1 | h1 | h1
    · exact Or.inl h1
    · subst h1
      exact Or.inr ⟨rfl, by omega⟩
    · have h2 := Nat.mul_le_mul_right b (show f + 1 ≤ t from h1)
      rw [Nat.succ_mul] at h2
      omega
  · rintro (h | ⟨h, h0⟩)
    · have h2 := Nat.mul_le_mul_right b (show t + 1 ≤ f from h)
      rw [Nat.succ_mul] at h2
      omega
    · subst h
      omega
theorem tf_q2 {t f b r : Nat} (hr : r < b) : t * b = f * b + r ↔ t = f ∧ r = 0 := by
  constructor
  · intro h
    have h1 : ¬ t * b < f * b + r := by omega
    rw [tf_q1 hr] at h1
    have h2 : ¬ f < t := by
      intro h3
      have h2 := Nat.mul_le_mul_right b (show f + 1 ≤ t from h3)
      rw [Nat.succ_mul] at h2
      omega
    have h3 : t = f := by omega
    subst h3
    exact ⟨rfl, by omega⟩
  · rintro ⟨rfl, rfl⟩
    rfl
theorem tf_q3 {t f b r : Nat} (hr : r < b) : t * b ≤ f * b + r ↔ t ≤ f := by
  have h1 := tf_q1 (t := t) (f := f) hr
  have h2 := tf_q2 (t := t) (f := f) hr
  omega
/-- above / below (in u), f its floor in 512th parts, r what is left -/
def tf_Q (a b f r : Nat) : Prop := 512 * a = f * b + r ∧ r < b ∧ a < 2 ^ 44 ∧ b ≤ 131072
theorem tf_u1 {a b f r s : Nat} (h : tf_Q a b f r) : s * b ≤ a ↔ 512 * s ≤ f := by
  rw [← tf_q3 (t := 512 * s) h.2.1, ← h.1, Nat.mul_assoc]
  omega
theorem tf_u2 {a b f r s : Nat} (h : tf_Q a b f r) : s * b = a ↔ 512 * s = f ∧ r = 0 := by
  rw [← tf_q2 h.2.1, ← h.1, Nat.mul_assoc]
  omega
theorem tf_u3 {a b f r s : Nat} (h : tf_Q a b f r) : s * b < 2 * a ↔ 256 * s < f ∨ (256 * s = f ∧ r ≠ 0) := by
  rw [← tf_q1 h.2.1, ← h.1, Nat.mul_assoc]
  omega
theorem tf_u4 {a b f r s : Nat} (h : tf_Q a b f r) : s * b = 2 * a ↔ 256 * s = f ∧ r = 0 := by
  rw [← tf_q2 h.2.1, ← h.1, Nat.mul_assoc]
  omega
theorem tf_bm {s b : Nat} (hs : s ≤ 262144) (hb : b ≤ 131072) : s * b < 2 ^ 40 := by
  have := Nat.mul_le_mul hs hb
  omega
theorem ty_r107 {post : Int32 → SY → Prop} {N H : Int32} {A : Nat → Int32} {m c : Nat} (g e ex gr ng : Bool) (hm : m < 4) (hc : c ≤ 119) (hp : post (nI (tf_sg ng (tf_cc (tf_up m g e c ng) ex c))) (nI m, tf_cn N ex gr (tf_cc (tf_up m g e c ng) ex c), H, A)) : wY_round_107 post (tf_b ng) (nI c) (tf_sn g e) (tf_b ex) (tf_b gr) (nI m) N H A := by
  unfold wY_round_107
  exact ty_choose g e ex gr ng hm hc hp
theorem ty_r85 {post : Int32 → SY → Prop} {N H : Int32} {A : Nat → Int32} {m c a b f r : Nat} (g e ex ng : Bool) (hA : tf_TB A) (hQ : tf_Q a b f r) (hm : m < 4) (hc : c ≤ 119) (hp : post (nI (tf_sg ng (tf_cc (tf_up m g e c ng) ex c))) (nI m, tf_cn N ex (tf_gr f) (tf_cc (tf_up m g e c ng) ex c), H, A)) : wY_round_85 post (lN a) (lN b) (tf_b ng) (nI c) (tf_sn g e) (tf_b ex) (nI m) N H A := by
  unfold wY_round_85
  have hb := tf_bm (s := tf_sz 120) (by rw [tf_sz120]; omega) hQ.2.2.2
  have ha := hQ.2.2.1
  have hu := tf_u1 (s := tf_sz 120) hQ
  rw [hA 120 (by omega), nI_l (by rw [tf_sz120]; omega), lN_mul, pk_lLT (by omega) (by omega)]
  by_cases h : a < tf_sz 120 * b
  · have e4 : tf_gr f = false := by
      unfold tf_gr
      exact decide_eq_false (by omega)
    rw [e4] at hp
    exact br_t h (ty_r107 g e ex false ng hm hc hp)
  · have e4 : tf_gr f = true := by
      unfold tf_gr
      exact decide_eq_true (by omega)
    rw [e4] at hp
    exact br_f h (ty_r107 g e ex true ng hm hc hp)
theorem ty_r33 {post : Int32 → SY → Prop} {N H : Int32} {A : Nat → Int32} {m c a b f r : Nat} (ng : Bool) (hA : tf_TB A) (hQ : tf_Q a b f r) (hm : m < 4) (hRS : tf_RS c f) (hp : post (nI (tf_ra m c f (decide (r ≠ 0)) ng)) (nI m, tf_rn N m c f (decide (r ≠ 0)) ng, H, A)) : wY_round_33 post (lN a) (lN b) (tf_b ng) (nI c) (nI m) N H A := by
  have hc := hRS.1
  have s1 := tf_szb (show c ≤ 120 by omega)
  have s2 := tf_szb (show c + 1 ≤ 120 by omega)
  have b1 := tf_bm (s := tf_sz c + tf_sz (c + 1)) (by omega) hQ.2.2.2
  have b2 := tf_bm (s := tf_sz c) (by omega) hQ.2.2.2
  have ha := hQ.2.2.1
  unfold wY_round_33
  refine ⟨vp_in_nI (by omega) (by omega), ?_, ?_⟩
  · rw [nI_1]
    exact vp_in_nI (by omega) (by omega)
  · rw [nI_1, nI_clamp (by omega), nI_clamp (by omega), hA c (by omega), hA (c + 1) (by omega), nI_add, nI_l (by omega), nI_l (by omega), lN_mul, lN_mul, show (2 : Int64) * lN a = lN (2 * a) from lN_mul 2 a, ty_sign (by omega) (by omega)]
    refine ⟨vp_in_nI (by omega) (by omega), ?_⟩
    have g1 : decide ((tf_sz c + tf_sz (c + 1)) * b < 2 * a) = tf_g c f (decide (r ≠ 0)) := by
      unfold tf_g
      rw [← Bool.decide_and, ← Bool.decide_or]
      refine decide_eq_decide.mpr ((tf_u3 hQ).trans ?_)
      rw [eq_comm (a := f)]
    have g2 : decide (2 * a = (tf_sz c + tf_sz (c + 1)) * b) = tf_e c f (decide (r ≠ 0)) := by
      unfold tf_e
      rw [← decide_not, ← Bool.decide_and]
      refine decide_eq_decide.mpr (eq_comm.trans ((tf_u4 hQ).trans ?_))
      rw [eq_comm (a := f)]
      omega
    rw [g1, g2, pk_lEQ (by omega) (by omega)]
    have hu := tf_u2 (s := tf_sz c) hQ
    by_cases hx : tf_sz c * b = a
    · have e1 : tf_ex c f (decide (r ≠ 0)) = true := by
        unfold tf_ex
        rw [← decide_not, ← Bool.decide_and]
        exact decide_eq_true (by omega)
      refine br_t hx (ty_r85 _ _ true ng hA hQ hm hc ?_)
      unfold tf_ra tf_rn tf_rc at hp
      rw [e1] at hp
      exact hp
    · have e1 : tf_ex c f (decide (r ≠ 0)) = false := by
        unfold tf_ex
        rw [← decide_not, ← Bool.decide_and]
        exact decide_eq_false (by omega)
      refine br_f hx (ty_r85 _ _ false ng hA hQ hm hc ?_)
      unfold tf_ra tf_rn tf_rc at hp
      rw [e1] at hp
      exact hp
theorem ty_rl {post : Int32 → SY → Prop} {N H : Int32} {A : Nat → Int32} {m c a b f r : Nat} (ng : Bool) (hA : tf_TB A) (hQ : tf_Q a b f r) (hm : m < 4) (hRS : tf_RS c f) (hp : post (nI (tf_ra m c f (decide (r ≠ 0)) ng)) (nI m, tf_rn N m c f (decide (r ≠ 0)) ng, H, A)) : ∀ n d : Nat, d + n = 120 → d ≤ 119 → 512 * tf_sz d ≤ f → wY_round_3 post (lN a) (lN b) (tf_b ng) (nI m) N H A n (nI d) := by
  intro n
  induction n with
  | zero =>
    intro d hd h9 _
    omega
  | succ n ih =>
    intro d hd h9 h
    by_cases h119 : d = 119
    · subst h119
      have e : c = 119 := tf_RSu hRS ⟨by omega, h, fun z => absurd z (by omega)⟩
      subst e
      exact br_t (by decide) (ty_r33 ng hA hQ hm hRS hp)
    · have s2 := tf_szb (show d + 1 ≤ 120 by omega)
      have b2 := tf_bm (s := tf_sz (d + 1)) (by omega) hQ.2.2.2
      have ha := hQ.2.2.1
      have hu := tf_u1 (s := tf_sz (d + 1)) hQ
      refine br_f (nI_ge (b := 119) (by omega) (by decide)) ⟨?_, ?_⟩
      · rw [nI_1]
        exact vp_in_nI (by omega) (by omega)
      · rw [nI_1, nI_clamp (by omega), hA (d + 1) (by omega), nI_l (by omega), lN_mul, pk_lLT (by omega) (by omega)]
        by_cases hx : a < tf_sz (d + 1) * b
        · have e : c = d := tf_RSu hRS ⟨by omega, h, fun _ => by omega⟩
          subst e
          exact br_t hx (ty_r33 ng hA hQ hm hRS hp)
        · refine br_f hx (nm_e ?_)
          exact ih (d + 1) (by omega) (by omega) (by omega)
theorem ty_round {post : Int32 → SY → Prop} {N H : Int32} {A : Nat → Int32} {m c a b f r : Nat} (ng : Bool) (hA : tf_TB A) (hQ : tf_Q a b f r) (hm : m < 4) (hRS : tf_RS c f) (hp : post (nI (tf_ra m c f (decide (r ≠ 0)) ng)) (nI m, tf_rn N m c f (decide (r ≠ 0)) ng, H, A)) : wpY_round post (nI m, N, H, A) (lN a) (lN b) (tf_b ng) :=
  ⟨120, ty_rl ng hA hQ hm hRS hp 120 0 rfl (by omega) (by rw [tf_sz0]; omega)⟩
