/-! one answer, one state for both sides: multiply, divide, from -/
def tf_Ag (m : Nat) (HX HY : Int32) (A : Nat → Int32) (WX : (Int32 → SX → Prop) → Prop) (WY : (Int32 → SY → Prop) → Prop) : Prop := ∃ (h : Nat) (n : Int32), h < 256 ∧ (∀ post, post (nI h) (nI m, n, HX) → WX post) ∧ (∀ post, post (nI h) (nI m, n, HY, A) → WY post)
theorem tg_c {m : Nat} {N HX HY : Int32} {A : Nat → Int32} (h : Nat) (hh : h < 256) : tf_Ag m HX HY A (fun post => post (nI h) (nI m, N, HX)) (fun post => post (nI h) (nI m, N, HY, A)) :=
  ⟨h, N, hh, fun _ hp => hp, fun _ hp => hp⟩
theorem tg_sl {m : Nat} {N HX HY : Int32} {A : Nat → Int32} : tf_Ag m HX HY A (fun post => wpX_senseless post (nI m, N, HX)) (fun post => wpY_senseless post (nI m, N, HY, A)) :=
  ⟨124, N ||| 4, by decide, fun _ hp => nm_e hp, fun _ hp => nm_e hp⟩
theorem tg_sd {m : Nat} {N HX HY : Int32} {A : Nat → Int32} (c : Nat) (ng : Bool) (hc : c ≤ 120) : tf_Ag m HX HY A (fun post => wpX_signed (fun r => post r (nI m, N, HX)) (nI c) (tf_b ng)) (fun post => wpY_signed (fun r => post r (nI m, N, HY, A)) (nI m, N, HY, A) (nI c) (tf_b ng)) :=
  ⟨tf_sg ng c, N, tf_sgb hc, fun post hp => by dsimp only; rw [tx_signed]; exact hp, fun post hp => by dsimp only; rw [ty_signed]; exact hp⟩
theorem ty_zero {post : Int32 → Prop} {M N H : Int32} {A : Nat → Int32} {ng : Bool} : wpY_zero post (M, N, H, A) (tf_b ng) = post (nI (tf_sg ng 0)) := by
  unfold wpY_zero
  dsimp only
  rw [tf_br]
  cases ng <;> rfl
theorem tf_ra0 {m : Nat} {ng : Bool} : tf_ra m 0 0 false ng = tf_sg ng 0 := by
  unfold tf_ra tf_rc tf_cc
  rw [show tf_ex 0 0 false = true by decide, Bool.not_true, Bool.and_false]
  rfl
theorem tf_rn0 {N : Int32} {m : Nat} {ng : Bool} : tf_rn N m 0 0 false ng = N := by
  unfold tf_rn tf_rc tf_cc
  rw [show tf_ex 0 0 false = true by decide, show tf_gr 0 = false by decide, Bool.not_true, Bool.and_false]
  rfl
theorem tf_RS0 : tf_RS 0 0 := ⟨by omega, by decide, fun _ => by decide⟩
theorem tx_r0 {post : Int32 → SX → Prop} {N H : Int32} {m : Nat} (ng : Bool) (hm : m < 4) (hp : post (nI (tf_sg ng 0)) (nI m, N, H)) : wpX_rounded post (nI m, N, H) (tf_b ng) (lN 0) (tf_b false) :=
  tx_rounded false ng hm (by decide) tf_RS0 (by rw [tf_ra0, tf_rn0]; exact hp)
theorem tg_0 {m : Nat} {N HX HY : Int32} {A : Nat → Int32} (ng : Bool) (hm : m < 4) : tf_Ag m HX HY A (fun post => wpX_rounded post (nI m, N, HX) (tf_b ng) (lN 0) (tf_b false)) (fun post => wpY_zero (fun r => post r (nI m, N, HY, A)) (nI m, N, HY, A) (tf_b ng)) :=
  ⟨tf_sg ng 0, N, tf_sgb (by omega), fun post hp => tx_r0 ng hm hp, fun post hp => by dsimp only; rw [ty_zero]; exact hp⟩
theorem tg_r {m : Nat} {N HX HY : Int32} {A : Nat → Int32} {a b f r : Nat} (ng : Bool) (hA : tf_TB A) (hm : m < 4) (hf : f < 2 ^ 44) (hQ : tf_Q a b f r) : tf_Ag m HX HY A (fun post => wpX_rounded post (nI m, N, HX) (tf_b ng) (lN f) (tf_b (decide (r ≠ 0)))) (fun post => wpY_round post (nI m, N, HY, A) (lN a) (lN b) (tf_b ng)) := by
  obtain ⟨c, hRS⟩ := tf_RSe f
  exact ⟨_, _, tf_rab hRS.1, fun post hp => tx_rounded _ ng hm hf hRS hp, fun post hp => ty_round ng hA hQ hm hRS hp⟩
theorem tg_r0 {m : Nat} {N HX HY : Int32} {A : Nat → Int32} {a b f : Nat} (ng : Bool) (hA : tf_TB A) (hm : m < 4) (hf : f < 2 ^ 44) (hQ : tf_Q a b f 0) : tf_Ag m HX HY A (fun post => wpX_rounded post (nI m, N, HX) (tf_b ng) (lN f) (tf_b false)) (fun post => wpY_round post (nI m, N, HY, A) (lN a) (lN b) (tf_b ng)) :=
  tg_r (r := 0) ng hA hm hf hQ
theorem tf_bx {A B : Prop} (x y : Bool) : ((tf_b x = tf_b y → A) ∧ (¬ tf_b x = tf_b y → B)) = cond (x != y) B A := by
  cases x <;> cases y
  · exact tf_ift rfl
  · exact tf_iff (by decide)
  · exact tf_iff (by decide)
  · exact tf_ift rfl
theorem tx_code {post : Int32 → Prop} {a : Nat} (ha : a < 256) : wpX_isCode post (nI a) = post (tf_b true) := tx_isCode ha
theorem ty_code {post : Int32 → Prop} {M N H : Int32} {A : Nat → Int32} {a : Nat} (ha : a < 256) : wpY_isCode post (M, N, H, A) (nI a) = post (tf_b true) := ty_isCode ha
theorem tx_iz {post : Int32 → Prop} {a b : Nat} (ha : a < 256) (hb : b < 256) : wpX_isInfiniteTimesZero post (nI a) (nI b) = post (tf_b ((tf_nf a && tf_nz b) || (tf_nz a && tf_nf b))) := by
  unfold wpX_isInfiniteTimesZero wX_isInfiniteTimesZero_14
  rw [tx_isInfinite ha, tx_isZero hb, tx_isZero ha, tx_isInfinite hb, tf_br, tf_br, tf_br, tf_br]
  cases tf_nf a <;> cases tf_nz b <;> cases tf_nz a <;> cases tf_nf b <;> rfl
theorem tf_vin {a : Nat} {P : Prop} (h : a < 121) : (vp_in (nI a) 121 ∧ P) = P := propext ⟨fun z => z.2, fun z => ⟨vp_in_nI h (by omega), z⟩⟩
theorem tf_look {A : Nat → Int32} {a : Nat} (hA : tf_TB A) (h : a < 121) : A (nI a).toNatClampNeg = nI (tf_sz a) := by
  rw [nI_clamp (by omega), hA a h]
theorem tf_l {a : Nat} (h : a < 121) : (nI (tf_sz a)).toInt64 = lN (tf_sz a) := nI_l (by have := tf_szb (show a ≤ 120 by omega); omega)
theorem tf_fin {a : Nat} (h1 : tf_nn a = false) (h2 : tf_nf a = false) : a % 128 < 120 := by
  unfold tf_nn at h1
  unfold tf_nf at h2
  rw [decide_eq_false_iff_not] at h1 h2
  omega
theorem tf_fz {a : Nat} (h : tf_nf a = true) : tf_nz a = false := by
  unfold tf_nf at h
  unfold tf_nz
  rw [decide_eq_true_iff] at h
  exact decide_eq_false (by omega)
theorem tf_pb {a b : Nat} (ha : a % 128 < 120) (hb : b % 128 < 120) : tf_sz (a % 128) * tf_sz (b % 128) < 2 ^ 36 := by
  have := Nat.mul_le_mul (tf_szb (show a % 128 ≤ 120 by omega)) (tf_szb (show b % 128 ≤ 120 by omega))
  omega
theorem tf_Q512 {a : Nat} (h : a < 2 ^ 44) : tf_Q a 512 a 0 := ⟨by omega, by omega, h, by omega⟩
theorem tg_mul {m a b : Nat} {N HX HY : Int32} {A : Nat → Int32} (hm : m < 4) (hA : tf_TB A) (ha : a < 256) (hb : b < 256) : tf_Ag m HX HY A (fun post => wpX_multiply post (nI m, N, HX) (nI a) (nI b)) (fun post => wpY_multiply post (nI m, N, HY, A) (nI a) (nI b)) := by
  simp only [wpX_multiply, wpY_multiply, wX_multiply_62, wX_multiply_77, wY_multiply_55, wY_multiply_72, wY_multiply_88, tx_code ha, tx_code hb, ty_code ha, ty_code hb, tf_br, tf_bx, tx_isNone ha, tx_isNone hb, ty_isNone ha, ty_isNone hb, tx_isInfinite ha, tx_isInfinite hb, ty_isInfinite ha, ty_isInfinite hb, ty_isZero ha, ty_isZero hb, tx_isNegative ha, tx_isNegative hb, ty_isNegative ha, ty_isNegative hb, tx_iz ha hb, tx_size ha, tx_size hb, tf_r128 a ha, tf_r128 b hb, cond_true, cond_false]
  cases hna : tf_nn a
  · cases hnb : tf_nn b
    · cases hfa : tf_nf a
      · cases hfb : tf_nf b
        · have h1 := tf_fin hna hfa
          have h2 := tf_fin hnb hfb
          have hpb := tf_pb h1 h2
          simp only [Bool.false_and, Bool.and_false, Bool.or_false, cond_false, tf_nd (show ¬ (128 : Int32) = 0 by decide), tf_vin (show a % 128 < 121 by omega), tf_vin (show b % 128 < 121 by omega), tf_look hA (show a % 128 < 121 by omega), tf_look hA (show b % 128 < 121 by omega), tf_l (show a % 128 < 121 by omega), tf_l (show b % 128 < 121 by omega), lN_mul, forall_eq]
          generalize tf_sz (a % 128) * tf_sz (b % 128) = p at hpb
          by_cases h0 : p = 0
          · subst h0
            simp only [tf_ift (show lN 0 = 0 from rfl)]
            cases (tf_ng a != tf_ng b)
            · exact tg_0 false hm
            · exact tg_0 true hm
          · simp only [tf_iff (show ¬ lN p = 0 from fun z => h0 ((pk_lEQ (b := 0) (by omega) (by decide)).mp z))]
            cases (tf_ng a != tf_ng b)
            · exact tg_r0 false hA hm (by omega) (tf_Q512 (by omega))
            · exact tg_r0 true hA hm (by omega) (tf_Q512 (by omega))
        · have hzb := tf_fz hfb
          cases hza : tf_nz a <;> simp only [hzb, Bool.false_and, Bool.true_and, Bool.and_false, Bool.and_true, Bool.or_false, Bool.or_true, cond_false, cond_true]
          · cases (tf_ng a != tf_ng b)
            · exact tg_sd 120 false (by omega)
            · exact tg_sd 120 true (by omega)
          · cases (tf_ng a != tf_ng b)
            · exact tg_sl
            · exact tg_sl
      · have hza := tf_fz hfa
        cases hzb : tf_nz b <;> simp only [hza, Bool.false_and, Bool.true_and, Bool.and_false, Bool.and_true, Bool.or_false, Bool.or_true, cond_false, cond_true]
        · cases (tf_ng a != tf_ng b)
          · exact tg_sd 120 false (by omega)
          · exact tg_sd 120 true (by omega)
        · cases (tf_ng a != tf_ng b)
          · exact tg_sl
          · exact tg_sl
    · exact tg_c 124 (by decide)
  · exact tg_c 124 (by decide)
