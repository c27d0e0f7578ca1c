/-! divide, from -/
theorem tf_10 : ((1 : Int32) = 0) = False := eq_false (by decide)
theorem tf_shl18 (n : Nat) : lN n <<< ((18 : Int32).toInt64 &&& 63) = lN (n * 262144) := wb_shl n (k := 18) (by decide)
theorem tf_shl9 (n : Nat) : lN n <<< ((9 : Int32).toInt64 &&& 63) = lN (n * 512) := wb_shl n (k := 9) (by decide)
theorem tf_shl27 (n : Nat) : lN n <<< ((27 : Int32).toInt64 &&& 63) = lN (n * 134217728) := wb_shl n (k := 27) (by decide)
theorem tg_z {m : Nat} {N HX HY : Int32} {A : Nat → Int32} (ng : Bool) : tf_Ag m HX HY A (fun post => wpX_signed (fun r => post r (nI m, N, HX)) (nI 0) (tf_b ng)) (fun post => wpY_zero (fun r => post r (nI m, N, HY, A)) (nI m, N, HY, A) (tf_b ng)) :=
  ⟨tf_sg ng 0, N, tf_sgb (by omega), fun post hp => by dsimp only; rw [tx_signed]; exact hp, fun post hp => by dsimp only; rw [ty_zero]; exact hp⟩
theorem tf_z0 {a : Nat} (h : tf_nz a = true) : tf_sz (a % 128) = 0 := by
  unfold tf_nz at h
  rw [decide_eq_true_iff] at h
  rw [h, tf_sz0]
theorem tf_zp {a : Nat} (h : tf_nz a = false) : 0 < tf_sz (a % 128) := by
  unfold tf_nz at h
  rw [decide_eq_false_iff_not] at h
  exact tf_szp (by omega)
theorem tg_mo {m : Nat} {HX HY : Int32} {A : Nat → Int32} {WY : (Int32 → SY → Prop) → Prop} {r : Nat} (P : Int32 → (Int32 → SX → Prop) → Prop) (hr : r < 2 ^ 62) (h : tf_Ag m HX HY A (P (tf_b (decide (r ≠ 0)))) WY) : tf_Ag m HX HY A (fun post => (lN r = 0 → P 0 post) ∧ (¬ lN r = 0 → P 1 post)) WY := by
  by_cases h0 : r = 0
  · subst h0
    simp only [tf_ift (show lN 0 = 0 from rfl)]
    exact h
  · simp only [tf_iff (show ¬ lN r = 0 from fun z => h0 ((pk_lEQ (b := 0) (by omega) (by decide)).mp z))]
    rw [decide_eq_true h0] at h
    exact h
theorem tg_div {m a b : Nat} {N HX HY : Int32} {A : Nat → Int32} (hm : m < 4) (hA : tf_TB A) (ha : a < 256) (hb : b < 256) : tf_Ag m HX HY A (fun post => wpX_divide post (nI m, N, HX) (nI a) (nI b)) (fun post => wpY_divide post (nI m, N, HY, A) (nI a) (nI b)) := by
  simp only [wpX_divide, wpY_divide, wX_divide_51, wX_divide_52, wX_divide_71, wX_divide_72, wX_divide_83, wX_divide_104, wX_divide_199, wY_divide_55, wY_divide_72, wY_divide_88, wY_divide_93, wY_divide_125, tx_code ha, tx_code hb, ty_code ha, ty_code hb, tf_br, tf_bx, tx_isNone ha, tx_isNone hb, ty_isNone ha, ty_isNone hb, tx_isInfinite ha, tx_isInfinite hb, ty_isInfinite ha, ty_isInfinite hb, ty_isZero ha, ty_isZero hb, tx_isZero ha, tx_isZero hb, tx_isNegative ha, tx_isNegative hb, ty_isNegative ha, ty_isNegative hb, tx_size ha, tx_size hb, tf_r128 a ha, tf_r128 b hb, cond_true, cond_false, tf_10, true_implies, false_implies, not_true_eq_false, not_false_eq_true, and_true, true_and]
  cases hna : tf_nn a
  · cases hnb : tf_nn b
    · cases hfa : tf_nf a
      · cases hfb : tf_nf b
        · have h1 := tf_fin hna hfa
          have h2 := tf_fin hnb hfb
          have s1 := tf_szb (show a % 128 ≤ 120 by omega)
          have s2 := tf_szb (show b % 128 ≤ 120 by omega)
          simp only [cond_false, cond_true, tf_vin (show a % 128 < 121 by omega), tf_vin (show b % 128 < 121 by omega), tf_look hA (show a % 128 < 121 by omega), tf_look hA (show b % 128 < 121 by omega), tf_l (show a % 128 < 121 by omega), tf_l (show b % 128 < 121 by omega), tf_shl18, forall_eq]
          cases hzb : tf_nz b
          · have hp := tf_zp hzb
            generalize tf_sz (b % 128) = d at hp s2
            have hd0 : (lN d = 0) = False := eq_false (fun z => by have := (pk_lEQ (b := 0) (by omega) (by decide)).mp z; omega)
            have hrm : lN (tf_sz (a % 128) * 262144) - lN (tf_sz (a % 128) * 262144 / d) * lN d = lN (tf_sz (a % 128) * 262144 % d) := by
              rw [← pk_lDiv (by omega) hp (by omega), pk_lRem (by omega) hp (by omega)]
            simp only [cond_false, cond_true, hd0, false_implies, not_false_eq_true, true_implies, true_and, tf_nd (show ¬ (128 : Int32) = 0 by decide), pk_lDiv (a := tf_sz (a % 128) * 262144) (b := d) (by omega) hp (by omega), hrm]
            cases hza : tf_nz a
            · generalize tf_sz (a % 128) = c at s1
              have hr : c * 262144 % d < d := Nat.mod_lt _ hp
              have hq : c * 262144 / d ≤ c * 262144 := Nat.div_le_self _ _
              have hQ : tf_Q (512 * c) d (c * 262144 / d) (c * 262144 % d) := ⟨by have := Nat.div_add_mod' (c * 262144) d; omega, hr, by omega, by omega⟩
              simp only [cond_false, cond_true, show (512 : Int64) * lN c = lN (512 * c) from lN_mul 512 c]
              cases (tf_ng a != tf_ng b)
              · exact tg_mo (fun mo post => wpX_rounded post (nI m, N, HX) 0 (lN (c * 262144 / d)) mo) (by omega) (tg_r false hA hm (by omega) hQ)
              · exact tg_mo (fun mo post => wpX_rounded post (nI m, N, HX) 1 (lN (c * 262144 / d)) mo) (by omega) (tg_r true hA hm (by omega) hQ)
            · rw [tf_z0 hza]
              simp only [cond_false, cond_true, Nat.zero_mul, Nat.zero_mod, Nat.zero_div, tf_ift (show lN 0 = 0 from rfl)]
              cases (tf_ng a != tf_ng b)
              · exact tg_0 false hm
              · exact tg_0 true hm
          · rw [tf_z0 hzb]
            cases hza : tf_nz a
            · simp only [cond_false, cond_true, tf_ift (show lN 0 = 0 from rfl)]
              cases (tf_ng a != tf_ng b)
              · exact tg_sd (N := N ||| 8) 120 false (by omega)
              · exact tg_sd (N := N ||| 8) 120 true (by omega)
            · simp only [cond_false, cond_true]
              cases (tf_ng a != tf_ng b)
              · exact tg_sl
              · exact tg_sl
        · have hzb := tf_fz hfb
          cases hza : tf_nz a <;> simp only [hzb, cond_false, cond_true]
          · cases (tf_ng a != tf_ng b)
            · exact tg_z false
            · exact tg_z true
          · cases (tf_ng a != tf_ng b)
            · exact tg_z false
            · exact tg_z true
      · have hza := tf_fz hfa
        cases hfb : tf_nf b <;> simp only [hza, cond_false, cond_true]
        · cases (tf_ng a != tf_ng b)
          · exact tg_sd 120 false (by omega)
          · exact tg_sd 120 true (by omega)
        · cases (tf_ng a != tf_ng b)
          · exact tg_sl
          · exact tg_sl
    · exact tg_c 124 (by decide)
  · exact tg_c 124 (by decide)
theorem tf_Q1 {n : Nat} (h : n ≤ 1000000) : tf_Q (512 * n) 1 (n * 262144) 0 := ⟨by omega, by omega, by omega, by omega⟩
theorem tg_from {m : Nat} {N HX HY p : Int32} {A : Nat → Int32} (hm : m < 4) (hA : tf_TB A) (h1 : ¬ p < (-1000000)) (h2 : p ≤ 1000000) : tf_Ag m HX HY A (fun post => wpX_from post (nI m, N, HX) p) (fun post => wpY_from post (nI m, N, HY, A) p) := by
  simp only [wpX_from, wpY_from, tf_iff h1, tf_ift h2, wX_from_23, wX_from_36, wY_from_26, wY_from_51, tf_10, true_implies, false_implies, not_true_eq_false, not_false_eq_true, and_true, true_and]
  by_cases h0 : 0 ≤ p
  · obtain ⟨n, hn, rfl⟩ := nI_of (x := p) (Int32.not_lt.mpr h0)
    have hl : n ≤ 1000000 := (nI_leI (b := 1000000) hn (by decide)).mp h2
    simp only [tf_ift h0, nI_l hn, tf_shl18, show (512 : Int64) * lN n = lN (512 * n) from lN_mul 512 n]
    by_cases hz : n = 0
    · subst hz
      simp only [tf_ift (show nI 0 = 0 from rfl)]
      exact ⟨0, N, by decide, fun post hp => tx_r0 false hm hp, fun post hp => hp⟩
    · simp only [tf_iff (show ¬ nI n = 0 from nI_ne0 (by omega) hn)]
      exact tg_r0 false hA hm (by omega) (tf_Q1 hl)
  · have q1 : ¬ p.toInt < -1000000 := fun z => h1 (Int32.lt_iff_toInt_lt.mpr z)
    have q2 : ¬ 0 ≤ p.toInt := fun z => h0 (Int32.le_iff_toInt_le.mpr z)
    obtain ⟨n, hn⟩ : ∃ n : Nat, p.toInt = -(n : Int) := ⟨(-p.toInt).toNat, by omega⟩
    have e : -p = nI n := by
      apply Int32.toInt_inj.mp
      rw [Int32.toInt_neg, nI_toInt (by omega), hn]
      exact (Int.bmod_eq_of_le (by omega) (by omega)).trans (by omega)
    have hp0 : ¬ p = 0 := fun z => by
      subst z
      exact h0 (by decide)
    simp only [tf_iff h0, tf_iff hp0, e, nI_l (show n < 2 ^ 31 by omega), tf_shl18, show (512 : Int64) * lN n = lN (512 * n) from lN_mul 512 n]
    exact tg_r0 true hA hm (by omega) (tf_Q1 (by omega))
