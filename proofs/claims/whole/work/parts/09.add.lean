/-! the finite sum on both sides, add, together -/
theorem tf_wz {b w : Nat} (hw : 0 < w) (h : b * w = 0) : b = 0 := by
  rcases Nat.mul_eq_zero.mp h with h | h
  · exact h
  · omega
theorem tg_fs {m c F a w : Nat} {N HX HY : Int32} {A : Nat → Int32} (s : Bool) (hm : m < 4) (hA : tf_TB A) (hc : c < 256) (hfc : c % 128 < 120) (hw : 0 < w) (hw2 : w ≤ 512) (hF : F * w = 512 * a) (hFb : F < 2 ^ 40) (hab : a < 2 ^ 40) : tf_Ag m HX HY A (fun post => wpX_sumWith post (nI m, N, HX) (tf_b false) (tf_b s) (lN F) (nI c)) (fun post => wpY_finiteSum post (nI m, N, HY, A) (cond s (-lN a) (lN a)) (lN w) (tf_b s) (nI c)) := by
  have hnf : tf_nf c = false := by
    unfold tf_nf
    exact decide_eq_false (by omega)
  have hcb : c % 128 < 121 := by omega
  have hz := tf_szb (show c % 128 ≤ 120 by omega)
  have hBw := Nat.mul_le_mul hz hw2
  have hE : (F + tf_sz (c % 128) * 512) * w = 512 * (a + tf_sz (c % 128) * w) := by
    rw [Nat.add_mul, hF, Nat.mul_add, Nat.mul_right_comm, Nat.mul_comm (tf_sz (c % 128) * w)]
  cases hs : (s != tf_ng c)
  · -- the same sign
    have hsum : (cond s (-lN a) (lN a)) + (cond (tf_ng c) (-lN (tf_sz (c % 128))) (lN (tf_sz (c % 128)))) * lN w = cond s (-lN (a + tf_sz (c % 128) * w)) (lN (a + tf_sz (c % 128) * w)) := by
      have e : tf_ng c = s := by revert hs; cases s <;> cases tf_ng c <;> decide
      rw [e]
      cases s
      · exact tf_w1
      · exact tf_w2
    by_cases h0 : a + tf_sz (c % 128) * w = 0
    · have ha0 : a = 0 := by omega
      have hB0 : tf_sz (c % 128) = 0 := tf_wz hw (by omega)
      have hF0 : F = 0 := tf_wz hw (by rw [hF, ha0])
      have hz0 : tf_nz c = true := by
        unfold tf_nz
        refine decide_eq_true ?_
        apply Classical.byContradiction
        intro hn
        have := tf_szp (show 0 < c % 128 by omega)
        omega
      have hP0 : cond s (-lN a) (lN a) = 0 := by
        rw [ha0]
        cases s <;> decide
      refine ⟨tf_sg s 0, N, tf_sgb (by omega), fun post hp => tx_swS hc hnf hs ?_, fun post hp => ty_fs0A hA hc hcb hP0 ?_ hz0 hs hp⟩
      · rw [hF0, hB0]
        exact tx_r0 s hm hp
      · rw [hsum, h0]
        cases s <;> decide
    · obtain ⟨h, n, hh, gx, gy⟩ := tg_r0 (N := N) (HX := HX) (HY := HY) (a := a + tf_sz (c % 128) * w) (b := w) (f := F + tf_sz (c % 128) * 512) s hA hm (by omega) ⟨by omega, hw, by omega, by omega⟩
      exact ⟨h, n, hh, fun post hp => tx_swS hc hnf hs (gx post hp), fun post hp => ty_fsK s hA hc hcb (by omega) (by omega) hsum (gy post hp)⟩
  · -- the other sign
    have e : tf_ng c = !s := by revert hs; cases s <;> cases tf_ng c <;> decide
    have hB5 : tf_sz (c % 128) * 512 * w = 512 * (tf_sz (c % 128) * w) := by
      rw [Nat.mul_right_comm, Nat.mul_comm (tf_sz (c % 128) * w)]
    rcases Nat.lt_trichotomy F (tf_sz (c % 128) * 512) with hlt | heq | hgt
    · have hl := Nat.mul_lt_mul_of_pos_right hlt hw
      have hQ : 512 * (tf_sz (c % 128) * w - a) = (tf_sz (c % 128) * 512 - F) * w + 0 := by
        rw [Nat.sub_mul, hF, hB5]
        omega
      have hsum : (cond s (-lN a) (lN a)) + (cond (tf_ng c) (-lN (tf_sz (c % 128))) (lN (tf_sz (c % 128)))) * lN w = cond (!s) (-lN (tf_sz (c % 128) * w - a)) (lN (tf_sz (c % 128) * w - a)) := by
        rw [e]
        cases s
        · exact tf_w4 (by omega)
        · exact tf_w6 (by omega)
      obtain ⟨h, n, hh, gx, gy⟩ := tg_r0 (N := N) (HX := HX) (HY := HY) (a := tf_sz (c % 128) * w - a) (b := w) (f := tf_sz (c % 128) * 512 - F) (!s) hA hm (by omega) ⟨hQ, hw, by omega, by omega⟩
      exact ⟨h, n, hh, fun post hp => tx_swO hm (by omega) hc hnf hs (fun z => by omega) (fun z => by omega) (fun _ => gx post hp) hcb, fun post hp => ty_fsK (!s) hA hc hcb (by omega) (by omega) hsum (gy post hp)⟩
    · have haB : a = tf_sz (c % 128) * w := by
        have hl : F * w = tf_sz (c % 128) * 512 * w := by rw [heq]
        omega
      have hsum : (cond s (-lN a) (lN a)) + (cond (tf_ng c) (-lN (tf_sz (c % 128))) (lN (tf_sz (c % 128)))) * lN w = 0 := by
        rw [e]
        cases s
        · exact (tf_w3 (by omega)).trans (by rw [haB, Nat.sub_self]; rfl)
        · exact (tf_w6 (by omega)).trans (by rw [haB, Nat.sub_self]; rfl)
      exact ⟨tf_sg (decide (m = 3)) 0, N, tf_sgb (by omega), fun post hp => tx_swO hm (by omega) hc hnf hs (fun _ => hp) (fun z => by omega) (fun z => by omega) hcb, fun post hp => ty_fs0B hm hA hc hcb hsum hs hp⟩
    · have hl := Nat.mul_lt_mul_of_pos_right hgt hw
      have hQ : 512 * (a - tf_sz (c % 128) * w) = (F - tf_sz (c % 128) * 512) * w + 0 := by
        rw [Nat.sub_mul, hF, hB5]
        omega
      have hsum : (cond s (-lN a) (lN a)) + (cond (tf_ng c) (-lN (tf_sz (c % 128))) (lN (tf_sz (c % 128)))) * lN w = cond s (-lN (a - tf_sz (c % 128) * w)) (lN (a - tf_sz (c % 128) * w)) := by
        rw [e]
        cases s
        · exact tf_w3 (by omega)
        · exact tf_w5 (by omega)
      obtain ⟨h, n, hh, gx, gy⟩ := tg_r0 (N := N) (HX := HX) (HY := HY) (a := a - tf_sz (c % 128) * w) (b := w) (f := F - tf_sz (c % 128) * 512) s hA hm (by omega) ⟨hQ, hw, by omega, by omega⟩
      exact ⟨h, n, hh, fun post hp => tx_swO hm (by omega) hc hnf hs (fun z => by omega) (fun _ => gx post hp) (fun z => by omega) hcb, fun post hp => ty_fsK s hA hc hcb (by omega) (by omega) hsum (gy post hp)⟩
theorem tf_a120 {a : Nat} (ha : a < 256) (h : tf_nf a = true) : tf_sg (tf_ng a) 120 = a := by
  unfold tf_nf at h
  rw [decide_eq_true_iff] at h
  unfold tf_ng
  by_cases h1 : 128 ≤ a
  · rw [decide_eq_true h1]
    show 128 + 120 = a
    omega
  · rw [decide_eq_false h1]
    show 120 = a
    omega
theorem tx_swC {post : Int32 → SX → Prop} {m c : Nat} {N H : Int32} {G : Int64} {s : Bool} (hc : c < 256) (hf : tf_nf c = true) (hp : post (nI c) (nI m, N, H)) : wpX_sumWith post (nI m, N, H) (tf_b false) (tf_b s) G (nI c) := by
  simp only [wpX_sumWith, wX_sumWith_14, tx_isNegative hc, tf_bx, tx_isInfinite hc, hf, tf_br, cond_true, cond_false]
  cases (s != tf_ng c) <;> exact hp
theorem tx_swI {post : Int32 → SX → Prop} {m c : Nat} {N H : Int32} {G : Int64} {s : Bool} (hc : c < 256) (hf : (tf_nf c && (s != tf_ng c)) = false) (hp : post (nI (tf_sg s 120)) (nI m, N, H)) : wpX_sumWith post (nI m, N, H) (tf_b true) (tf_b s) G (nI c) := by
  have h40 : wX_sumWith_40 post (tf_b s) (nI m) N H := by
    unfold wX_sumWith_40
    have := tx_signed (post := fun r => post r (nI m, N, H)) (c := 120) (ng := s)
    exact this ▸ hp
  simp only [wpX_sumWith, wX_sumWith_14, tx_isNegative hc, tf_bx, tx_isInfinite hc, tf_br, cond_true, cond_false]
  revert hf
  cases tf_nf c <;> cases (s != tf_ng c) <;> intro hf
  · exact h40
  · exact h40
  · exact br_t trivial h40
  · exact absurd hf (by decide)
theorem tx_swN {post : Int32 → SX → Prop} {m c : Nat} {N H : Int32} {G : Int64} {s : Bool} (hc : c < 256) (hf : tf_nf c = true) (hs : (s != tf_ng c) = true) (hp : wpX_senseless post (nI m, N, H)) : wpX_sumWith post (nI m, N, H) (tf_b true) (tf_b s) G (nI c) := by
  simp only [wpX_sumWith, wX_sumWith_14, tx_isNegative hc, tf_bx, tx_isInfinite hc, tf_br, hf, hs, cond_true, cond_false]
  exact br_f (by decide) hp
theorem tf_fle {a : Nat} (h1 : tf_nn a = false) : a % 128 < 121 := by
  unfold tf_nn at h1
  rw [decide_eq_false_iff_not] at h1
  omega
theorem tg_add {m a b : Nat} {N HX HY : Int32} {A : Nat → Int32} (hm : m < 4) (hA : tf_TB A) (ha : a < 256) (hb : b < 256) : tf_Ag m HX HY A (fun post => wpX_sum post (nI m, N, HX) (nI a) (nI b)) (fun post => wpY_add post (nI m, N, HY, A) (nI a) (nI b)) := by
  simp only [wpX_sum, wX_sum_43, wpY_add, ty_code ha, ty_code hb, tf_br, tx_isNone ha, tx_isNone hb, ty_isNone ha, ty_isNone hb, tx_isInfinite ha, ty_isInfinite ha, ty_isInfinite hb, tx_isNegative ha, ty_isNegative ha, tx_size ha, tf_shl9, cond_true, cond_false]
  cases hna : tf_nn a
  · cases hnb : tf_nn b
    · cases hfa : tf_nf a
      · have h1 := tf_fin hna hfa
        have s1 := tf_szb (show a % 128 ≤ 120 by omega)
        simp only [cond_false, cond_true, ty_val hA ha (show a % 128 < 121 by omega), tf_v64 (w := tf_sz (a % 128)) (tf_ng a) (by omega)]
        cases hfb : tf_nf b
        · exact tg_fs (w := 1) (tf_ng a) hm hA hb (tf_fin hnb hfb) (by omega) (by omega) (by omega) (by omega) (by omega)
        · exact ⟨b, N, hb, fun post hp => tx_swC hb hfb hp, fun post hp => hp⟩
      · simp only [cond_false, cond_true]
        have e := tf_a120 ha hfa
        cases hfb : tf_nf b
        · exact ⟨a, N, ha, fun post hp => tx_swI hb (by rw [hfb]; rfl) (by rw [e]; exact hp), fun post hp => hp⟩
        · have e2 := tf_a120 hb hfb
          simp only [cond_true]
          cases hs : (tf_ng a != tf_ng b)
          · have e3 : a = b := by
              rw [← e, ← e2]
              congr 1
              revert hs
              cases tf_ng a <;> cases tf_ng b <;> decide
            exact ⟨a, N, ha, fun post hp => tx_swI hb (by rw [hfb, hs]; rfl) (by rw [e]; exact hp), fun post hp => br_t (by rw [e3]) hp⟩
          · have e3 : ¬ nI a = nI b := fun z => by
              have := (nI_eq (by omega) (by omega)).mp z
              subst this
              revert hs
              cases tf_ng a <;> decide
            obtain ⟨h, n, hh, gx, gy⟩ := tg_sl (m := m) (N := N) (HX := HX) (HY := HY) (A := A)
            exact ⟨h, n, hh, fun post hp => tx_swN hb hfb hs (gx post hp), fun post hp => br_f e3 (gy post hp)⟩
    · exact tg_c 124 (by decide)
  · exact tg_c 124 (by decide)
theorem ty_sgL (M N H : Int32) (A : Nat → Int32) (post : Int32 → Prop) (s : Bool) : wpY_signed post (M, N, H, A) 120 (tf_b s) = post (nI (tf_sg s 120)) := ty_signed
theorem tg_tog {m a b c : Nat} {N HX HY : Int32} {A : Nat → Int32} (hm : m < 4) (hA : tf_TB A) (ha : a < 256) (hb : b < 256) (hc : c < 256) : tf_Ag m HX HY A (fun post => wpX_productAndSum post (nI m, N, HX) (nI a) (nI b) (nI c)) (fun post => wpY_together post (nI m, N, HY, A) (nI a) (nI b) (nI c)) := by
  have Y71 : ∀ (s : Bool) (post : Int32 → SY → Prop), cond s (wY_together_71 post (nI a) (nI b) (nI c) 1 (nI m) N HY A) (wY_together_71 post (nI a) (nI b) (nI c) 0 (nI m) N HY A) = wY_together_71 post (nI a) (nI b) (nI c) (tf_b s) (nI m) N HY A := by
    intro s post
    cases s <;> rfl
  have X74 : ∀ (s : Bool) (post : Int32 → SX → Prop) (i : Int32), cond s (wX_productAndSum_74 post (nI a) (nI b) (nI c) i 1 (nI m) N HX) (wX_productAndSum_74 post (nI a) (nI b) (nI c) i 0 (nI m) N HX) = wX_productAndSum_74 post (nI a) (nI b) (nI c) i (tf_b s) (nI m) N HX := by
    intro s post i
    cases s <;> rfl
  simp only [wpX_productAndSum, wX_productAndSum_51, wX_productAndSum_56, wpY_together, ty_code ha, ty_code hb, ty_code hc, tf_br, tf_bx, tx_isNone ha, tx_isNone hb, tx_isNone hc, ty_isNone ha, ty_isNone hb, ty_isNone hc, tx_isInfinite ha, tx_isInfinite hb, tx_isNegative ha, tx_isNegative hb, ty_isNegative ha, ty_isNegative hb, tx_iz ha hb, cond_true, cond_false, Y71, X74]
  generalize (tf_ng a != tf_ng b) = s
  simp only [wX_productAndSum_74, wX_productAndSum_94, wY_together_71, wY_together_89, wY_together_117, wY_together_118, wY_together_141, wY_together_200, ty_isInfinite ha, ty_isInfinite hb, ty_isInfinite hc, ty_isZero ha, ty_isZero hb, ty_sgL, tf_br, tx_size ha, tx_size hb, tf_r128 a ha, tf_r128 b hb, tf_10, true_implies, false_implies, not_true_eq_false, not_false_eq_true, and_true, true_and, tf_nd (show ¬ (128 : Int32) = 0 by decide)]
  cases hna : tf_nn a
  · cases hnb : tf_nn b
    · cases hnc : tf_nn c
      · simp only [cond_false]
        have sl := tg_sl (m := m) (N := N) (HX := HX) (HY := HY) (A := A)
        have inf : (tf_nf a || tf_nf b) = true → tf_nz a = false → tf_nz b = false → tf_Ag m HX HY A (fun post => wpX_sumWith post (nI m, N, HX) (tf_b true) (tf_b s) 0 (nI c)) (fun post => cond (tf_nf c) ((nI c = nI (tf_sg s 120) → post (nI (tf_sg s 120)) (nI m, N, HY, A)) ∧ (¬ nI c = nI (tf_sg s 120) → wpY_senseless post (nI m, N, HY, A))) (post (nI (tf_sg s 120)) (nI m, N, HY, A))) := by
          intro _ _ _
          cases hfc : tf_nf c
          · exact ⟨tf_sg s 120, N, tf_sgb (by omega), fun post hp => tx_swI hc (by rw [hfc]; rfl) hp, fun post hp => hp⟩
          · have e := tf_a120 hc hfc
            cases hs : (s != tf_ng c)
            · have e3 : tf_ng c = s := by revert hs; cases s <;> cases tf_ng c <;> decide
              rw [e3] at e
              exact ⟨tf_sg s 120, N, tf_sgb (by omega), fun post hp => tx_swI hc (by rw [hfc, hs]; rfl) hp, fun post hp => br_t (by rw [e]) hp⟩
            · have e3 : ¬ nI c = nI (tf_sg s 120) := fun z => by
                have z2 := (nI_eq (by omega) (by have := tf_sgb (ng := s) (d := 120) (by omega); omega)).mp z
                rw [← e] at z2
                revert hs z2
                cases s <;> cases tf_ng c <;> decide
              obtain ⟨h, n, hh, gx, gy⟩ := sl
              exact ⟨h, n, hh, fun post hp => tx_swN hc hfc hs (gx post hp), fun post hp => br_f e3 (gy post hp)⟩
        cases hfa : tf_nf a
        · cases hfb : tf_nf b
          · have h1 := tf_fin hna hfa
            have h2 := tf_fin hnb hfb
            have hpb := tf_pb h1 h2
            simp only [Bool.false_and, Bool.and_false, Bool.or_false, cond_false, tf_vin (show a % 128 < 121 by omega), tf_vin (show b % 128 < 121 by omega), tf_look hA (show a % 128 < 121 by omega), tf_look hA (show b % 128 < 121 by omega), tf_l (show a % 128 < 121 by omega), tf_l (show b % 128 < 121 by omega), lN_mul, forall_eq]
            generalize tf_sz (a % 128) * tf_sz (b % 128) = p at hpb
            cases hfc : tf_nf c
            · have := tg_fs (m := m) (N := N) (HX := HX) (HY := HY) (A := A) (F := p) (a := p) (w := 512) s hm hA hc (tf_fin hnc hfc) (by omega) (by omega) (by omega) (by omega) (by omega)
              cases s
              · exact this
              · exact this
            · exact ⟨c, N, hc, fun post hp => tx_swC hc hfc hp, fun post hp => hp⟩
          · have hzb := tf_fz hfb
            cases hza : tf_nz a
            · have := inf (by rw [hfa, hfb]; rfl) hza hzb
              simp only [hzb, Bool.false_and, Bool.true_and, Bool.and_false, Bool.or_false, cond_false, cond_true]
              exact this
            · simp only [hzb, Bool.false_and, Bool.true_and, Bool.and_false, Bool.or_true, Bool.false_or, cond_false, cond_true]
              cases tf_nf c
              · exact sl
              · obtain ⟨h, n, hh, gx, gy⟩ := sl
                exact ⟨h, n, hh, gx, fun post hp => br_c (fun _ => gy post hp) (fun _ => gy post hp)⟩
        · have hza := tf_fz hfa
          cases hzb : tf_nz b
          · have := inf (by rw [hfa]; rfl) hza hzb
            simp only [hza, Bool.false_and, Bool.true_and, Bool.and_false, Bool.or_false, cond_false, cond_true]
            exact this
          · simp only [hza, Bool.false_and, Bool.true_and, Bool.and_false, Bool.or_true, Bool.or_false, cond_false, cond_true]
            cases tf_nf c
            · exact sl
            · obtain ⟨h, n, hh, gx, gy⟩ := sl
              exact ⟨h, n, hh, gx, fun post hp => br_c (fun _ => gy post hp) (fun _ => gy post hp)⟩
      · exact tg_c 124 (by decide)
    · exact tg_c 124 (by decide)
  · exact tg_c 124 (by decide)
