/-! root, subtract, the table of sizes -/
theorem tf_isq (q : Nat) : ∃ f : Nat, f * f ≤ q ∧ q < (f + 1) * (f + 1) := by
  induction q with
  | zero => exact ⟨0, by omega, by omega⟩
  | succ q ih =>
    obtain ⟨f, h1, h2⟩ := ih
    by_cases h : (f + 1) * (f + 1) ≤ q + 1
    · refine ⟨f + 1, h, ?_⟩
      have := Nat.mul_self_lt_mul_self (show f + 1 < f + 1 + 1 by omega)
      omega
    · exact ⟨f, by omega, by omega⟩
theorem tf_Re {Q : Nat} (hQ : 262144 * Q < 2 ^ 44) : ∃ f, tf_R Q f := by
  obtain ⟨f, h1, h2⟩ := tf_isq (262144 * Q)
  refine ⟨f, h1, h2, by omega, ?_⟩
  apply Classical.byContradiction
  intro hn
  have := Nat.mul_self_le_mul_self (show 2 ^ 22 ≤ f by omega)
  omega
theorem tx_rootBelow {post : Int64 → Prop} {Q f : Nat} (hR : tf_R Q f) (hQ : 262144 * Q < 2 ^ 44) (hp : post (lN f)) : wpX_rootBelow post (lN (262144 * Q)) := by
  refine ⟨23, ?_⟩
  refine tx_rb (q := 262144 * Q) (by omega) (fun r h1 h2 _ => ?_) 22 0 (by omega) (by omega) (by omega)
  have a1 := (tf_sq (t := r) hR.1 hR.2.1).mp h1
  have a2 := (tf_sq (t := f) h1 h2).mp hR.1
  have e : r = f := by omega
  rw [e]
  exact hp
theorem tg_root {m a : Nat} {N HX HY : Int32} {A : Nat → Int32} (hm : m < 4) (hA : tf_TB A) (ha : a < 256) : tf_Ag m HX HY A (fun post => wpX_root post (nI m, N, HX) (nI a)) (fun post => wpY_root post (nI m, N, HY, A) (nI a)) := by
  simp only [wpX_root, wX_root_82, wpY_root, tx_code ha, ty_code ha, tf_br, tx_isNone ha, ty_isNone ha, tx_isInfinite ha, tx_isZero ha, ty_isZero ha, tx_isNegative ha, ty_isNegative ha, tx_size ha, tf_shl27, cond_true]
  cases hna : tf_nn a
  · cases hza : tf_nz a
    · cases hga : tf_ng a
      · have hlt : a < 128 := by
          unfold tf_ng at hga
          rw [decide_eq_false_iff_not] at hga
          omega
        cases hfa : tf_nf a
        · have h1 := tf_fin hna hfa
          have em : a % 128 = a := Nat.mod_eq_of_lt hlt
          rw [em] at h1
          have h2 := tf_szm (show a ≤ 119 by omega)
          rw [tf_sz119] at h2
          have hQ : 262144 * (512 * tf_sz a) < 2 ^ 44 := by omega
          obtain ⟨f, hR⟩ := tf_Re hQ
          obtain ⟨c, hRS⟩ := tf_RSe f
          have hf := hR.2.2.2
          have h120 : ¬ nI a = 120 := fun z => by
            have := (nI_eq (b := 120) (by omega) (by decide)).mp z
            omega
          have hff : f * f < 2 ^ 44 := by
            have := hR.1
            omega
          simp only [cond_false, tf_iff h120, em, tf_vin (show a < 121 by omega), tf_look hA (show a < 121 by omega), tf_l (show a < 121 by omega), forall_eq, show (512 : Int64) * lN (tf_sz a) = lN (512 * tf_sz a) from lN_mul 512 _, show tf_sz a * 134217728 = 262144 * (512 * tf_sz a) by omega]
          generalize 512 * tf_sz a = Q at hQ hR
          refine ⟨tf_ra m c f (decide (f * f ≠ 262144 * Q)) false, tf_rn N m c f (decide (f * f ≠ 262144 * Q)) false, tf_rab hRS.1, fun post hp => tx_rootBelow hR hQ ?_, fun post hp => ⟨120, ty_r65 hA hR hm hRS hp 120 0 rfl (by omega) (by rw [tf_sz0]; omega)⟩⟩
          have X := fun mo => tx_rounded (post := post) (N := N) (H := HX) mo false hm (by omega) hRS
          rw [lN_mul, pk_lEQ (by omega) (by omega)]
          by_cases hx : f * f = 262144 * Q
          · rw [decide_eq_false (show ¬ f * f ≠ 262144 * Q from fun z => z hx)] at hp
            exact br_t hx (X false hp)
          · rw [decide_eq_true (show f * f ≠ 262144 * Q from hx)] at hp
            exact br_f hx (X true hp)
        · have e : a = 120 := by
            have := tf_a120 ha hfa
            rw [hga] at this
            exact this.symm
          subst e
          simp only [cond_false, cond_true, tf_ift (show nI 120 = 120 from rfl)]
          exact tg_c 120 (by decide)
      · have h120 : ¬ nI a = 120 := fun z => by
          have := (nI_eq (b := 120) (by omega) (by decide)).mp z
          subst this
          revert hga
          decide
        simp only [cond_false, cond_true, tf_iff h120]
        exact tg_sl
    · exact tg_c a ha
  · exact tg_c 124 (by decide)
theorem tf_x128 : ∀ b, b < 256 → b ^^^ 128 < 256 ∧ tf_nn (b ^^^ 128) = tf_nn b := by decide +kernel
theorem tg_sub {m a b : Nat} {N HX HY : Int32} {A : Nat → Int32} (hm : m < 4) (hA : tf_TB A) (ha : a < 256) (hb : b < 256) : tf_Ag m HX HY A (fun post => wpX_subtract post (nI m, N, HX) (nI a) (nI b)) (fun post => wpY_subtract post (nI m, N, HY, A) (nI a) (nI b)) := by
  obtain ⟨h1, h2⟩ := tf_x128 b hb
  simp only [wpX_subtract, wpY_subtract, wY_subtract_27, tx_code ha, tx_code hb, ty_code hb, tf_br, ty_isNone hb, cond_true, show nI b ^^^ 128 = nI (b ^^^ 128) from nx_xor b 128]
  cases hnb : tf_nn b
  · exact tg_add hm hA ha h1
  · rw [hnb] at h2
    refine ⟨124, N, by decide, fun post hp => ?_, fun post hp => ?_⟩
    · simp only [wpX_sum, tx_isNone ha, tx_isNone h1, tf_br, h2, cond_true]
      cases tf_nn a
      · exact hp
      · exact hp
    · simp only [cond_true, wpY_add, ty_code ha, ty_code hb, ty_isNone ha, ty_isNone hb, tf_br, hnb]
      cases tf_nn a
      · exact hp
      · exact hp
theorem tf_i1 : ∀ i, i < 8 → tf_sz i = i := by decide
theorem tf_i2 : ∀ i, i < 121 → 8 ≤ i → (8 + (nI i - nI i / 8 * 8)) <<< ((nI i / 8 - 1) &&& 31) = nI (tf_sz i) := by decide +kernel
theorem ty_i14 {post : SY → Prop} (hp : ∀ A, tf_TB A → post (0, 0, 0, A)) : ∀ (n i : Nat) (A : Nat → Int32), i + n = 122 → i ≤ 121 → (∀ c, c < i → A c = nI (tf_sz c)) → wY_init_14 post 0 0 0 n (nI i) A := by
  intro n
  induction n with
  | zero =>
    intro i A h1 h2
    omega
  | succ n ih =>
    intro i A h1 h2 h
    by_cases h9 : i = 121
    · subst h9
      exact br_t (by decide) (hp A h)
    · have hi : vp_in (nI i) 121 := vp_in_nI (by omega) (by omega)
      have nx : ∀ x : Int32, x = nI (tf_sz i) → ∀ c, c < i + 1 → upd A (nI i).toNatClampNeg x c = nI (tf_sz c) := by
        intro x hx c hc
        rw [nI_clamp (by omega)]
        by_cases he : c = i
        · rw [he, pk_us, hx]
        · rw [pk_un he]
          exact h c (by omega)
      refine br_f (nI_ge (b := 121) (by omega) (by decide)) ?_
      by_cases h8 : 8 ≤ i
      · refine br_t (nI_le (a := 8) h8 (by omega)) ⟨by decide, by decide, hi, ?_⟩
        refine nm_e (nm_r (nI_1 i) (ih (i + 1) _ (by omega) (by omega) (nx _ (tf_i2 i (by omega) h8))))
      · refine br_f (nI_ge (b := 8) (by omega) (by decide)) ⟨hi, ?_⟩
        refine nm_e (nm_r (nI_1 i) (ih (i + 1) _ (by omega) (by omega) (nx _ (by rw [tf_i1 i (by omega)]))))
theorem ty_init {post : SY → Prop} (hp : ∀ A, tf_TB A → post (0, 0, 0, A)) : wpY_init post :=
  ⟨122, ty_i14 hp 122 0 _ rfl (by omega) (fun c hc => by omega)⟩
