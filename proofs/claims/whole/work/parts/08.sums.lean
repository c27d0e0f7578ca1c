/-! sums -/
theorem ty_val {post : Int32 → Prop} {M N H : Int32} {A : Nat → Int32} {c : Nat} (hA : tf_TB A) (hc : c < 256) (h : c % 128 < 121) : wpY_valueOf post (M, N, H, A) (nI c) = post (cond (tf_ng c) (-nI (tf_sz (c % 128))) (nI (tf_sz (c % 128)))) := by
  unfold wpY_valueOf
  dsimp only
  rw [ty_isNegative hc, tf_r128 c hc, tf_nd (by decide), tf_nd (by decide), tf_vin h, tf_vin h, tf_look hA h, tf_br]
  cases tf_ng c <;> rfl
theorem tf_nT {w : Nat} (h : w < 2 ^ 31) : (-nI w).toInt = -(w : Int) := by
  rw [Int32.toInt_neg, nI_toInt h]
  exact Int.bmod_eq_of_le (by omega) (by omega)
theorem tf_nL {w : Nat} (h : w < 2 ^ 62) : (-lN w).toInt = -(w : Int) := by
  rw [Int64.toInt_neg, pk_lT (by omega)]
  exact Int.bmod_eq_of_le (by omega) (by omega)
theorem tf_v64 {w : Nat} (t : Bool) (h : w < 2 ^ 31) : (cond t (-nI w) (nI w)).toInt64 = cond t (-lN w) (lN w) := by
  cases t
  · exact nI_l h
  · show (-nI w).toInt64 = -lN w
    apply Int64.toInt_inj.mp
    rw [Int32.toInt_toInt64, tf_nT h, tf_nL (by omega)]
theorem ty_fsK {post : Int32 → SY → Prop} {m K w c : Nat} {N H : Int32} {A : Nat → Int32} {s : Bool} {P : Int64} (σ : Bool) (hA : tf_TB A) (hc : c < 256) (h : c % 128 < 121) (hK : 0 < K) (hK2 : K < 2 ^ 62) (hP : P + (cond (tf_ng c) (-lN (tf_sz (c % 128))) (lN (tf_sz (c % 128)))) * lN w = cond σ (-lN K) (lN K)) (hp : wpY_round post (nI m, N, H, A) (lN K) (lN w) (tf_b σ)) : wpY_finiteSum post (nI m, N, H, A) P (lN w) (tf_b s) (nI c) := by
  have hs := tf_szb (show c % 128 ≤ 120 by omega)
  unfold wpY_finiteSum
  dsimp only
  rw [ty_val hA hc h]
  rw [tf_v64 _ (by omega)]
  refine nm_r hP ?_
  cases σ
  · have h1 : ¬ lN K = 0 := fun z => by have := (pk_lEQ (b := 0) (by omega) (by decide)).mp z; omega
    have h2 : 0 ≤ lN K := (pk_lLE (a := 0) (by decide) (by omega)).mpr (by omega)
    exact br_f h1 (br_t h2 (br_t h2 hp))
  · have e := tf_nL hK2
    have h1 : ¬ -lN K = 0 := fun z => by
      rw [z, tf_z64] at e
      omega
    have h2 : ¬ 0 ≤ -lN K := fun z => by
      have := Int64.le_iff_toInt_le.mp z
      rw [e, tf_z64] at this
      omega
    refine br_f h1 (br_f h2 (br_f h2 ?_))
    rw [cond_true, Int64.neg_neg]
    exact hp
theorem ty_fs62 {post : Int32 → SY → Prop} {m : Nat} {N H x : Int32} {A : Nat → Int32} (hm : m < 4) (hp : post (nI (tf_sg (decide (m = 3)) 0)) (nI m, N, H, A)) : wY_finiteSum_62 post x (nI m) N H A := by
  unfold wY_finiteSum_62 wY_finiteSum_63 wY_finiteSum_89
  refine br_t rfl ?_
  by_cases h3 : m = 3
  · subst h3
    refine br_t rfl ?_
    rw [show (1 : Int32) = tf_b true from rfl, ty_zero]
    exact hp
  · refine br_f (fun z => h3 ((tf_mE hm (by decide)).mp z)) ?_
    rw [decide_eq_false h3] at hp
    have := ty_zero (post := fun r => post r (nI m, N, H, A)) (M := nI m) (N := N) (H := H) (A := A) (ng := false)
    exact this ▸ hp
theorem ty_fs0B {post : Int32 → SY → Prop} {m w c : Nat} {N H : Int32} {A : Nat → Int32} {s : Bool} {P : Int64} (hm : m < 4) (hA : tf_TB A) (hc : c < 256) (h : c % 128 < 121) (hP : P + (cond (tf_ng c) (-lN (tf_sz (c % 128))) (lN (tf_sz (c % 128)))) * lN w = 0) (hs : (s != tf_ng c) = true) (hp : post (nI (tf_sg (decide (m = 3)) 0)) (nI m, N, H, A)) : wpY_finiteSum post (nI m, N, H, A) P (lN w) (tf_b s) (nI c) := by
  have hz := tf_szb (show c % 128 ≤ 120 by omega)
  have h62 : wY_finiteSum_62 post (tf_b s) (nI m) N H A := ty_fs62 hm hp
  have h39 : wY_finiteSum_39 post (tf_b s) (nI c) (nI m) N H A := br_t rfl h62
  unfold wpY_finiteSum
  dsimp only
  rw [ty_val hA hc h]
  rw [tf_v64 _ (by omega)]
  refine nm_r hP (br_t rfl (br_c (fun _ => ?_) (fun _ => h39)))
  rw [ty_isZero hc, tf_br]
  cases tf_nz c
  · exact h39
  · show wY_finiteSum_40 post (tf_b s) (nI c) 1 (nI m) N H A
    refine br_f (by decide) ?_
    rw [ty_isNegative hc, tf_bx, hs]
    exact h62
theorem ty_fs0A {post : Int32 → SY → Prop} {m w c : Nat} {N H : Int32} {A : Nat → Int32} {s : Bool} {P : Int64} (hA : tf_TB A) (hc : c < 256) (h : c % 128 < 121) (hP0 : P = 0) (hP : P + (cond (tf_ng c) (-lN (tf_sz (c % 128))) (lN (tf_sz (c % 128)))) * lN w = 0) (hz0 : tf_nz c = true) (hs : (s != tf_ng c) = false) (hp : post (nI (tf_sg s 0)) (nI m, N, H, A)) : wpY_finiteSum post (nI m, N, H, A) P (lN w) (tf_b s) (nI c) := by
  have hz := tf_szb (show c % 128 ≤ 120 by omega)
  unfold wpY_finiteSum
  dsimp only
  rw [ty_val hA hc h]
  rw [tf_v64 _ (by omega)]
  refine nm_r hP (br_t rfl (br_t hP0 ?_))
  rw [ty_isZero hc, tf_br, hz0]
  show wY_finiteSum_40 post (tf_b s) (nI c) 1 (nI m) N H A
  refine br_f (by decide) ?_
  rw [ty_isNegative hc, tf_bx, hs]
  show wY_finiteSum_63 post (tf_b s) 1 (nI m) N H A
  refine br_f (by decide) ?_
  unfold wY_finiteSum_89
  rw [ty_zero]
  exact hp
theorem tx_swS {post : Int32 → SX → Prop} {m F c : Nat} {N H : Int32} {s : Bool} (hc : c < 256) (hf : tf_nf c = false) (hs : (s != tf_ng c) = false) (hp : wpX_rounded post (nI m, N, H) (tf_b s) (lN (F + tf_sz (c % 128) * 512)) (tf_b false)) : wpX_sumWith post (nI m, N, H) (tf_b false) (tf_b s) (lN F) (nI c) := by
  unfold wpX_sumWith wX_sumWith_14
  dsimp only
  rw [tx_isNegative hc, tf_bx, hs, cond_false]
  refine br_t rfl ?_
  rw [tx_isInfinite hc, hf]
  refine br_t rfl ?_
  rw [tx_size hc]
  refine nm_r (tf_shl9 _) (br_t rfl ?_)
  rw [lN_add]
  exact hp
theorem tx_swO {post : Int32 → SX → Prop} {m F c : Nat} {N H : Int32} {s : Bool} (hm : m < 4) (hF : F < 2 ^ 44) (hc : c < 256) (hf : tf_nf c = false) (hs : (s != tf_ng c) = true) (h0 : F = tf_sz (c % 128) * 512 → post (nI (tf_sg (decide (m = 3)) 0)) (nI m, N, H)) (h1 : tf_sz (c % 128) * 512 < F → wpX_rounded post (nI m, N, H) (tf_b s) (lN (F - tf_sz (c % 128) * 512)) (tf_b false)) (h2 : F < tf_sz (c % 128) * 512 → wpX_rounded post (nI m, N, H) (tf_b (!s)) (lN (tf_sz (c % 128) * 512 - F)) (tf_b false)) (hcb : c % 128 < 121) : wpX_sumWith post (nI m, N, H) (tf_b false) (tf_b s) (lN F) (nI c) := by
  have hz := tf_szb (show c % 128 ≤ 120 by omega)
  unfold wpX_sumWith wX_sumWith_14
  dsimp only
  rw [tx_isNegative hc, tf_bx, hs, cond_true]
  refine br_t rfl ?_
  rw [tx_isInfinite hc, hf]
  refine br_t rfl ?_
  rw [tx_size hc]
  refine nm_r (tf_shl9 _) (br_f (by decide) ?_)
  rw [pk_lEQ (by omega) (by omega), pk_lLE (by omega) (by omega)]
  refine br_c (fun he => ?_) (fun hne => br_c (fun hle => ?_) (fun hgt => ?_))
  · unfold wX_sumWith_105
    by_cases h3 : m = 3
    · subst h3
      refine br_t rfl ?_
      have := tx_signed (post := fun r => post r (nI 3, N, H)) (c := 0) (ng := true)
      exact this ▸ h0 he
    · refine br_f (fun z => h3 ((tf_mE hm (by decide)).mp z)) ?_
      rw [decide_eq_false h3] at h0
      have := tx_signed (post := fun r => post r (nI m, N, H)) (c := 0) (ng := false)
      exact this ▸ h0 he
  · unfold wX_sumWith_137
    rw [lN_sub (by omega), tf_br]
    have h3 := h2 (by omega)
    cases s
    · exact h3
    · exact h3
  · rw [lN_sub (by omega)]
    exact h1 (by omega)
theorem tf_w1 {a b w : Nat} : lN a + lN b * lN w = lN (a + b * w) := by rw [lN_mul, lN_add]
theorem tf_w2 {a b w : Nat} : -lN a + -lN b * lN w = -lN (a + b * w) := by
  rw [← tf_w1]
  grind
theorem tf_w3 {a b w : Nat} (h : b * w ≤ a) : lN a + -lN b * lN w = lN (a - b * w) := by
  rw [← lN_sub h, ← lN_mul]
  grind
theorem tf_w4 {a b w : Nat} (h : a ≤ b * w) : lN a + -lN b * lN w = -lN (b * w - a) := by
  rw [← lN_sub h, ← lN_mul]
  grind
theorem tf_w5 {a b w : Nat} (h : b * w ≤ a) : -lN a + lN b * lN w = -lN (a - b * w) := by
  rw [← lN_sub h, ← lN_mul]
  grind
theorem tf_w6 {a b w : Nat} (h : a ≤ b * w) : -lN a + lN b * lN w = lN (b * w - a) := by
  rw [← lN_sub h, ← lN_mul]
  grind
