/-! small predicates on both sides, over naturals -/
def tf_nn (a : Nat) : Bool := decide (120 < a % 128)
def tf_nf (a : Nat) : Bool := decide (a % 128 = 120)
def tf_nz (a : Nat) : Bool := decide (a % 128 = 0)
def tf_ng (a : Nat) : Bool := decide (128 ≤ a)
theorem tf_r128 : ∀ a, a < 256 → nI a - nI a / 128 * 128 = nI (a % 128) := by decide +kernel
theorem tf_p1 {c : Prop} {post : Int32 → Prop} (d : Bool) (h : c ↔ d = true) : ((c → post 1) ∧ (¬ c → post 0)) = post (tf_b d) := by
  cases d
  · have hc : ¬ c := fun z => by have := h.mp z; exact absurd this (by decide)
    exact propext ⟨fun z => z.2 hc, fun z => ⟨fun y => absurd y hc, fun _ => z⟩⟩
  · have hc : c := h.mpr rfl
    exact propext ⟨fun z => z.1 hc, fun z => ⟨fun _ => z, fun y => absurd hc y⟩⟩
theorem tf_p0 {c : Prop} {post : Int32 → Prop} (d : Bool) (h : c ↔ d = false) : ((c → post 0) ∧ (¬ c → post 1)) = post (tf_b d) := by
  cases d
  · have hc : c := h.mpr rfl
    exact propext ⟨fun z => z.1 hc, fun z => ⟨fun _ => z, fun y => absurd hc y⟩⟩
  · have hc : ¬ c := fun z => by have := h.mp z; exact absurd this (by decide)
    exact propext ⟨fun z => z.2 hc, fun z => ⟨fun y => absurd y hc, fun _ => z⟩⟩
theorem tf_nd {d : Int32} {P : Prop} (h : ¬ d = 0) : (¬ d = 0 ∧ P) = P := propext ⟨fun z => z.2, fun z => ⟨h, z⟩⟩
theorem tf_cN {a : Nat} : nI (a % 128) ≤ 120 ↔ tf_nn a = false := by
  show nI (a % 128) ≤ nI 120 ↔ _
  rw [nI_leI (by omega) (by omega)]
  unfold tf_nn
  rw [decide_eq_false_iff_not]
  omega
theorem tf_cF {a : Nat} : nI (a % 128) = 120 ↔ tf_nf a = true := by
  show nI (a % 128) = nI 120 ↔ _
  rw [nI_eq (by omega) (by omega)]
  unfold tf_nf
  rw [decide_eq_true_iff]
theorem tf_cZ {a : Nat} : nI (a % 128) = 0 ↔ tf_nz a = true := by
  show nI (a % 128) = nI 0 ↔ _
  rw [nI_eq (by omega) (by omega)]
  unfold tf_nz
  rw [decide_eq_true_iff]
theorem tf_cG {a : Nat} (ha : a < 256) : nI a < 128 ↔ tf_ng a = false := by
  show nI a < nI 128 ↔ _
  rw [nI_ltI (by omega) (by omega)]
  unfold tf_ng
  rw [decide_eq_false_iff_not]
  omega
theorem tf_cG' {a : Nat} (ha : a < 256) : nI a ≤ 127 ↔ tf_ng a = false := by
  show nI a ≤ nI 127 ↔ _
  rw [nI_leI (by omega) (by omega)]
  unfold tf_ng
  rw [decide_eq_false_iff_not]
  omega
theorem tx_isNone {post : Int32 → Prop} {a : Nat} (ha : a < 256) : wpX_isNone post (nI a) = post (tf_b (tf_nn a)) := by
  unfold wpX_isNone
  rw [tf_r128 a ha, tf_nd (by decide), tf_p0 (tf_nn a) tf_cN]
theorem tx_isInfinite {post : Int32 → Prop} {a : Nat} (ha : a < 256) : wpX_isInfinite post (nI a) = post (tf_b (tf_nf a)) := by
  unfold wpX_isInfinite
  rw [tf_r128 a ha, tf_nd (by decide), tf_p1 (tf_nf a) tf_cF]
theorem tx_isZero {post : Int32 → Prop} {a : Nat} (ha : a < 256) : wpX_isZero post (nI a) = post (tf_b (tf_nz a)) := by
  unfold wpX_isZero
  rw [tf_r128 a ha, tf_nd (by decide), tf_p1 (tf_nz a) tf_cZ]
theorem tx_isNegative {post : Int32 → Prop} {a : Nat} (ha : a < 256) : wpX_isNegative post (nI a) = post (tf_b (tf_ng a)) := by
  unfold wpX_isNegative
  rw [tf_p0 (tf_ng a) (tf_cG ha)]
theorem ty_isNone {post : Int32 → Prop} {M N H : Int32} {A : Nat → Int32} {a : Nat} (ha : a < 256) : wpY_isNone post (M, N, H, A) (nI a) = post (tf_b (tf_nn a)) := by
  unfold wpY_isNone
  dsimp only
  rw [tf_r128 a ha, tf_nd (by decide), tf_p0 (tf_nn a) tf_cN]
theorem ty_isInfinite {post : Int32 → Prop} {M N H : Int32} {A : Nat → Int32} {a : Nat} (ha : a < 256) : wpY_isInfinite post (M, N, H, A) (nI a) = post (tf_b (tf_nf a)) := by
  unfold wpY_isInfinite
  dsimp only
  rw [tf_r128 a ha, tf_nd (by decide), tf_p1 (tf_nf a) tf_cF]
theorem ty_isZero {post : Int32 → Prop} {M N H : Int32} {A : Nat → Int32} {a : Nat} (ha : a < 256) : wpY_isZero post (M, N, H, A) (nI a) = post (tf_b (tf_nz a)) := by
  unfold wpY_isZero
  dsimp only
  rw [tf_r128 a ha, tf_nd (by decide), tf_p1 (tf_nz a) tf_cZ]
theorem ty_isNegative {post : Int32 → Prop} {M N H : Int32} {A : Nat → Int32} {a : Nat} (ha : a < 256) : wpY_isNegative post (M, N, H, A) (nI a) = post (tf_b (tf_ng a)) := by
  unfold wpY_isNegative
  dsimp only
  rw [tf_p0 (tf_ng a) (tf_cG' ha)]
theorem tf_cc1 {a : Nat} (ha : a < 256) : ¬ nI a < 0 := nI_pos (by omega)
theorem tf_cc2 {a : Nat} (ha : a < 256) : ¬ 256 ≤ nI a := nI_ge (b := 256) ha (by decide)
theorem tf_cc3 {a : Nat} (ha : a < 256) : ¬ 255 < nI a := nI_nlt (a := 255) (by omega) (by decide)
theorem tx_isCode {post : Int32 → Prop} {a : Nat} (ha : a < 256) : wpX_isCode post (nI a) = post 1 := by
  unfold wpX_isCode
  exact propext ⟨fun z => (z.2 (tf_cc1 ha)).2 (tf_cc2 ha), fun z => br_f (tf_cc1 ha) (br_f (tf_cc2 ha) z)⟩
theorem ty_isCode {post : Int32 → Prop} {M N H : Int32} {A : Nat → Int32} {a : Nat} (ha : a < 256) : wpY_isCode post (M, N, H, A) (nI a) = post 1 := by
  unfold wpY_isCode
  dsimp only
  exact propext ⟨fun z => (z.2 (tf_cc1 ha)).2 (tf_cc3 ha), fun z => br_f (tf_cc1 ha) (br_f (tf_cc3 ha) z)⟩
theorem tf_code (p : Int32) : (∃ a, a < 256 ∧ p = nI a) ∨ ((∀ post : Int32 → Prop, wpX_isCode post p = post 0) ∧ (∀ (post : Int32 → Prop) (M N H : Int32) (A : Nat → Int32), wpY_isCode post (M, N, H, A) p = post 0)) := by
  by_cases h : p < 0
  · refine Or.inr ⟨fun post => ?_, fun post M N H A => ?_⟩
    · exact propext ⟨fun z => z.1 h, fun z => br_t h z⟩
    · exact propext ⟨fun z => z.1 h, fun z => br_t h z⟩
  · obtain ⟨a, ha, rfl⟩ := nI_of h
    by_cases h2 : a < 256
    · exact Or.inl ⟨a, h2, rfl⟩
    · have h3 : 256 ≤ nI a := nI_le (a := 256) (by omega) ha
      have h4 : 255 < nI a := nI_lt (a := 255) (by omega) ha
      refine Or.inr ⟨fun post => ?_, fun post M N H A => ?_⟩
      · exact propext ⟨fun z => (z.2 h).1 h3, fun z => br_f h (br_t h3 z)⟩
      · exact propext ⟨fun z => (z.2 h).1 h4, fun z => br_f h (br_t h4 z)⟩
theorem tf_s1 : ∀ a, a < 256 → nI a / 8 - nI a / 8 / 16 * 16 = nI (a / 8 % 16) := by decide +kernel
theorem tf_s2 : ∀ a, a < 256 → nI a - nI a / 8 * 8 = nI (a % 8) := by decide +kernel
theorem tf_s3 : ∀ a, a < 256 → a / 8 % 16 = 0 → (nI (a % 8)).toInt64 = lN (tf_sz (a % 128)) := by decide +kernel
theorem tf_s4 : ∀ a, a < 256 → ¬ a / 8 % 16 = 0 → (8 + (nI (a % 8)).toInt64) <<< ((nI (a / 8 % 16) - 1).toInt64 &&& 63) = lN (tf_sz (a % 128)) := by decide +kernel
theorem tx_size {post : Int64 → Prop} {a : Nat} (ha : a < 256) : wpX_size post (nI a) = post (lN (tf_sz (a % 128))) := by
  unfold wpX_size
  rw [tf_s1 a ha, tf_s2 a ha, tf_nd (by decide), tf_nd (by decide), forall_eq, tf_nd (by decide), forall_eq]
  by_cases h : a / 8 % 16 = 0
  · have e : nI (a / 8 % 16) = 0 := by rw [h]; rfl
    rw [← tf_s3 a ha h]
    exact propext ⟨fun z => z.1 e, fun z => br_t e z⟩
  · have e : ¬ nI (a / 8 % 16) = 0 := nI_ne0 (by omega) (by omega)
    rw [← tf_s4 a ha h]
    exact propext ⟨fun z => z.2 e, fun z => br_f e z⟩
theorem tf_b0 : tf_b false = 0 := rfl
theorem tf_b1 : ¬ tf_b true = 0 := by decide
theorem tf_br {A B : Prop} (b : Bool) : ((tf_b b = 0 → A) ∧ (¬ tf_b b = 0 → B)) = cond b B A := by
  cases b
  · exact propext ⟨fun z => z.1 rfl, fun z => br_t rfl z⟩
  · exact propext ⟨fun z => z.2 tf_b1, fun z => br_f tf_b1 z⟩
theorem tx_signed {post : Int32 → Prop} {c : Nat} {ng : Bool} : wpX_signed post (nI c) (tf_b ng) = post (nI (tf_sg ng c)) := by
  unfold wpX_signed
  rw [tf_br]
  cases ng
  · rfl
  · show post (nI c + nI 128) = post (nI (128 + c))
    rw [nI_add, Nat.add_comm]
theorem ty_signed {post : Int32 → Prop} {M N H : Int32} {A : Nat → Int32} {c : Nat} {ng : Bool} : wpY_signed post (M, N, H, A) (nI c) (tf_b ng) = post (nI (tf_sg ng c)) := by
  unfold wpY_signed
  dsimp only
  rw [tf_br]
  cases ng
  · rfl
  · show post (nI 128 + nI c) = post (nI (128 + c))
    rw [nI_add]
theorem tf_m4 {P : Nat → Prop} (h0 : P 0) (h1 : P 1) (h2 : P 2) (h3 : P 3) {m : Nat} (hm : m < 4) : P m := by
  match m, hm with
  | 0, _ => exact h0
  | 1, _ => exact h1
  | 2, _ => exact h2
  | 3, _ => exact h3
theorem tf_mE {m q : Nat} (hm : m < 4) (hq : q < 4) : nI m = nI q ↔ m = q := nI_eq (by omega) (by omega)
theorem tf_ift {c A B : Prop} (h : c) : ((c → A) ∧ (¬ c → B)) = A := propext ⟨fun z => z.1 h, fun z => br_t h z⟩
theorem tf_iff {c A B : Prop} (h : ¬ c) : ((c → A) ∧ (¬ c → B)) = B := propext ⟨fun z => z.2 h, fun z => br_f h z⟩
theorem tx_aw {post : Int32 → Prop} {N H : Int32} {m : Nat} {ng : Bool} (hm : m < 4) : wpX_isAwayFromZero post (nI m, N, H) (tf_b ng) = post (tf_b (tf_aw m ng)) := by
  unfold wpX_isAwayFromZero wX_isAwayFromZero_13
  dsimp only
  rw [tf_br]
  cases ng
  · show ((nI m = nI 2 → post 1) ∧ (¬ nI m = nI 2 → post 0)) = _
    rw [tf_p1 (decide (m = 2)) (by rw [tf_mE hm (by decide), decide_eq_true_iff])]
    unfold tf_aw
    rw [Bool.not_false, Bool.and_true, Bool.and_false, Bool.or_false]
  · show ((nI m = nI 3 → post 1) ∧ (¬ nI m = nI 3 → post 0)) = _
    rw [tf_p1 (decide (m = 3)) (by rw [tf_mE hm (by decide), decide_eq_true_iff])]
    unfold tf_aw
    rw [Bool.not_true, Bool.and_false, Bool.and_true, Bool.false_or]
theorem ty_goesUp {post : Int32 → Prop} {N H : Int32} {A : Nat → Int32} {m : Nat} {ng : Bool} (hm : m < 4) : wpY_goesUp post (nI m, N, H, A) (tf_b ng) = post (tf_b (tf_aw m ng)) := by
  unfold wpY_goesUp wY_goesUp_12
  dsimp only
  rw [tf_br, tf_br]
  by_cases h2 : m = 2
  · subst h2
    rw [tf_ift (show nI 2 = 2 from rfl), tf_iff (show ¬ nI 2 = 3 by decide)]
    cases ng <;> rfl
  · rw [tf_iff (show ¬ nI m = 2 from fun z => h2 ((tf_mE hm (by decide)).mp z))]
    by_cases h3 : m = 3
    · subst h3
      rw [tf_ift (show nI 3 = 3 from rfl)]
      cases ng <;> rfl
    · rw [tf_iff (show ¬ nI m = 3 from fun z => h3 ((tf_mE hm (by decide)).mp z))]
      unfold tf_aw
      rw [decide_eq_false h2, decide_eq_false h3]
      rfl
