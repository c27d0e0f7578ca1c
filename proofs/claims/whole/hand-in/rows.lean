section
/-! rows of kit/rows, pasted -/
theorem pk_us {f : Nat → Int32} {k : Nat} {x : Int32} : upd f k x k = x := if_pos rfl
theorem pk_un {f : Nat → Int32} {k j : Nat} {x : Int32} (h : j ≠ k) : upd f k x j = f j := if_neg h
theorem pk_sub {a b : Nat} (h : b ≤ a) : nI a - nI b = nI (a - b) := by
  obtain ⟨c, rfl⟩ : ∃ c, a = c + b := ⟨a - b, by omega⟩
  rw [← nI_add, Int32.add_sub_cancel, Nat.add_sub_cancel]
theorem pk_m1 (n : Nat) : nI (n + 1) + (-1) = nI n := by
  rw [← nI_1, Int32.add_assoc, show (1 : Int32) + (-1) = 0 from rfl, Int32.add_zero]
theorem pk_mul (a b : Nat) : nI a * nI b = nI (a * b) := (Int32.ofNat_mul a b).symm
theorem pk_div {a d : Nat} (ha : a < 2 ^ 31) (h0 : 0 < d) (hd : d < 2 ^ 31) : nI a / nI d = nI (a / d) := by
  apply Int32.toInt_inj.mp
  rw [lg_idiv_nonneg (by rw [nI_toInt ha]; omega) (by rw [nI_toInt hd]; omega), nI_toInt ha, nI_toInt hd, nI_toInt (Nat.lt_of_le_of_lt (Nat.div_le_self a d) ha)]
  first | rfl | exact (Int.natCast_ediv _ _).symm
theorem pk_rem {a d : Nat} (ha : a < 2 ^ 31) (h0 : 0 < d) (hd : d < 2 ^ 31) : nI a - nI a / nI d * nI d = nI (a % d) := by
  rw [pk_div ha h0 hd, pk_mul, pk_sub (Nat.div_mul_le_self a d)]
  exact congrArg nI (by have := Nat.div_add_mod' a d; omega)
theorem pk_tn {n : Nat} (h : n < 2 ^ 32) : (nI n).toBitVec.toNat = n := Nat.mod_eq_of_lt h
theorem pk_shl (a s : Int32) (k : Nat) (hs : (s.toBitVec.smod 32).toNat = k) : (a <<< s).toBitVec.toNat = a.toBitVec.toNat * 2 ^ k % 2 ^ 32 := by
  show (a.toBitVec <<< (s.toBitVec.smod 32).toNat).toNat = _
  rw [hs, BitVec.toNat_shiftLeft, Nat.shiftLeft_eq]
theorem pk_shlN {n : Nat} (s : Int32) (k : Nat) (hs : (s.toBitVec.smod 32).toNat = k) (h : n * 2 ^ k < 2 ^ 32) : nI n <<< s = nI (n * 2 ^ k) := by
  apply Int32.toBitVec_inj.mp
  apply BitVec.eq_of_toNat_eq
  have hn : n < 2 ^ 32 := Nat.lt_of_le_of_lt (Nat.le_mul_of_pos_right n (Nat.two_pow_pos k)) h
  rw [pk_shl _ _ k hs, pk_tn hn, pk_tn h, Nat.mod_eq_of_lt h]
theorem pk_lT {n : Nat} (h : n < 2 ^ 63) : (lN n).toInt = (n : Int) := lg_ofNat_toInt h
theorem pk_lLT {a b : Nat} (ha : a < 2 ^ 63) (hb : b < 2 ^ 63) : lN a < lN b ↔ a < b := by
  rw [Int64.lt_iff_toInt_lt, pk_lT ha, pk_lT hb]; omega
theorem pk_lLE {a b : Nat} (ha : a < 2 ^ 63) (hb : b < 2 ^ 63) : lN a ≤ lN b ↔ a ≤ b := by
  rw [Int64.le_iff_toInt_le, pk_lT ha, pk_lT hb]; omega
theorem pk_lEQ {a b : Nat} (ha : a < 2 ^ 63) (hb : b < 2 ^ 63) : lN a = lN b ↔ a = b := by
  rw [← Int64.toInt_inj, pk_lT ha, pk_lT hb]; omega
theorem pk_lDiv {a b : Nat} (ha : a < 2 ^ 63) (h0 : 0 < b) (hb : b < 2 ^ 63) : lN a / lN b = lN (a / b) := by
  apply Int64.toInt_inj.mp
  rw [lg_ldiv_nonneg (by rw [pk_lT ha]; omega) (by rw [pk_lT hb]; omega), pk_lT ha, pk_lT hb, pk_lT (Nat.lt_of_le_of_lt (Nat.div_le_self a b) ha)]
  rfl
theorem pk_lRem {a b : Nat} (ha : a < 2 ^ 63) (h0 : 0 < b) (hb : b < 2 ^ 63) : lN a - lN a / lN b * lN b = lN (a % b) := by
  rw [pk_lDiv ha h0 hb, lN_mul, lN_sub (Nat.div_mul_le_self a b)]
  exact congrArg lN (by have := Nat.div_add_mod' a b; omega)
theorem wb_tb (n : Nat) : (lN n).toBitVec = BitVec.ofNat 64 n := rfl
theorem wb_inj {a b : Int64} (h : a.toBitVec = b.toBitVec) : a = b := Int64.toBitVec_inj.mp h
theorem wb_tn {n : Nat} (h : n < 2 ^ 64) : (lN n).toBitVec.toNat = n := by rw [wb_tb, BitVec.toNat_ofNat, Nat.mod_eq_of_lt h]
theorem wb_c : ∀ k, k < 64 → ((nI k).toInt64 &&& 63) = lN k := by decide +kernel
theorem wb_sm : ∀ k, k < 64 → (BitVec.ofNat 64 k).smod 64 = BitVec.ofNat 64 k := by decide +kernel
theorem wb_shl (n : Nat) {k : Nat} (hk : k < 64) : lN n <<< ((nI k).toInt64 &&& 63) = lN (n * 2 ^ k) := by
  rw [wb_c k hk]
  apply wb_inj
  rw [Int64.toBitVec_shiftLeft, wb_tb, wb_tb, wb_tb, wb_sm k hk]
  apply BitVec.eq_of_toNat_eq
  rw [BitVec.shiftLeft_eq', BitVec.toNat_shiftLeft, BitVec.toNat_ofNat, BitVec.toNat_ofNat, BitVec.toNat_ofNat, Nat.mod_eq_of_lt (show k < 2 ^ 64 by omega), Nat.shiftLeft_eq, Nat.mul_mod, Nat.mod_mod, ← Nat.mul_mod]
theorem pf_lI {a : Nat} (h : a < 2 ^ 63) : (lN a).toInt = (a : Int) := lg_ofNat_toInt h
theorem pf_shr {a d : Nat} {D : Int64} (hD : (D.toBitVec.smod 64).toNat = d) (h : a < 2 ^ 62) : lN a >>> D = lN (a / 2 ^ d) := by
  have hd : a / 2 ^ d ≤ a := Nat.div_le_self _ _
  apply Int64.toInt_inj.mp
  have e : (lN a >>> D).toInt = (lN a).toInt >>> d := by
    rw [← hD]
    exact BitVec.toInt_sshiftRight ..
  rw [e, Int.shiftRight_eq_div_pow, pf_lI (by omega), pf_lI (by omega)]
  rfl
theorem nx_xor (a b : Nat) : nI a ^^^ nI b = nI (a ^^^ b) := by
  apply Int32.toBitVec_inj.1
  show BitVec.ofNat 32 a ^^^ BitVec.ofNat 32 b = BitVec.ofNat 32 (a ^^^ b)
  apply BitVec.eq_of_getLsbD_eq
  intro i hi
  simp [hi]
end
section
/-! the sizes of the codes, and one picture of rounding -/
def tf_b (b : Bool) : Int32 := cond b 1 0
theorem tf_bt : tf_b true = 1 := rfl
theorem tf_bf : tf_b false = 0 := rfl
def tf_sz (c : Nat) : Nat := if c < 8 then c else (8 + c % 8) * 2 ^ (c / 8 - 1)
theorem tf_szA {s k : Nat} (hk : k < 16) (h : s = 0 ∨ 8 ≤ k) : tf_sz (8 * s + k) = k * 2 ^ s := by
  unfold tf_sz
  by_cases h8 : k < 8
  · have hs : s = 0 := by omega
    subst hs
    rw [if_pos (by omega), Nat.pow_zero]
    omega
  · have e1 : (8 * s + k) / 8 - 1 = s := by omega
    have e2 : 8 + (8 * s + k) % 8 = k := by omega
    rw [if_neg (by omega), e1, e2]
theorem tf_szB {s k : Nat} (hk : k < 16) (h : s = 0 ∨ 8 ≤ k) : tf_sz (8 * s + k + 1) = (k + 1) * 2 ^ s := by
  by_cases h15 : k < 15
  · exact tf_szA (s := s) (k := k + 1) (by omega) (by omega)
  · have e15 : k = 15 := by omega
    subst e15
    have e := tf_szA (s := s + 1) (k := 8) (by omega) (Or.inr (by omega))
    rw [show 8 * s + 15 + 1 = 8 * (s + 1) + 8 by omega, e, Nat.pow_succ]
    generalize 2 ^ s = P
    omega
theorem tf_dec (c : Nat) : ∃ s k : Nat, c = 8 * s + k ∧ k < 16 ∧ (s = 0 ∨ 8 ≤ k) := by
  by_cases h : c < 8
  · exact ⟨0, c, by omega, by omega, Or.inl rfl⟩
  · exact ⟨c / 8 - 1, 8 + c % 8, by omega, by omega, by omega⟩
theorem tf_szs (c : Nat) : tf_sz c < tf_sz (c + 1) := by
  obtain ⟨s, k, rfl, h1, h2⟩ := tf_dec c
  rw [tf_szA h1 h2, tf_szB h1 h2, Nat.succ_mul]
  have := Nat.two_pow_pos s
  omega
theorem tf_szm {a b : Nat} (h : a ≤ b) : tf_sz a ≤ tf_sz b := by
  induction h with
  | refl => exact Nat.le_refl _
  | step _ ih => exact Nat.le_trans ih (Nat.le_of_lt (tf_szs _))
theorem tf_sz0 : tf_sz 0 = 0 := by decide
theorem tf_sz119 : tf_sz 119 = 122880 := by decide
theorem tf_sz120 : tf_sz 120 = 131072 := by decide
theorem tf_szb {c : Nat} (h : c ≤ 120) : tf_sz c ≤ 131072 := by
  have := tf_szm h
  rw [tf_sz120] at this
  exact this
theorem tf_szp {c : Nat} (h : 0 < c) : 0 < tf_sz c := by
  have h1 := tf_szm (show 1 ≤ c from h)
  have h2 : tf_sz 1 = 1 := by decide
  omega
/-- c is the greatest code up to 119 whose size is not above f (f in 512th parts) -/
def tf_RS (c f : Nat) : Prop := c ≤ 119 ∧ 512 * tf_sz c ≤ f ∧ (c < 119 → f < 512 * tf_sz (c + 1))
theorem tf_RSlt {c d f : Nat} (h : tf_RS c f) (h' : tf_RS d f) : ¬ c < d := by
  intro hl
  have h1 := h.2.2 (by have := h'.1; omega)
  have h2 := tf_szm (show c + 1 ≤ d from hl)
  have h3 := h'.2.1
  omega
theorem tf_RSu {c d f : Nat} (h : tf_RS c f) (h' : tf_RS d f) : c = d := by
  have h1 := tf_RSlt h h'
  have h2 := tf_RSlt h' h
  omega
theorem tf_RSi (f : Nat) : ∀ d c : Nat, c + d = 119 → 512 * tf_sz c ≤ f → ∃ e, tf_RS e f := by
  intro d
  induction d with
  | zero =>
    intro c hc h
    exact ⟨c, by omega, h, fun z => by omega⟩
  | succ d ih =>
    intro c hc h
    by_cases h1 : 512 * tf_sz (c + 1) ≤ f
    · exact ih (c + 1) (by omega) h1
    · exact ⟨c, by omega, h, fun _ => by omega⟩
theorem tf_RSe (f : Nat) : ∃ c, tf_RS c f := tf_RSi f 119 0 rfl (by rw [tf_sz0]; omega)
def tf_aw (m : Nat) (ng : Bool) : Bool := (decide (m = 2) && !ng) || (decide (m = 3) && ng)
def tf_up (m : Nat) (g e : Bool) (c : Nat) (ng : Bool) : Bool := if m = 0 then g || (e && decide (c % 2 = 1)) else tf_aw m ng
def tf_cc (up ex : Bool) (c : Nat) : Nat := if (up && !ex) = true then c + 1 else c
def tf_cn1 (n : Int32) (ex : Bool) (d : Nat) : Int32 := if (!ex || decide (d = 120)) = true then n ||| 1 else n
def tf_cn (n : Int32) (ex gr : Bool) (d : Nat) : Int32 := if (decide (d = 120) || gr) = true then tf_cn1 n ex d ||| 2 else tf_cn1 n ex d
def tf_sg (ng : Bool) (d : Nat) : Nat := cond ng (128 + d) d
theorem tf_ccb {up ex : Bool} {c : Nat} (h : c ≤ 119) : tf_cc up ex c ≤ 120 := by
  unfold tf_cc
  split <;> omega
theorem tf_sgb {ng : Bool} {d : Nat} (h : d ≤ 120) : tf_sg ng d < 256 := by
  cases ng
  · show d < 256; omega
  · show 128 + d < 256; omega
def tf_g (c f : Nat) (mo : Bool) : Bool := decide (256 * (tf_sz c + tf_sz (c + 1)) < f) || (decide (f = 256 * (tf_sz c + tf_sz (c + 1))) && mo)
def tf_e (c f : Nat) (mo : Bool) : Bool := decide (f = 256 * (tf_sz c + tf_sz (c + 1))) && !mo
def tf_ex (c f : Nat) (mo : Bool) : Bool := decide (f = 512 * tf_sz c) && !mo
def tf_gr (f : Nat) : Bool := decide (512 * tf_sz 120 ≤ f)
/-- the code without its sign -/
def tf_rc (m c f : Nat) (mo ng : Bool) : Nat := tf_cc (tf_up m (tf_g c f mo) (tf_e c f mo) c ng) (tf_ex c f mo) c
def tf_ra (m c f : Nat) (mo ng : Bool) : Nat := tf_sg ng (tf_rc m c f mo ng)
def tf_rn (n : Int32) (m c f : Nat) (mo ng : Bool) : Int32 := tf_cn n (tf_ex c f mo) (tf_gr f) (tf_rc m c f mo ng)
theorem tf_rab {m c f : Nat} {mo ng : Bool} (h : c ≤ 119) : tf_ra m c f mo ng < 256 := tf_sgb (tf_ccb h)
/-- the class's step: l is left of 2 h, k is kept -/
def tf_su (m : Nat) (aw : Bool) (k l h : Nat) (mo : Bool) : Bool := (!decide (l = 0) || mo) && (if m = 0 then decide (h < l) || (decide (l = h) && (mo || decide (k % 2 = 1))) else aw)
def tf_xd (m S k l h : Nat) (mo ng : Bool) : Nat := 8 * S + k + cond (tf_su m (tf_aw m ng) k l h mo) 1 0
def tf_xc (m : Nat) (aw : Bool) (d : Nat) : Nat := if 119 < d then (if (aw || decide (m = 0)) = true then 120 else 119) else d
def tf_xn1 (n : Int32) (ex : Bool) (d : Nat) : Int32 := if (!ex || decide (119 < d)) = true then n ||| 1 else n
def tf_xn (n : Int32) (ex : Bool) (d : Nat) : Int32 := if 119 < d then tf_xn1 n ex d ||| 2 else tf_xn1 n ex d
theorem tf_meet {m c f S k l : Nat} {mo ng : Bool} (n : Int32) (h : tf_RS c f) (hk : k < 16) (hs : S = 0 ∨ 8 ≤ k) (hf : f = 512 * (k * 2 ^ S) + l) (hl : l < 512 * 2 ^ S) : tf_xc m (tf_aw m ng) (tf_xd m S k l (256 * 2 ^ S) mo ng) = tf_rc m c f mo ng ∧ tf_xn n (decide (l = 0) && !mo) (tf_xd m S k l (256 * 2 ^ S) mo ng) = tf_rn n m c f mo ng := by
  have a1 := tf_szA hk hs
  have a2 := tf_szB hk hs
  rw [show (k + 1) * 2 ^ S = k * 2 ^ S + 2 ^ S from Nat.succ_mul k _] at a2
  by_cases hc : 8 * S + k ≤ 119
  · have e : c = 8 * S + k := tf_RSu h ⟨hc, by rw [a1]; omega, fun _ => by rw [a2]; omega⟩
    subst e
    have hm := tf_szm (show 8 * S + k + 1 ≤ 120 by omega)
    have e1 : tf_ex (8 * S + k) f mo = (decide (l = 0) && !mo) := by
      unfold tf_ex
      rw [a1]
      congr 1
      exact decide_eq_decide.mpr (by omega)
    have e2 : tf_g (8 * S + k) f mo = (decide (256 * 2 ^ S < l) || (decide (l = 256 * 2 ^ S) && mo)) := by
      unfold tf_g
      rw [a1, a2]
      congr 1
      · exact decide_eq_decide.mpr (by omega)
      · congr 1
        exact decide_eq_decide.mpr (by omega)
    have e3 : tf_e (8 * S + k) f mo = (decide (l = 256 * 2 ^ S) && !mo) := by
      unfold tf_e
      rw [a1, a2]
      congr 1
      exact decide_eq_decide.mpr (by omega)
    have e4 : tf_gr f = false := by
      unfold tf_gr
      exact decide_eq_false (by omega)
    have e5 : (8 * S + k) % 2 = k % 2 := by omega
    have e6 : tf_su m (tf_aw m ng) k l (256 * 2 ^ S) mo = (tf_up m (tf_g (8 * S + k) f mo) (tf_e (8 * S + k) f mo) (8 * S + k) ng && !tf_ex (8 * S + k) f mo) := by
      unfold tf_su tf_up
      rw [e1, e2, e3, e5]
      have hP := Nat.two_pow_pos S
      by_cases h0 : m = 0
      · rw [if_pos h0, if_pos h0]
        generalize decide (k % 2 = 1) = o
        by_cases l0 : l = 0
        · have x1 : decide (256 * 2 ^ S < l) = false := decide_eq_false (by omega)
          have x2 : decide (l = 256 * 2 ^ S) = false := decide_eq_false (by omega)
          rw [x1, x2]
          cases mo <;> cases o <;> simp
        · rw [decide_eq_false l0]
          cases mo <;> cases o <;> simp
      · rw [if_neg h0, if_neg h0]
        generalize tf_aw m ng = w
        generalize decide (l = 0) = z
        cases z <;> cases mo <;> cases w <;> rfl
    have e7 : tf_rc m (8 * S + k) f mo ng = tf_xd m S k l (256 * 2 ^ S) mo ng := by
      unfold tf_rc tf_xd tf_cc
      rw [← e6]
      cases tf_su m (tf_aw m ng) k l (256 * 2 ^ S) mo <;> rfl
    unfold tf_rn tf_cn tf_cn1
    rw [e7, e1, e4]
    unfold tf_xn tf_xn1
    have hd : tf_xd m S k l (256 * 2 ^ S) mo ng ≤ 120 := by
      rw [← e7]
      exact tf_ccb hc
    by_cases h9 : 119 < tf_xd m S k l (256 * 2 ^ S) mo ng
    · have h10 : tf_xd m S k l (256 * 2 ^ S) mo ng = 120 := by omega
      have h11 : tf_su m (tf_aw m ng) k l (256 * 2 ^ S) mo = true := by
        cases hu : tf_su m (tf_aw m ng) k l (256 * 2 ^ S) mo
        · rw [tf_xd, hu] at h10
          exact absurd h10 (by show ¬ 8 * S + k + 0 = 120; omega)
        · rfl
      have h12 : (tf_aw m ng || decide (m = 0)) = true := by
        by_cases h0 : m = 0
        · rw [decide_eq_true h0, Bool.or_true]
        · unfold tf_su at h11
          rw [if_neg h0] at h11
          rw [(Bool.and_eq_true_iff.mp h11).2, Bool.true_or]
      unfold tf_xc
      rw [if_pos h9, if_pos h12, h10]
      refine ⟨rfl, ?_⟩
      simp
    · have h10 : ¬ tf_xd m S k l (256 * 2 ^ S) mo ng = 120 := by omega
      unfold tf_xc
      rw [if_neg h9]
      refine ⟨rfl, ?_⟩
      simp [h9, h10]
  · have hm := tf_szm (show 120 ≤ 8 * S + k by omega)
    have b0 := tf_sz119
    have b1 := tf_sz120
    have e : c = 119 := tf_RSu h ⟨by omega, by omega, fun z => absurd z (by omega)⟩
    subst e
    have e1 : tf_ex 119 f mo = false := by
      unfold tf_ex
      rw [decide_eq_false (by omega)]
      rfl
    have e2 : tf_g 119 f mo = true := by
      unfold tf_g
      rw [decide_eq_true (by show 256 * (tf_sz 119 + tf_sz 120) < f; omega)]
      rfl
    have e4 : tf_gr f = true := by
      unfold tf_gr
      exact decide_eq_true (by omega)
    have h9 : 119 < tf_xd m S k l (256 * 2 ^ S) mo ng := by
      unfold tf_xd
      omega
    have e6 : tf_rc m 119 f mo ng = tf_xc m (tf_aw m ng) (tf_xd m S k l (256 * 2 ^ S) mo ng) := by
      unfold tf_rc tf_cc tf_up tf_xc
      rw [if_pos h9, e1, e2]
      by_cases h0 : m = 0
      · rw [if_pos h0, decide_eq_true h0]
        simp
      · rw [if_neg h0, decide_eq_false h0]
        cases tf_aw m ng <;> rfl
    refine ⟨e6.symm, ?_⟩
    unfold tf_rn tf_cn tf_cn1 tf_xn tf_xn1
    rw [e1, e4, if_pos h9]
    simp [h9]
end
section
/-! small predicates on both sides, over naturals -/
def tf_nn (a : Nat) : Bool := decide (120 < a % 128)
def tf_nf (a : Nat) : Bool := decide (a % 128 = 120)
def tf_nz (a : Nat) : Bool := decide (a % 128 = 0)
def tf_ng (a : Nat) : Bool := decide (128 ≤ a)
theorem tf_r128 : ∀ a, a < 256 → nI a - nI a / 128 * 128 = nI (a % 128) := by decide +kernel
theorem tf_p1 {c : Prop} {post : Int32 → Prop} (d : Bool) (h : c ↔ d = true) : ((c → post 1) ∧ (¬ c → post 0)) = post (tf_b d) := by
  cases d
  · have hc : ¬ c := fun z => by have := h.mp z; exact absurd this (by decide)
    exact propext ⟨fun z => z.2 hc, fun z => ⟨fun y => absurd y hc, fun _ => z⟩⟩
  · have hc : c := h.mpr rfl
    exact propext ⟨fun z => z.1 hc, fun z => ⟨fun _ => z, fun y => absurd hc y⟩⟩
theorem tf_p0 {c : Prop} {post : Int32 → Prop} (d : Bool) (h : c ↔ d = false) : ((c → post 0) ∧ (¬ c → post 1)) = post (tf_b d) := by
  cases d
  · have hc : c := h.mpr rfl
    exact propext ⟨fun z => z.1 hc, fun z => ⟨fun _ => z, fun y => absurd hc y⟩⟩
  · have hc : ¬ c := fun z => by have := h.mp z; exact absurd this (by decide)
    exact propext ⟨fun z => z.2 hc, fun z => ⟨fun y => absurd y hc, fun _ => z⟩⟩
theorem tf_nd {d : Int32} {P : Prop} (h : ¬ d = 0) : (¬ d = 0 ∧ P) = P := propext ⟨fun z => z.2, fun z => ⟨h, z⟩⟩
theorem tf_cN {a : Nat} : nI (a % 128) ≤ 120 ↔ tf_nn a = false := by
  show nI (a % 128) ≤ nI 120 ↔ _
  rw [nI_leI (by omega) (by omega)]
  unfold tf_nn
  rw [decide_eq_false_iff_not]
  omega
theorem tf_cF {a : Nat} : nI (a % 128) = 120 ↔ tf_nf a = true := by
  show nI (a % 128) = nI 120 ↔ _
  rw [nI_eq (by omega) (by omega)]
  unfold tf_nf
  rw [decide_eq_true_iff]
theorem tf_cZ {a : Nat} : nI (a % 128) = 0 ↔ tf_nz a = true := by
  show nI (a % 128) = nI 0 ↔ _
  rw [nI_eq (by omega) (by omega)]
  unfold tf_nz
  rw [decide_eq_true_iff]
theorem tf_cG {a : Nat} (ha : a < 256) : nI a < 128 ↔ tf_ng a = false := by
  show nI a < nI 128 ↔ _
  rw [nI_ltI (by omega) (by omega)]
  unfold tf_ng
  rw [decide_eq_false_iff_not]
  omega
theorem tf_cG' {a : Nat} (ha : a < 256) : nI a ≤ 127 ↔ tf_ng a = false := by
  show nI a ≤ nI 127 ↔ _
  rw [nI_leI (by omega) (by omega)]
  unfold tf_ng
  rw [decide_eq_false_iff_not]
  omega
theorem tx_isNone {post : Int32 → Prop} {a : Nat} (ha : a < 256) : wpX_isNone post (nI a) = post (tf_b (tf_nn a)) := by
  unfold wpX_isNone
  rw [tf_r128 a ha, tf_nd (by decide), tf_p0 (tf_nn a) tf_cN]
theorem tx_isInfinite {post : Int32 → Prop} {a : Nat} (ha : a < 256) : wpX_isInfinite post (nI a) = post (tf_b (tf_nf a)) := by
  unfold wpX_isInfinite
  rw [tf_r128 a ha, tf_nd (by decide), tf_p1 (tf_nf a) tf_cF]
theorem tx_isZero {post : Int32 → Prop} {a : Nat} (ha : a < 256) : wpX_isZero post (nI a) = post (tf_b (tf_nz a)) := by
  unfold wpX_isZero
  rw [tf_r128 a ha, tf_nd (by decide), tf_p1 (tf_nz a) tf_cZ]
theorem tx_isNegative {post : Int32 → Prop} {a : Nat} (ha : a < 256) : wpX_isNegative post (nI a) = post (tf_b (tf_ng a)) := by
  unfold wpX_isNegative
  rw [tf_p0 (tf_ng a) (tf_cG ha)]
theorem ty_isNone {post : Int32 → Prop} {M N H : Int32} {A : Nat → Int32} {a : Nat} (ha : a < 256) : wpY_isNone post (M, N, H, A) (nI a) = post (tf_b (tf_nn a)) := by
  unfold wpY_isNone
  dsimp only
  rw [tf_r128 a ha, tf_nd (by decide), tf_p0 (tf_nn a) tf_cN]
theorem ty_isInfinite {post : Int32 → Prop} {M N H : Int32} {A : Nat → Int32} {a : Nat} (ha : a < 256) : wpY_isInfinite post (M, N, H, A) (nI a) = post (tf_b (tf_nf a)) := by
  unfold wpY_isInfinite
  dsimp only
  rw [tf_r128 a ha, tf_nd (by decide), tf_p1 (tf_nf a) tf_cF]
theorem ty_isZero {post : Int32 → Prop} {M N H : Int32} {A : Nat → Int32} {a : Nat} (ha : a < 256) : wpY_isZero post (M, N, H, A) (nI a) = post (tf_b (tf_nz a)) := by
  unfold wpY_isZero
  dsimp only
  rw [tf_r128 a ha, tf_nd (by decide), tf_p1 (tf_nz a) tf_cZ]
theorem ty_isNegative {post : Int32 → Prop} {M N H : Int32} {A : Nat → Int32} {a : Nat} (ha : a < 256) : wpY_isNegative post (M, N, H, A) (nI a) = post (tf_b (tf_ng a)) := by
  unfold wpY_isNegative
  dsimp only
  rw [tf_p0 (tf_ng a) (tf_cG' ha)]
theorem tf_cc1 {a : Nat} (ha : a < 256) : ¬ nI a < 0 := nI_pos (by omega)
theorem tf_cc2 {a : Nat} (ha : a < 256) : ¬ 256 ≤ nI a := nI_ge (b := 256) ha (by decide)
theorem tf_cc3 {a : Nat} (ha : a < 256) : ¬ 255 < nI a := nI_nlt (a := 255) (by omega) (by decide)
theorem tx_isCode {post : Int32 → Prop} {a : Nat} (ha : a < 256) : wpX_isCode post (nI a) = post 1 := by
  unfold wpX_isCode
  exact propext ⟨fun z => (z.2 (tf_cc1 ha)).2 (tf_cc2 ha), fun z => br_f (tf_cc1 ha) (br_f (tf_cc2 ha) z)⟩
theorem ty_isCode {post : Int32 → Prop} {M N H : Int32} {A : Nat → Int32} {a : Nat} (ha : a < 256) : wpY_isCode post (M, N, H, A) (nI a) = post 1 := by
  unfold wpY_isCode
  dsimp only
  exact propext ⟨fun z => (z.2 (tf_cc1 ha)).2 (tf_cc3 ha), fun z => br_f (tf_cc1 ha) (br_f (tf_cc3 ha) z)⟩
theorem tf_code (p : Int32) : (∃ a, a < 256 ∧ p = nI a) ∨ ((∀ post : Int32 → Prop, wpX_isCode post p = post 0) ∧ (∀ (post : Int32 → Prop) (M N H : Int32) (A : Nat → Int32), wpY_isCode post (M, N, H, A) p = post 0)) := by
  by_cases h : p < 0
  · refine Or.inr ⟨fun post => ?_, fun post M N H A => ?_⟩
    · exact propext ⟨fun z => z.1 h, fun z => br_t h z⟩
    · exact propext ⟨fun z => z.1 h, fun z => br_t h z⟩
  · obtain ⟨a, ha, rfl⟩ := nI_of h
    by_cases h2 : a < 256
    · exact Or.inl ⟨a, h2, rfl⟩
    · have h3 : 256 ≤ nI a := nI_le (a := 256) (by omega) ha
      have h4 : 255 < nI a := nI_lt (a := 255) (by omega) ha
      refine Or.inr ⟨fun post => ?_, fun post M N H A => ?_⟩
      · exact propext ⟨fun z => (z.2 h).1 h3, fun z => br_f h (br_t h3 z)⟩
      · exact propext ⟨fun z => (z.2 h).1 h4, fun z => br_f h (br_t h4 z)⟩
theorem tf_s1 : ∀ a, a < 256 → nI a / 8 - nI a / 8 / 16 * 16 = nI (a / 8 % 16) := by decide +kernel
theorem tf_s2 : ∀ a, a < 256 → nI a - nI a / 8 * 8 = nI (a % 8) := by decide +kernel
theorem tf_s3 : ∀ a, a < 256 → a / 8 % 16 = 0 → (nI (a % 8)).toInt64 = lN (tf_sz (a % 128)) := by decide +kernel
theorem tf_s4 : ∀ a, a < 256 → ¬ a / 8 % 16 = 0 → (8 + (nI (a % 8)).toInt64) <<< ((nI (a / 8 % 16) - 1).toInt64 &&& 63) = lN (tf_sz (a % 128)) := by decide +kernel
theorem tx_size {post : Int64 → Prop} {a : Nat} (ha : a < 256) : wpX_size post (nI a) = post (lN (tf_sz (a % 128))) := by
  unfold wpX_size
  rw [tf_s1 a ha, tf_s2 a ha, tf_nd (by decide), tf_nd (by decide), forall_eq, tf_nd (by decide), forall_eq]
  by_cases h : a / 8 % 16 = 0
  · have e : nI (a / 8 % 16) = 0 := by rw [h]; rfl
    rw [← tf_s3 a ha h]
    exact propext ⟨fun z => z.1 e, fun z => br_t e z⟩
  · have e : ¬ nI (a / 8 % 16) = 0 := nI_ne0 (by omega) (by omega)
    rw [← tf_s4 a ha h]
    exact propext ⟨fun z => z.2 e, fun z => br_f e z⟩
theorem tf_b0 : tf_b false = 0 := rfl
theorem tf_b1 : ¬ tf_b true = 0 := by decide
theorem tf_br {A B : Prop} (b : Bool) : ((tf_b b = 0 → A) ∧ (¬ tf_b b = 0 → B)) = cond b B A := by
  cases b
  · exact propext ⟨fun z => z.1 rfl, fun z => br_t rfl z⟩
  · exact propext ⟨fun z => z.2 tf_b1, fun z => br_f tf_b1 z⟩
theorem tx_signed {post : Int32 → Prop} {c : Nat} {ng : Bool} : wpX_signed post (nI c) (tf_b ng) = post (nI (tf_sg ng c)) := by
  unfold wpX_signed
  rw [tf_br]
  cases ng
  · rfl
  · show post (nI c + nI 128) = post (nI (128 + c))
    rw [nI_add, Nat.add_comm]
theorem ty_signed {post : Int32 → Prop} {M N H : Int32} {A : Nat → Int32} {c : Nat} {ng : Bool} : wpY_signed post (M, N, H, A) (nI c) (tf_b ng) = post (nI (tf_sg ng c)) := by
  unfold wpY_signed
  dsimp only
  rw [tf_br]
  cases ng
  · rfl
  · show post (nI 128 + nI c) = post (nI (128 + c))
    rw [nI_add]
theorem tf_m4 {P : Nat → Prop} (h0 : P 0) (h1 : P 1) (h2 : P 2) (h3 : P 3) {m : Nat} (hm : m < 4) : P m := by
  match m, hm with
  | 0, _ => exact h0
  | 1, _ => exact h1
  | 2, _ => exact h2
  | 3, _ => exact h3
theorem tf_mE {m q : Nat} (hm : m < 4) (hq : q < 4) : nI m = nI q ↔ m = q := nI_eq (by omega) (by omega)
theorem tf_ift {c A B : Prop} (h : c) : ((c → A) ∧ (¬ c → B)) = A := propext ⟨fun z => z.1 h, fun z => br_t h z⟩
theorem tf_iff {c A B : Prop} (h : ¬ c) : ((c → A) ∧ (¬ c → B)) = B := propext ⟨fun z => z.2 h, fun z => br_f h z⟩
theorem tx_aw {post : Int32 → Prop} {N H : Int32} {m : Nat} {ng : Bool} (hm : m < 4) : wpX_isAwayFromZero post (nI m, N, H) (tf_b ng) = post (tf_b (tf_aw m ng)) := by
  unfold wpX_isAwayFromZero wX_isAwayFromZero_13
  dsimp only
  rw [tf_br]
  cases ng
  · show ((nI m = nI 2 → post 1) ∧ (¬ nI m = nI 2 → post 0)) = _
    rw [tf_p1 (decide (m = 2)) (by rw [tf_mE hm (by decide), decide_eq_true_iff])]
    unfold tf_aw
    rw [Bool.not_false, Bool.and_true, Bool.and_false, Bool.or_false]
  · show ((nI m = nI 3 → post 1) ∧ (¬ nI m = nI 3 → post 0)) = _
    rw [tf_p1 (decide (m = 3)) (by rw [tf_mE hm (by decide), decide_eq_true_iff])]
    unfold tf_aw
    rw [Bool.not_true, Bool.and_false, Bool.and_true, Bool.false_or]
theorem ty_goesUp {post : Int32 → Prop} {N H : Int32} {A : Nat → Int32} {m : Nat} {ng : Bool} (hm : m < 4) : wpY_goesUp post (nI m, N, H, A) (tf_b ng) = post (tf_b (tf_aw m ng)) := by
  unfold wpY_goesUp wY_goesUp_12
  dsimp only
  rw [tf_br, tf_br]
  by_cases h2 : m = 2
  · subst h2
    rw [tf_ift (show nI 2 = 2 from rfl), tf_iff (show ¬ nI 2 = 3 by decide)]
    cases ng <;> rfl
  · rw [tf_iff (show ¬ nI m = 2 from fun z => h2 ((tf_mE hm (by decide)).mp z))]
    by_cases h3 : m = 3
    · subst h3
      rw [tf_ift (show nI 3 = 3 from rfl)]
      cases ng <;> rfl
    · rw [tf_iff (show ¬ nI m = 3 from fun z => h3 ((tf_mE hm (by decide)).mp z))]
      unfold tf_aw
      rw [decide_eq_false h2, decide_eq_false h3]
      rfl
end
section
/-! the class's rounding -/
theorem tf_smod : ∀ k, k < 64 → (((nI k).toInt64 &&& 63).toBitVec.smod 64).toNat = k := by decide +kernel
theorem tf_shr {f k : Nat} (hf : f < 2 ^ 62) (hk : k < 64) : lN f >>> ((nI k).toInt64 &&& 63) = lN (f / 2 ^ k) := pf_shr (tf_smod k hk) hf
theorem tf_dm (f c : Nat) : f - f / 2 ^ c * 2 ^ c = f % 2 ^ c := by
  have := Nat.div_add_mod' f (2 ^ c)
  omega
theorem tf_odd (k : Nat) : nI (k % 2) = tf_b (decide (k % 2 = 1)) := by
  by_cases h : k % 2 = 1
  · rw [decide_eq_true h, h]; rfl
  · have h0 : k % 2 = 0 := by omega
    rw [decide_eq_false h, h0]; rfl
theorem tx_st29 {post : Int32 → Prop} {N H : Int32} {m k l cut : Nat} {w mo : Bool} (hm : m < 4) (hk : k < 2 ^ 62) (hl : l < 2 ^ 62) (hc : cut < 60) (h1 : 1 ≤ cut) (hz : (!decide (l = 0) || mo) = true) (hp : post (tf_b (tf_su m w k l (2 ^ (cut - 1)) mo))) : wX_stepUp_29 post (tf_b w) (nI cut) (tf_b mo) (lN k) (lN l) (nI m) N H := by
  unfold tf_su at hp
  rw [hz, Bool.true_and] at hp
  have hh : 2 ^ (cut - 1) < 2 ^ 62 := Nat.pow_lt_pow_right (by decide) (by omega)
  unfold wX_stepUp_29
  by_cases h0 : m = 0
  · subst h0
    rw [if_pos rfl] at hp
    refine br_t rfl (nm_r (e' := lN (2 ^ (cut - 1))) ?_ ?_)
    · rw [show nI cut - 1 = nI (cut - 1) from pk_sub (b := 1) h1]
      have := wb_shl 1 (k := cut - 1) (by omega)
      rw [Nat.one_mul] at this
      exact this
    · generalize 2 ^ (cut - 1) = h at hp hh
      unfold wX_stepUp_75
      rw [pk_lEQ (by omega) (by omega), pk_lLT (by omega) (by omega)]
      by_cases hlh : l = h
      · refine br_t hlh ?_
        rw [tf_br]
        rw [decide_eq_true hlh, decide_eq_false (show ¬ h < l by omega)] at hp
        cases mo
        · refine ⟨by decide, ?_⟩
          rw [show lN k - lN k / 2 * 2 = lN (k % 2) from pk_lRem (b := 2) (by omega) (by decide) (by decide), lN_i, tf_odd]
          exact hp
        · exact br_f (by omega) hp
      · refine br_f hlh ?_
        rw [decide_eq_false hlh] at hp
        by_cases hl2 : l < h
        · rw [decide_eq_false (show ¬ h < l by omega)] at hp
          exact br_t hl2 hp
        · rw [decide_eq_true (show h < l by omega)] at hp
          exact br_f hl2 hp
  · rw [if_neg h0] at hp
    refine br_f (fun z => h0 ((tf_mE hm (by decide)).mp z)) ?_
    rw [tf_p0 w (by cases w <;> decide)]
    exact hp
theorem tx_step {post : Int32 → Prop} {N H : Int32} {m f cut : Nat} {w mo : Bool} (hm : m < 4) (hf : f < 2 ^ 62) (hc : cut < 60) (h1 : 1 ≤ cut) (hp : post (tf_b (tf_su m w (f / 2 ^ cut) (f % 2 ^ cut) (2 ^ (cut - 1)) mo))) : wpX_stepUp post (nI m, N, H) (tf_b w) (lN f) (nI cut) (tf_b mo) := by
  have hk : f / 2 ^ cut ≤ f := Nat.div_le_self _ _
  have hl : f % 2 ^ cut ≤ f := Nat.mod_le _ _
  unfold wpX_stepUp
  dsimp only
  refine nm_r (tf_shr hf (by omega)) (nm_r (e' := lN (f % 2 ^ cut)) ?_ ?_)
  · rw [wb_shl _ (by omega), lN_sub (Nat.div_mul_le_self _ _), tf_dm]
  · by_cases l0 : f % 2 ^ cut = 0
    · refine br_t (by rw [l0]; rfl) ?_
      rw [tf_br]
      cases mo
      · unfold tf_su at hp
        rw [decide_eq_true l0] at hp
        exact hp
      · exact tx_st29 hm (by omega) (by omega) hc h1 (by rw [Bool.or_true]) hp
    · refine br_f (fun z => l0 ((pk_lEQ (b := 0) (by omega) (by decide)).mp z)) ?_
      exact tx_st29 hm (by omega) (by omega) hc h1 (by rw [decide_eq_false l0]; rfl) hp
theorem tx_r162 {post : Int32 → SX → Prop} {N H : Int32} {m d : Nat} {ng : Bool} (hp : post (nI (tf_sg ng d)) (nI m, N, H)) : wX_rounded_162 post (tf_b ng) (lN d) (nI m) N H := by
  unfold wX_rounded_162
  rw [lN_i, tx_signed]
  exact hp
theorem tx_r120 {post : Int32 → SX → Prop} {N H : Int32} {m d : Nat} {ng w : Bool} (hm : m < 4) (hd : d < 2 ^ 31) (hp : post (nI (tf_sg ng (tf_xc m w d))) (nI m, if 119 < d then N ||| 2 else N, H)) : wX_rounded_120 post (tf_b ng) (tf_b w) (lN d) (nI m) N H := by
  unfold wX_rounded_120
  by_cases h9 : 119 < d
  · rw [if_pos h9] at hp
    refine br_f (fun z => by have := (pk_lLE (b := 119) (by omega) (by decide)).mp z; omega) (nm_e ?_)
    unfold tf_xc at hp
    rw [if_pos h9] at hp
    rw [tf_br]
    cases w
    · show (_ → _) ∧ (_ → _)
      by_cases h0 : m = 0
      · subst h0
        refine br_t rfl ?_
        exact tx_r162 (d := 120) (m := 0) hp
      · refine br_f (fun z => h0 ((tf_mE hm (by decide)).mp z)) ?_
        rw [decide_eq_false h0] at hp
        exact tx_r162 (d := 119) hp
    · exact tx_r162 (d := 120) hp
  · rw [if_neg h9] at hp
    refine br_t ((pk_lLE (b := 119) (by omega) (by decide)).mpr (by omega)) ?_
    unfold tf_xc at hp
    rw [if_neg h9] at hp
    exact tx_r162 hp
theorem tf_b64 (b : Bool) : (tf_b b).toInt64 = lN (cond b 1 0) := by cases b <;> decide
theorem tx_r63 {post : Int32 → SX → Prop} {N H : Int32} {m f S k l : Nat} {ng mo : Bool} (ex : Bool) (hm : m < 4) (hf : f < 2 ^ 44) (hS : S ≤ 40) (hk : k < 16) (ek : f / 2 ^ (S + 9) = k) (el : f % 2 ^ (S + 9) = l) (hp : post (nI (tf_sg ng (tf_xc m (tf_aw m ng) (tf_xd m S k l (2 ^ (S + 8)) mo ng)))) (nI m, tf_xn N ex (tf_xd m S k l (2 ^ (S + 8)) mo ng), H)) : wX_rounded_63 post (tf_b ng) (lN f) (tf_b mo) (nI S) (nI (S + 9)) (lN k) (tf_b ex) (nI m) N H := by
  unfold wX_rounded_63
  rw [tx_aw hm]
  refine tx_step hm (by omega) (by omega) (by omega) ?_
  rw [ek, el, show S + 9 - 1 = S + 8 from rfl]
  refine nm_r (e' := lN (tf_xd m S k l (2 ^ (S + 8)) mo ng)) ?_ ?_
  · rw [show nI S * 8 = nI (S * 8) from pk_mul S 8, nI_l (by omega), lN_add, tf_b64, lN_add]
    unfold tf_xd
    exact congrArg lN (by omega)
  · have hd : tf_xd m S k l (2 ^ (S + 8)) mo ng < 2 ^ 31 := by
      unfold tf_xd
      cases tf_su m (tf_aw m ng) k l (2 ^ (S + 8)) mo
      · show 8 * S + k + 0 < _; omega
      · show 8 * S + k + 1 < _; omega
    generalize tf_xd m S k l (2 ^ (S + 8)) mo ng = d at hp hd
    unfold tf_xn tf_xn1 at hp
    rw [tf_br]
    cases ex
    · exact nm_e (tx_r120 hm hd (by simpa using hp))
    · show (_ → _) ∧ (_ → _)
      by_cases h9 : 119 < d
      · refine br_f (fun z => by have := (pk_lLE (b := 119) (by omega) (by decide)).mp z; omega) ?_
        exact nm_e (tx_r120 hm hd (by simpa [h9] using hp))
      · refine br_t ((pk_lLE (b := 119) (by omega) (by decide)).mpr (by omega)) ?_
        exact tx_r120 hm hd (by simpa [h9] using hp)
theorem tx_r30 {post : Int32 → SX → Prop} {N H : Int32} {m f S c : Nat} {ng mo : Bool} (hm : m < 4) (hf : f < 2 ^ 44) (hS : S ≤ 40) (hRS : tf_RS c f) (h1 : f / 2 ^ (S + 9) < 16) (h2 : S = 0 ∨ 16 ≤ f / 2 ^ (S + 8)) (hp : post (nI (tf_ra m c f mo ng)) (nI m, tf_rn N m c f mo ng, H)) : wX_rounded_30 post (tf_b ng) (lN f) (tf_b mo) (nI S) (nI m) N H := by
  have e9 : 2 ^ (S + 9) = 512 * 2 ^ S := by rw [Nat.pow_add]; omega
  have e8 : 2 ^ (S + 8) = 256 * 2 ^ S := by rw [Nat.pow_add]; omega
  have hP := Nat.two_pow_pos S
  obtain ⟨k, ek⟩ : ∃ k, f / 2 ^ (S + 9) = k := ⟨_, rfl⟩
  obtain ⟨l, el⟩ : ∃ l, f % 2 ^ (S + 9) = l := ⟨_, rfl⟩
  have hl : l < 512 * 2 ^ S := by rw [← el, ← e9]; exact Nat.mod_lt _ (Nat.two_pow_pos _)
  have hfk : f = 512 * (k * 2 ^ S) + l := by
    have := Nat.div_add_mod' f (2 ^ (S + 9))
    rw [ek, el, e9, Nat.mul_left_comm] at this
    exact this.symm
  have hk : k < 16 := by rw [← ek]; exact h1
  have h8 : S = 0 ∨ 8 ≤ k := by
    rcases h2 with h2 | h2
    · exact Or.inl h2
    · refine Or.inr ?_
      rw [← ek]
      have h3 : f / 2 ^ (S + 9) = f / 2 ^ (S + 8) / 2 := by rw [Nat.div_div_eq_div_mul, Nat.pow_succ]
      omega
  obtain ⟨t1, t2⟩ := tf_meet (m := m) (mo := mo) (ng := ng) N hRS hk h8 hfk hl
  have hp' : post (nI (tf_sg ng (tf_xc m (tf_aw m ng) (tf_xd m S k l (2 ^ (S + 8)) mo ng)))) (nI m, tf_xn N (decide (l = 0) && !mo) (tf_xd m S k l (2 ^ (S + 8)) mo ng), H) := by
    rw [e8, t1, t2]
    exact hp
  have g := fun ex => tx_r63 (post := post) (N := N) (H := H) (ng := ng) (mo := mo) ex hm hf hS hk ek el
  unfold wX_rounded_30
  refine nm_r (show nI S + 9 = nI (S + 9) from nI_add S 9) (nm_r (e' := lN k) ?_ ?_)
  · rw [tf_shr (by omega) (by omega), ek]
  · rw [wb_shl _ (by omega)]
    have hkf : k * 2 ^ (S + 9) ≤ f := by rw [← ek]; exact Nat.div_mul_le_self _ _
    by_cases l0 : l = 0
    · rw [decide_eq_true l0] at hp'
      refine br_t (congrArg lN (by rw [e9, hfk, l0, Nat.mul_left_comm]; rfl)) ?_
      rw [tf_br]
      cases mo
      · exact g true hp'
      · exact g false hp'
    · rw [decide_eq_false l0] at hp'
      refine br_f (fun z => l0 ?_) ?_
      · have := (pk_lEQ (by omega) (by omega)).mp z
        rw [e9, Nat.mul_left_comm] at this
        omega
      · exact g false hp'
theorem tx_rl {post : Int32 → SX → Prop} {N H : Int32} {m f c : Nat} {ng mo : Bool} (hm : m < 4) (hf : f < 2 ^ 44) (hRS : tf_RS c f) (hp : post (nI (tf_ra m c f mo ng)) (nI m, tf_rn N m c f mo ng, H)) : ∀ n S : Nat, S + n = 41 → (S = 0 ∨ 16 ≤ f / 2 ^ (S + 8)) → wX_rounded_3 post (tf_b ng) (lN f) (tf_b mo) (nI m) N H n (nI S) := by
  intro n
  induction n with
  | zero =>
    intro S hS h2
    exfalso
    have hS : S = 41 := by omega
    subst hS
    rcases h2 with h2 | h2
    · omega
    · have : f / 2 ^ (41 + 8) = 0 := Nat.div_eq_of_lt (by omega)
      omega
  | succ n ih =>
    intro S hS h2
    have h40 : S < 40 := by
      apply Classical.byContradiction
      intro hn
      have hS : S = 40 := by omega
      subst hS
      rcases h2 with h2 | h2
      · omega
      · have : f / 2 ^ (40 + 8) = 0 := Nat.div_eq_of_lt (by omega)
        omega
    have es : lN f >>> ((nI S + 9).toInt64 &&& 63) = lN (f / 2 ^ (S + 9)) := by
      rw [show nI S + 9 = nI (S + 9) from nI_add S 9]
      exact tf_shr (by omega) (by omega)
    have hd : f / 2 ^ (S + 9) ≤ f := Nat.div_le_self _ _
    refine br_f (nI_ge (b := 40) h40 (by decide)) ?_
    rw [es]
    by_cases h1 : f / 2 ^ (S + 9) < 16
    · refine br_t ((pk_lLT (b := 16) (by omega) (by decide)).mpr h1) ?_
      exact tx_r30 hm hf (by omega) hRS h1 h2 hp
    · refine br_f (fun z => h1 ((pk_lLT (b := 16) (by omega) (by decide)).mp z)) (nm_r (nI_1 S) ?_)
      exact ih (S + 1) (by omega) (Or.inr (by rw [show S + 1 + 8 = S + 9 by omega]; omega))
theorem tx_rounded {post : Int32 → SX → Prop} {N H : Int32} {m f c : Nat} (mo ng : Bool) (hm : m < 4) (hf : f < 2 ^ 44) (hRS : tf_RS c f) (hp : post (nI (tf_ra m c f mo ng)) (nI m, tf_rn N m c f mo ng, H)) : wpX_rounded post (nI m, N, H) (tf_b ng) (lN f) (tf_b mo) :=
  ⟨41, tx_rl hm hf hRS hp 41 0 rfl (Or.inl rfl)⟩
end
section
/-! the reference's rounding -/
def tf_TB (A : Nat → Int32) : Prop := ∀ c, c < 121 → A c = nI (tf_sz c)
theorem ty_c99 {post : Int32 → SY → Prop} {M N H : Int32} {A : Nat → Int32} {d : Nat} {ng : Bool} (hp : post (nI (tf_sg ng d)) (M, N, H, A)) : wY_choose_99 post (tf_b ng) (nI d) M N H A := by
  unfold wY_choose_99
  rw [ty_signed]
  exact hp
theorem tf_120 {d : Nat} (hd : d ≤ 120) : nI d = 120 ↔ d = 120 := nI_eq (b := 120) (by omega) (by decide)
theorem ty_c77 {post : Int32 → SY → Prop} {M N H : Int32} {A : Nat → Int32} {d : Nat} {ng gr : Bool} (hd : d ≤ 120) (hp : post (nI (tf_sg ng d)) (M, if (decide (d = 120) || gr) = true then N ||| 2 else N, H, A)) : wY_choose_77 post (tf_b gr) (tf_b ng) (nI d) M N H A := by
  unfold wY_choose_77 wY_choose_89
  by_cases h : d = 120
  · refine br_t ((tf_120 hd).mpr h) (nm_e (ty_c99 ?_))
    rw [decide_eq_true h] at hp
    exact hp
  · refine br_f (fun z => h ((tf_120 hd).mp z)) ?_
    rw [decide_eq_false h] at hp
    rw [tf_br]
    cases gr
    · exact ty_c99 hp
    · exact nm_e (ty_c99 hp)
theorem ty_c54 {post : Int32 → SY → Prop} {M N H : Int32} {A : Nat → Int32} {d : Nat} {ng gr ex : Bool} (hd : d ≤ 120) (hp : post (nI (tf_sg ng d)) (M, tf_cn N ex gr d, H, A)) : wY_choose_54 post (tf_b ex) (tf_b gr) (tf_b ng) (nI d) M N H A := by
  unfold wY_choose_54 wY_choose_67
  unfold tf_cn tf_cn1 at hp
  rw [tf_br]
  cases ex
  · exact nm_e (ty_c77 hd hp)
  · show (_ → _) ∧ (_ → _)
    by_cases h : d = 120
    · refine br_t ((tf_120 hd).mpr h) (nm_e (ty_c77 hd ?_))
      rw [decide_eq_true h] at hp
      rw [decide_eq_true h]
      exact hp
    · refine br_f (fun z => h ((tf_120 hd).mp z)) (ty_c77 hd ?_)
      rw [decide_eq_false h] at hp
      rw [decide_eq_false h]
      exact hp
theorem ty_c36 {post : Int32 → SY → Prop} {M N H : Int32} {A : Nat → Int32} {c : Nat} {ng gr ex : Bool} (up : Bool) (hc : c ≤ 119) (hp : post (nI (tf_sg ng (tf_cc up ex c))) (M, tf_cn N ex gr (tf_cc up ex c), H, A)) : wY_choose_36 post (nI c) (tf_b ex) (tf_b gr) (tf_b ng) (tf_b up) M N H A := by
  unfold wY_choose_36 wY_choose_53
  rw [tf_br, tf_br]
  cases up
  · exact ty_c54 (d := c) (by omega) hp
  · cases ex
    · show wY_choose_54 post (tf_b false) (tf_b gr) (tf_b ng) (nI c + 1) M N H A
      rw [nI_1]
      exact ty_c54 (d := c + 1) (by omega) hp
    · exact ty_c54 (d := c) (by omega) hp
def tf_sn (g e : Bool) : Int32 := cond g 1 (cond e 0 (-1))
theorem ty_choose {post : Int32 → SY → Prop} {N H : Int32} {A : Nat → Int32} {m c : Nat} (g e ex gr ng : Bool) (hm : m < 4) (hc : c ≤ 119) (hp : post (nI (tf_sg ng (tf_cc (tf_up m g e c ng) ex c))) (nI m, tf_cn N ex gr (tf_cc (tf_up m g e c ng) ex c), H, A)) : wpY_choose post (nI m, N, H, A) (nI c) (tf_sn g e) (tf_b ex) (tf_b gr) (tf_b ng) := by
  unfold wpY_choose wY_choose_22 wY_choose_26
  dsimp only
  by_cases h0 : m = 0
  · subst h0
    refine br_t rfl ?_
    unfold tf_up at hp
    rw [if_pos rfl] at hp
    cases g
    · refine br_f (by cases e <;> decide) ?_
      cases e
      · exact br_f (by decide) (ty_c36 false hc hp)
      · refine br_t rfl ⟨by decide, ?_⟩
        rw [show nI c - nI c / 2 * 2 = nI (c % 2) from pk_rem (d := 2) (by omega) (by decide) (by decide)]
        by_cases ho : c % 2 = 1
        · refine br_t (by rw [ho]; rfl) ?_
          rw [decide_eq_true ho] at hp
          exact ty_c36 true hc hp
        · refine br_f (fun z => ho ((nI_eq (b := 1) (by omega) (by decide)).mp z)) ?_
          rw [decide_eq_false ho] at hp
          exact ty_c36 false hc hp
    · exact br_t (by show (0 : Int32) < 1; decide) (ty_c36 true hc hp)
  · refine br_f (fun z => h0 ((tf_mE hm (by decide)).mp z)) ?_
    rw [ty_goesUp hm]
    unfold tf_up at hp
    rw [if_neg h0] at hp
    exact ty_c36 _ hc hp
theorem tf_subI {p q : Nat} (hp : p < 2 ^ 62) (hq : q < 2 ^ 62) : (lN p - lN q).toInt = (p : Int) - q := by
  rw [Int64.toInt_sub, pk_lT (by omega), pk_lT (by omega)]
  exact Int.bmod_eq_of_le (by omega) (by omega)
theorem tf_z64 : (0 : Int64).toInt = 0 := by decide
theorem ty_sign {post : Int32 → Prop} {M N H : Int32} {A : Nat → Int32} {p q : Nat} (hp : p < 2 ^ 62) (hq : q < 2 ^ 62) : wpY_sign post (M, N, H, A) (lN p - lN q) = post (tf_sn (decide (q < p)) (decide (p = q))) := by
  unfold wpY_sign
  dsimp only
  rw [Int64.le_iff_toInt_le, Int64.le_iff_toInt_le, tf_subI hp hq, tf_z64]
  by_cases h1 : q < p
  · rw [decide_eq_true h1, tf_ift (by omega), tf_iff (by omega)]
    rfl
  · rw [decide_eq_false h1]
    by_cases h2 : p = q
    · rw [decide_eq_true h2, tf_ift (by omega), tf_ift (by omega)]
      rfl
    · rw [decide_eq_false h2, tf_iff (by omega)]
      rfl
theorem tf_q1 {t f b r : Nat} (hr : r < b) : t * b < f * b + r ↔ t < f ∨ (t = f ∧ r ≠ 0) := by
  constructor
  · intro h
    rcases Nat.lt_trichotomy t f with h1 | h1 | h1
    · exact Or.inl h1
    · subst h1
      exact Or.inr ⟨rfl, by omega⟩
    · have h2 := Nat.mul_le_mul_right b (show f + 1 ≤ t from h1)
      rw [Nat.succ_mul] at h2
      omega
  · rintro (h | ⟨h, h0⟩)
    · have h2 := Nat.mul_le_mul_right b (show t + 1 ≤ f from h)
      rw [Nat.succ_mul] at h2
      omega
    · subst h
      omega
theorem tf_q2 {t f b r : Nat} (hr : r < b) : t * b = f * b + r ↔ t = f ∧ r = 0 := by
  constructor
  · intro h
    have h1 : ¬ t * b < f * b + r := by omega
    rw [tf_q1 hr] at h1
    have h2 : ¬ f < t := by
      intro h3
      have h2 := Nat.mul_le_mul_right b (show f + 1 ≤ t from h3)
      rw [Nat.succ_mul] at h2
      omega
    have h3 : t = f := by omega
    subst h3
    exact ⟨rfl, by omega⟩
  · rintro ⟨rfl, rfl⟩
    rfl
theorem tf_q3 {t f b r : Nat} (hr : r < b) : t * b ≤ f * b + r ↔ t ≤ f := by
  have h1 := tf_q1 (t := t) (f := f) hr
  have h2 := tf_q2 (t := t) (f := f) hr
  omega
/-- above / below (in u), f its floor in 512th parts, r what is left -/
def tf_Q (a b f r : Nat) : Prop := 512 * a = f * b + r ∧ r < b ∧ a < 2 ^ 44 ∧ b ≤ 131072
theorem tf_u1 {a b f r s : Nat} (h : tf_Q a b f r) : s * b ≤ a ↔ 512 * s ≤ f := by
  rw [← tf_q3 (t := 512 * s) h.2.1, ← h.1, Nat.mul_assoc]
  omega
theorem tf_u2 {a b f r s : Nat} (h : tf_Q a b f r) : s * b = a ↔ 512 * s = f ∧ r = 0 := by
  rw [← tf_q2 h.2.1, ← h.1, Nat.mul_assoc]
  omega
theorem tf_u3 {a b f r s : Nat} (h : tf_Q a b f r) : s * b < 2 * a ↔ 256 * s < f ∨ (256 * s = f ∧ r ≠ 0) := by
  rw [← tf_q1 h.2.1, ← h.1, Nat.mul_assoc]
  omega
theorem tf_u4 {a b f r s : Nat} (h : tf_Q a b f r) : s * b = 2 * a ↔ 256 * s = f ∧ r = 0 := by
  rw [← tf_q2 h.2.1, ← h.1, Nat.mul_assoc]
  omega
theorem tf_bm {s b : Nat} (hs : s ≤ 262144) (hb : b ≤ 131072) : s * b < 2 ^ 40 := by
  have := Nat.mul_le_mul hs hb
  omega
theorem ty_r107 {post : Int32 → SY → Prop} {N H : Int32} {A : Nat → Int32} {m c : Nat} (g e ex gr ng : Bool) (hm : m < 4) (hc : c ≤ 119) (hp : post (nI (tf_sg ng (tf_cc (tf_up m g e c ng) ex c))) (nI m, tf_cn N ex gr (tf_cc (tf_up m g e c ng) ex c), H, A)) : wY_round_107 post (tf_b ng) (nI c) (tf_sn g e) (tf_b ex) (tf_b gr) (nI m) N H A := by
  unfold wY_round_107
  exact ty_choose g e ex gr ng hm hc hp
theorem ty_r85 {post : Int32 → SY → Prop} {N H : Int32} {A : Nat → Int32} {m c a b f r : Nat} (g e ex ng : Bool) (hA : tf_TB A) (hQ : tf_Q a b f r) (hm : m < 4) (hc : c ≤ 119) (hp : post (nI (tf_sg ng (tf_cc (tf_up m g e c ng) ex c))) (nI m, tf_cn N ex (tf_gr f) (tf_cc (tf_up m g e c ng) ex c), H, A)) : wY_round_85 post (lN a) (lN b) (tf_b ng) (nI c) (tf_sn g e) (tf_b ex) (nI m) N H A := by
  unfold wY_round_85
  have hb := tf_bm (s := tf_sz 120) (by rw [tf_sz120]; omega) hQ.2.2.2
  have ha := hQ.2.2.1
  have hu := tf_u1 (s := tf_sz 120) hQ
  rw [hA 120 (by omega), nI_l (by rw [tf_sz120]; omega), lN_mul, pk_lLT (by omega) (by omega)]
  by_cases h : a < tf_sz 120 * b
  · have e4 : tf_gr f = false := by
      unfold tf_gr
      exact decide_eq_false (by omega)
    rw [e4] at hp
    exact br_t h (ty_r107 g e ex false ng hm hc hp)
  · have e4 : tf_gr f = true := by
      unfold tf_gr
      exact decide_eq_true (by omega)
    rw [e4] at hp
    exact br_f h (ty_r107 g e ex true ng hm hc hp)
theorem ty_r33 {post : Int32 → SY → Prop} {N H : Int32} {A : Nat → Int32} {m c a b f r : Nat} (ng : Bool) (hA : tf_TB A) (hQ : tf_Q a b f r) (hm : m < 4) (hRS : tf_RS c f) (hp : post (nI (tf_ra m c f (decide (r ≠ 0)) ng)) (nI m, tf_rn N m c f (decide (r ≠ 0)) ng, H, A)) : wY_round_33 post (lN a) (lN b) (tf_b ng) (nI c) (nI m) N H A := by
  have hc := hRS.1
  have s1 := tf_szb (show c ≤ 120 by omega)
  have s2 := tf_szb (show c + 1 ≤ 120 by omega)
  have b1 := tf_bm (s := tf_sz c + tf_sz (c + 1)) (by omega) hQ.2.2.2
  have b2 := tf_bm (s := tf_sz c) (by omega) hQ.2.2.2
  have ha := hQ.2.2.1
  unfold wY_round_33
  refine ⟨vp_in_nI (by omega) (by omega), ?_, ?_⟩
  · rw [nI_1]
    exact vp_in_nI (by omega) (by omega)
  · rw [nI_1, nI_clamp (by omega), nI_clamp (by omega), hA c (by omega), hA (c + 1) (by omega), nI_add, nI_l (by omega), nI_l (by omega), lN_mul, lN_mul, show (2 : Int64) * lN a = lN (2 * a) from lN_mul 2 a, ty_sign (by omega) (by omega)]
    refine ⟨vp_in_nI (by omega) (by omega), ?_⟩
    have g1 : decide ((tf_sz c + tf_sz (c + 1)) * b < 2 * a) = tf_g c f (decide (r ≠ 0)) := by
      unfold tf_g
      rw [← Bool.decide_and, ← Bool.decide_or]
      refine decide_eq_decide.mpr ((tf_u3 hQ).trans ?_)
      rw [eq_comm (a := f)]
    have g2 : decide (2 * a = (tf_sz c + tf_sz (c + 1)) * b) = tf_e c f (decide (r ≠ 0)) := by
      unfold tf_e
      rw [← decide_not, ← Bool.decide_and]
      refine decide_eq_decide.mpr (eq_comm.trans ((tf_u4 hQ).trans ?_))
      rw [eq_comm (a := f)]
      omega
    rw [g1, g2, pk_lEQ (by omega) (by omega)]
    have hu := tf_u2 (s := tf_sz c) hQ
    by_cases hx : tf_sz c * b = a
    · have e1 : tf_ex c f (decide (r ≠ 0)) = true := by
        unfold tf_ex
        rw [← decide_not, ← Bool.decide_and]
        exact decide_eq_true (by omega)
      refine br_t hx (ty_r85 _ _ true ng hA hQ hm hc ?_)
      unfold tf_ra tf_rn tf_rc at hp
      rw [e1] at hp
      exact hp
    · have e1 : tf_ex c f (decide (r ≠ 0)) = false := by
        unfold tf_ex
        rw [← decide_not, ← Bool.decide_and]
        exact decide_eq_false (by omega)
      refine br_f hx (ty_r85 _ _ false ng hA hQ hm hc ?_)
      unfold tf_ra tf_rn tf_rc at hp
      rw [e1] at hp
      exact hp
theorem ty_rl {post : Int32 → SY → Prop} {N H : Int32} {A : Nat → Int32} {m c a b f r : Nat} (ng : Bool) (hA : tf_TB A) (hQ : tf_Q a b f r) (hm : m < 4) (hRS : tf_RS c f) (hp : post (nI (tf_ra m c f (decide (r ≠ 0)) ng)) (nI m, tf_rn N m c f (decide (r ≠ 0)) ng, H, A)) : ∀ n d : Nat, d + n = 120 → d ≤ 119 → 512 * tf_sz d ≤ f → wY_round_3 post (lN a) (lN b) (tf_b ng) (nI m) N H A n (nI d) := by
  intro n
  induction n with
  | zero =>
    intro d hd h9 _
    omega
  | succ n ih =>
    intro d hd h9 h
    by_cases h119 : d = 119
    · subst h119
      have e : c = 119 := tf_RSu hRS ⟨by omega, h, fun z => absurd z (by omega)⟩
      subst e
      exact br_t (by decide) (ty_r33 ng hA hQ hm hRS hp)
    · have s2 := tf_szb (show d + 1 ≤ 120 by omega)
      have b2 := tf_bm (s := tf_sz (d + 1)) (by omega) hQ.2.2.2
      have ha := hQ.2.2.1
      have hu := tf_u1 (s := tf_sz (d + 1)) hQ
      refine br_f (nI_ge (b := 119) (by omega) (by decide)) ⟨?_, ?_⟩
      · rw [nI_1]
        exact vp_in_nI (by omega) (by omega)
      · rw [nI_1, nI_clamp (by omega), hA (d + 1) (by omega), nI_l (by omega), lN_mul, pk_lLT (by omega) (by omega)]
        by_cases hx : a < tf_sz (d + 1) * b
        · have e : c = d := tf_RSu hRS ⟨by omega, h, fun _ => by omega⟩
          subst e
          exact br_t hx (ty_r33 ng hA hQ hm hRS hp)
        · refine br_f hx (nm_e ?_)
          exact ih (d + 1) (by omega) (by omega) (by omega)
theorem ty_round {post : Int32 → SY → Prop} {N H : Int32} {A : Nat → Int32} {m c a b f r : Nat} (ng : Bool) (hA : tf_TB A) (hQ : tf_Q a b f r) (hm : m < 4) (hRS : tf_RS c f) (hp : post (nI (tf_ra m c f (decide (r ≠ 0)) ng)) (nI m, tf_rn N m c f (decide (r ≠ 0)) ng, H, A)) : wpY_round post (nI m, N, H, A) (lN a) (lN b) (tf_b ng) :=
  ⟨120, ty_rl ng hA hQ hm hRS hp 120 0 rfl (by omega) (by rw [tf_sz0]; omega)⟩
end
section
/-! one answer, one state for both sides: multiply, divide, from -/
def tf_Ag (m : Nat) (HX HY : Int32) (A : Nat → Int32) (WX : (Int32 → SX → Prop) → Prop) (WY : (Int32 → SY → Prop) → Prop) : Prop := ∃ (h : Nat) (n : Int32), h < 256 ∧ (∀ post, post (nI h) (nI m, n, HX) → WX post) ∧ (∀ post, post (nI h) (nI m, n, HY, A) → WY post)
theorem tg_c {m : Nat} {N HX HY : Int32} {A : Nat → Int32} (h : Nat) (hh : h < 256) : tf_Ag m HX HY A (fun post => post (nI h) (nI m, N, HX)) (fun post => post (nI h) (nI m, N, HY, A)) :=
  ⟨h, N, hh, fun _ hp => hp, fun _ hp => hp⟩
theorem tg_sl {m : Nat} {N HX HY : Int32} {A : Nat → Int32} : tf_Ag m HX HY A (fun post => wpX_senseless post (nI m, N, HX)) (fun post => wpY_senseless post (nI m, N, HY, A)) :=
  ⟨124, N ||| 4, by decide, fun _ hp => nm_e hp, fun _ hp => nm_e hp⟩
theorem tg_sd {m : Nat} {N HX HY : Int32} {A : Nat → Int32} (c : Nat) (ng : Bool) (hc : c ≤ 120) : tf_Ag m HX HY A (fun post => wpX_signed (fun r => post r (nI m, N, HX)) (nI c) (tf_b ng)) (fun post => wpY_signed (fun r => post r (nI m, N, HY, A)) (nI m, N, HY, A) (nI c) (tf_b ng)) :=
  ⟨tf_sg ng c, N, tf_sgb hc, fun post hp => by dsimp only; rw [tx_signed]; exact hp, fun post hp => by dsimp only; rw [ty_signed]; exact hp⟩
theorem ty_zero {post : Int32 → Prop} {M N H : Int32} {A : Nat → Int32} {ng : Bool} : wpY_zero post (M, N, H, A) (tf_b ng) = post (nI (tf_sg ng 0)) := by
  unfold wpY_zero
  dsimp only
  rw [tf_br]
  cases ng <;> rfl
theorem tf_ra0 {m : Nat} {ng : Bool} : tf_ra m 0 0 false ng = tf_sg ng 0 := by
  unfold tf_ra tf_rc tf_cc
  rw [show tf_ex 0 0 false = true by decide, Bool.not_true, Bool.and_false]
  rfl
theorem tf_rn0 {N : Int32} {m : Nat} {ng : Bool} : tf_rn N m 0 0 false ng = N := by
  unfold tf_rn tf_rc tf_cc
  rw [show tf_ex 0 0 false = true by decide, show tf_gr 0 = false by decide, Bool.not_true, Bool.and_false]
  rfl
theorem tf_RS0 : tf_RS 0 0 := ⟨by omega, by decide, fun _ => by decide⟩
theorem tx_r0 {post : Int32 → SX → Prop} {N H : Int32} {m : Nat} (ng : Bool) (hm : m < 4) (hp : post (nI (tf_sg ng 0)) (nI m, N, H)) : wpX_rounded post (nI m, N, H) (tf_b ng) (lN 0) (tf_b false) :=
  tx_rounded false ng hm (by decide) tf_RS0 (by rw [tf_ra0, tf_rn0]; exact hp)
theorem tg_0 {m : Nat} {N HX HY : Int32} {A : Nat → Int32} (ng : Bool) (hm : m < 4) : tf_Ag m HX HY A (fun post => wpX_rounded post (nI m, N, HX) (tf_b ng) (lN 0) (tf_b false)) (fun post => wpY_zero (fun r => post r (nI m, N, HY, A)) (nI m, N, HY, A) (tf_b ng)) :=
  ⟨tf_sg ng 0, N, tf_sgb (by omega), fun post hp => tx_r0 ng hm hp, fun post hp => by dsimp only; rw [ty_zero]; exact hp⟩
theorem tg_r {m : Nat} {N HX HY : Int32} {A : Nat → Int32} {a b f r : Nat} (ng : Bool) (hA : tf_TB A) (hm : m < 4) (hf : f < 2 ^ 44) (hQ : tf_Q a b f r) : tf_Ag m HX HY A (fun post => wpX_rounded post (nI m, N, HX) (tf_b ng) (lN f) (tf_b (decide (r ≠ 0)))) (fun post => wpY_round post (nI m, N, HY, A) (lN a) (lN b) (tf_b ng)) := by
  obtain ⟨c, hRS⟩ := tf_RSe f
  exact ⟨_, _, tf_rab hRS.1, fun post hp => tx_rounded _ ng hm hf hRS hp, fun post hp => ty_round ng hA hQ hm hRS hp⟩
theorem tg_r0 {m : Nat} {N HX HY : Int32} {A : Nat → Int32} {a b f : Nat} (ng : Bool) (hA : tf_TB A) (hm : m < 4) (hf : f < 2 ^ 44) (hQ : tf_Q a b f 0) : tf_Ag m HX HY A (fun post => wpX_rounded post (nI m, N, HX) (tf_b ng) (lN f) (tf_b false)) (fun post => wpY_round post (nI m, N, HY, A) (lN a) (lN b) (tf_b ng)) :=
  tg_r (r := 0) ng hA hm hf hQ
theorem tf_bx {A B : Prop} (x y : Bool) : ((tf_b x = tf_b y → A) ∧ (¬ tf_b x = tf_b y → B)) = cond (x != y) B A := by
  cases x <;> cases y
  · exact tf_ift rfl
  · exact tf_iff (by decide)
  · exact tf_iff (by decide)
  · exact tf_ift rfl
theorem tx_code {post : Int32 → Prop} {a : Nat} (ha : a < 256) : wpX_isCode post (nI a) = post (tf_b true) := tx_isCode ha
theorem ty_code {post : Int32 → Prop} {M N H : Int32} {A : Nat → Int32} {a : Nat} (ha : a < 256) : wpY_isCode post (M, N, H, A) (nI a) = post (tf_b true) := ty_isCode ha
theorem tx_iz {post : Int32 → Prop} {a b : Nat} (ha : a < 256) (hb : b < 256) : wpX_isInfiniteTimesZero post (nI a) (nI b) = post (tf_b ((tf_nf a && tf_nz b) || (tf_nz a && tf_nf b))) := by
  unfold wpX_isInfiniteTimesZero wX_isInfiniteTimesZero_14
  rw [tx_isInfinite ha, tx_isZero hb, tx_isZero ha, tx_isInfinite hb, tf_br, tf_br, tf_br, tf_br]
  cases tf_nf a <;> cases tf_nz b <;> cases tf_nz a <;> cases tf_nf b <;> rfl
theorem tf_vin {a : Nat} {P : Prop} (h : a < 121) : (vp_in (nI a) 121 ∧ P) = P := propext ⟨fun z => z.2, fun z => ⟨vp_in_nI h (by omega), z⟩⟩
theorem tf_look {A : Nat → Int32} {a : Nat} (hA : tf_TB A) (h : a < 121) : A (nI a).toNatClampNeg = nI (tf_sz a) := by
  rw [nI_clamp (by omega), hA a h]
theorem tf_l {a : Nat} (h : a < 121) : (nI (tf_sz a)).toInt64 = lN (tf_sz a) := nI_l (by have := tf_szb (show a ≤ 120 by omega); omega)
theorem tf_fin {a : Nat} (h1 : tf_nn a = false) (h2 : tf_nf a = false) : a % 128 < 120 := by
  unfold tf_nn at h1
  unfold tf_nf at h2
  rw [decide_eq_false_iff_not] at h1 h2
  omega
theorem tf_fz {a : Nat} (h : tf_nf a = true) : tf_nz a = false := by
  unfold tf_nf at h
  unfold tf_nz
  rw [decide_eq_true_iff] at h
  exact decide_eq_false (by omega)
theorem tf_pb {a b : Nat} (ha : a % 128 < 120) (hb : b % 128 < 120) : tf_sz (a % 128) * tf_sz (b % 128) < 2 ^ 36 := by
  have := Nat.mul_le_mul (tf_szb (show a % 128 ≤ 120 by omega)) (tf_szb (show b % 128 ≤ 120 by omega))
  omega
theorem tf_Q512 {a : Nat} (h : a < 2 ^ 44) : tf_Q a 512 a 0 := ⟨by omega, by omega, h, by omega⟩
theorem tg_mul {m a b : Nat} {N HX HY : Int32} {A : Nat → Int32} (hm : m < 4) (hA : tf_TB A) (ha : a < 256) (hb : b < 256) : tf_Ag m HX HY A (fun post => wpX_multiply post (nI m, N, HX) (nI a) (nI b)) (fun post => wpY_multiply post (nI m, N, HY, A) (nI a) (nI b)) := by
  simp only [wpX_multiply, wpY_multiply, wX_multiply_62, wX_multiply_77, wY_multiply_55, wY_multiply_72, wY_multiply_88, tx_code ha, tx_code hb, ty_code ha, ty_code hb, tf_br, tf_bx, tx_isNone ha, tx_isNone hb, ty_isNone ha, ty_isNone hb, tx_isInfinite ha, tx_isInfinite hb, ty_isInfinite ha, ty_isInfinite hb, ty_isZero ha, ty_isZero hb, tx_isNegative ha, tx_isNegative hb, ty_isNegative ha, ty_isNegative hb, tx_iz ha hb, tx_size ha, tx_size hb, tf_r128 a ha, tf_r128 b hb, cond_true, cond_false]
  cases hna : tf_nn a
  · cases hnb : tf_nn b
    · cases hfa : tf_nf a
      · cases hfb : tf_nf b
        · have h1 := tf_fin hna hfa
          have h2 := tf_fin hnb hfb
          have hpb := tf_pb h1 h2
          simp only [Bool.false_and, Bool.and_false, Bool.or_false, cond_false, tf_nd (show ¬ (128 : Int32) = 0 by decide), tf_vin (show a % 128 < 121 by omega), tf_vin (show b % 128 < 121 by omega), tf_look hA (show a % 128 < 121 by omega), tf_look hA (show b % 128 < 121 by omega), tf_l (show a % 128 < 121 by omega), tf_l (show b % 128 < 121 by omega), lN_mul, forall_eq]
          generalize tf_sz (a % 128) * tf_sz (b % 128) = p at hpb
          by_cases h0 : p = 0
          · subst h0
            simp only [tf_ift (show lN 0 = 0 from rfl)]
            cases (tf_ng a != tf_ng b)
            · exact tg_0 false hm
            · exact tg_0 true hm
          · simp only [tf_iff (show ¬ lN p = 0 from fun z => h0 ((pk_lEQ (b := 0) (by omega) (by decide)).mp z))]
            cases (tf_ng a != tf_ng b)
            · exact tg_r0 false hA hm (by omega) (tf_Q512 (by omega))
            · exact tg_r0 true hA hm (by omega) (tf_Q512 (by omega))
        · have hzb := tf_fz hfb
          cases hza : tf_nz a <;> simp only [hzb, Bool.false_and, Bool.true_and, Bool.and_false, Bool.and_true, Bool.or_false, Bool.or_true, cond_false, cond_true]
          · cases (tf_ng a != tf_ng b)
            · exact tg_sd 120 false (by omega)
            · exact tg_sd 120 true (by omega)
          · cases (tf_ng a != tf_ng b)
            · exact tg_sl
            · exact tg_sl
      · have hza := tf_fz hfa
        cases hzb : tf_nz b <;> simp only [hza, Bool.false_and, Bool.true_and, Bool.and_false, Bool.and_true, Bool.or_false, Bool.or_true, cond_false, cond_true]
        · cases (tf_ng a != tf_ng b)
          · exact tg_sd 120 false (by omega)
          · exact tg_sd 120 true (by omega)
        · cases (tf_ng a != tf_ng b)
          · exact tg_sl
          · exact tg_sl
    · exact tg_c 124 (by decide)
  · exact tg_c 124 (by decide)
end
section
/-! divide, from -/
theorem tf_10 : ((1 : Int32) = 0) = False := eq_false (by decide)
theorem tf_shl18 (n : Nat) : lN n <<< ((18 : Int32).toInt64 &&& 63) = lN (n * 262144) := wb_shl n (k := 18) (by decide)
theorem tf_shl9 (n : Nat) : lN n <<< ((9 : Int32).toInt64 &&& 63) = lN (n * 512) := wb_shl n (k := 9) (by decide)
theorem tf_shl27 (n : Nat) : lN n <<< ((27 : Int32).toInt64 &&& 63) = lN (n * 134217728) := wb_shl n (k := 27) (by decide)
theorem tg_z {m : Nat} {N HX HY : Int32} {A : Nat → Int32} (ng : Bool) : tf_Ag m HX HY A (fun post => wpX_signed (fun r => post r (nI m, N, HX)) (nI 0) (tf_b ng)) (fun post => wpY_zero (fun r => post r (nI m, N, HY, A)) (nI m, N, HY, A) (tf_b ng)) :=
  ⟨tf_sg ng 0, N, tf_sgb (by omega), fun post hp => by dsimp only; rw [tx_signed]; exact hp, fun post hp => by dsimp only; rw [ty_zero]; exact hp⟩
theorem tf_z0 {a : Nat} (h : tf_nz a = true) : tf_sz (a % 128) = 0 := by
  unfold tf_nz at h
  rw [decide_eq_true_iff] at h
  rw [h, tf_sz0]
theorem tf_zp {a : Nat} (h : tf_nz a = false) : 0 < tf_sz (a % 128) := by
  unfold tf_nz at h
  rw [decide_eq_false_iff_not] at h
  exact tf_szp (by omega)
theorem tg_mo {m : Nat} {HX HY : Int32} {A : Nat → Int32} {WY : (Int32 → SY → Prop) → Prop} {r : Nat} (P : Int32 → (Int32 → SX → Prop) → Prop) (hr : r < 2 ^ 62) (h : tf_Ag m HX HY A (P (tf_b (decide (r ≠ 0)))) WY) : tf_Ag m HX HY A (fun post => (lN r = 0 → P 0 post) ∧ (¬ lN r = 0 → P 1 post)) WY := by
  by_cases h0 : r = 0
  · subst h0
    simp only [tf_ift (show lN 0 = 0 from rfl)]
    exact h
  · simp only [tf_iff (show ¬ lN r = 0 from fun z => h0 ((pk_lEQ (b := 0) (by omega) (by decide)).mp z))]
    rw [decide_eq_true h0] at h
    exact h
theorem tg_div {m a b : Nat} {N HX HY : Int32} {A : Nat → Int32} (hm : m < 4) (hA : tf_TB A) (ha : a < 256) (hb : b < 256) : tf_Ag m HX HY A (fun post => wpX_divide post (nI m, N, HX) (nI a) (nI b)) (fun post => wpY_divide post (nI m, N, HY, A) (nI a) (nI b)) := by
  simp only [wpX_divide, wpY_divide, wX_divide_51, wX_divide_52, wX_divide_71, wX_divide_72, wX_divide_83, wX_divide_104, wX_divide_199, wY_divide_55, wY_divide_72, wY_divide_88, wY_divide_93, wY_divide_125, tx_code ha, tx_code hb, ty_code ha, ty_code hb, tf_br, tf_bx, tx_isNone ha, tx_isNone hb, ty_isNone ha, ty_isNone hb, tx_isInfinite ha, tx_isInfinite hb, ty_isInfinite ha, ty_isInfinite hb, ty_isZero ha, ty_isZero hb, tx_isZero ha, tx_isZero hb, tx_isNegative ha, tx_isNegative hb, ty_isNegative ha, ty_isNegative hb, tx_size ha, tx_size hb, tf_r128 a ha, tf_r128 b hb, cond_true, cond_false, tf_10, true_implies, false_implies, not_true_eq_false, not_false_eq_true, and_true, true_and]
  cases hna : tf_nn a
  · cases hnb : tf_nn b
    · cases hfa : tf_nf a
      · cases hfb : tf_nf b
        · have h1 := tf_fin hna hfa
          have h2 := tf_fin hnb hfb
          have s1 := tf_szb (show a % 128 ≤ 120 by omega)
          have s2 := tf_szb (show b % 128 ≤ 120 by omega)
          simp only [cond_false, cond_true, tf_vin (show a % 128 < 121 by omega), tf_vin (show b % 128 < 121 by omega), tf_look hA (show a % 128 < 121 by omega), tf_look hA (show b % 128 < 121 by omega), tf_l (show a % 128 < 121 by omega), tf_l (show b % 128 < 121 by omega), tf_shl18, forall_eq]
          cases hzb : tf_nz b
          · have hp := tf_zp hzb
            generalize tf_sz (b % 128) = d at hp s2
            have hd0 : (lN d = 0) = False := eq_false (fun z => by have := (pk_lEQ (b := 0) (by omega) (by decide)).mp z; omega)
            have hrm : lN (tf_sz (a % 128) * 262144) - lN (tf_sz (a % 128) * 262144 / d) * lN d = lN (tf_sz (a % 128) * 262144 % d) := by
              rw [← pk_lDiv (by omega) hp (by omega), pk_lRem (by omega) hp (by omega)]
            simp only [cond_false, cond_true, hd0, false_implies, not_false_eq_true, true_implies, true_and, tf_nd (show ¬ (128 : Int32) = 0 by decide), pk_lDiv (a := tf_sz (a % 128) * 262144) (b := d) (by omega) hp (by omega), hrm]
            cases hza : tf_nz a
            · generalize tf_sz (a % 128) = c at s1
              have hr : c * 262144 % d < d := Nat.mod_lt _ hp
              have hq : c * 262144 / d ≤ c * 262144 := Nat.div_le_self _ _
              have hQ : tf_Q (512 * c) d (c * 262144 / d) (c * 262144 % d) := ⟨by have := Nat.div_add_mod' (c * 262144) d; omega, hr, by omega, by omega⟩
              simp only [cond_false, cond_true, show (512 : Int64) * lN c = lN (512 * c) from lN_mul 512 c]
              cases (tf_ng a != tf_ng b)
              · exact tg_mo (fun mo post => wpX_rounded post (nI m, N, HX) 0 (lN (c * 262144 / d)) mo) (by omega) (tg_r false hA hm (by omega) hQ)
              · exact tg_mo (fun mo post => wpX_rounded post (nI m, N, HX) 1 (lN (c * 262144 / d)) mo) (by omega) (tg_r true hA hm (by omega) hQ)
            · rw [tf_z0 hza]
              simp only [cond_false, cond_true, Nat.zero_mul, Nat.zero_mod, Nat.zero_div, tf_ift (show lN 0 = 0 from rfl)]
              cases (tf_ng a != tf_ng b)
              · exact tg_0 false hm
              · exact tg_0 true hm
          · rw [tf_z0 hzb]
            cases hza : tf_nz a
            · simp only [cond_false, cond_true, tf_ift (show lN 0 = 0 from rfl)]
              cases (tf_ng a != tf_ng b)
              · exact tg_sd (N := N ||| 8) 120 false (by omega)
              · exact tg_sd (N := N ||| 8) 120 true (by omega)
            · simp only [cond_false, cond_true]
              cases (tf_ng a != tf_ng b)
              · exact tg_sl
              · exact tg_sl
        · have hzb := tf_fz hfb
          cases hza : tf_nz a <;> simp only [hzb, cond_false, cond_true]
          · cases (tf_ng a != tf_ng b)
            · exact tg_z false
            · exact tg_z true
          · cases (tf_ng a != tf_ng b)
            · exact tg_z false
            · exact tg_z true
      · have hza := tf_fz hfa
        cases hfb : tf_nf b <;> simp only [hza, cond_false, cond_true]
        · cases (tf_ng a != tf_ng b)
          · exact tg_sd 120 false (by omega)
          · exact tg_sd 120 true (by omega)
        · cases (tf_ng a != tf_ng b)
          · exact tg_sl
          · exact tg_sl
    · exact tg_c 124 (by decide)
  · exact tg_c 124 (by decide)
theorem tf_Q1 {n : Nat} (h : n ≤ 1000000) : tf_Q (512 * n) 1 (n * 262144) 0 := ⟨by omega, by omega, by omega, by omega⟩
theorem tg_from {m : Nat} {N HX HY p : Int32} {A : Nat → Int32} (hm : m < 4) (hA : tf_TB A) (h1 : ¬ p < (-1000000)) (h2 : p ≤ 1000000) : tf_Ag m HX HY A (fun post => wpX_from post (nI m, N, HX) p) (fun post => wpY_from post (nI m, N, HY, A) p) := by
  simp only [wpX_from, wpY_from, tf_iff h1, tf_ift h2, wX_from_23, wX_from_36, wY_from_26, wY_from_51, tf_10, true_implies, false_implies, not_true_eq_false, not_false_eq_true, and_true, true_and]
  by_cases h0 : 0 ≤ p
  · obtain ⟨n, hn, rfl⟩ := nI_of (x := p) (Int32.not_lt.mpr h0)
    have hl : n ≤ 1000000 := (nI_leI (b := 1000000) hn (by decide)).mp h2
    simp only [tf_ift h0, nI_l hn, tf_shl18, show (512 : Int64) * lN n = lN (512 * n) from lN_mul 512 n]
    by_cases hz : n = 0
    · subst hz
      simp only [tf_ift (show nI 0 = 0 from rfl)]
      exact ⟨0, N, by decide, fun post hp => tx_r0 false hm hp, fun post hp => hp⟩
    · simp only [tf_iff (show ¬ nI n = 0 from nI_ne0 (by omega) hn)]
      exact tg_r0 false hA hm (by omega) (tf_Q1 hl)
  · have q1 : ¬ p.toInt < -1000000 := fun z => h1 (Int32.lt_iff_toInt_lt.mpr z)
    have q2 : ¬ 0 ≤ p.toInt := fun z => h0 (Int32.le_iff_toInt_le.mpr z)
    obtain ⟨n, hn⟩ : ∃ n : Nat, p.toInt = -(n : Int) := ⟨(-p.toInt).toNat, by omega⟩
    have e : -p = nI n := by
      apply Int32.toInt_inj.mp
      rw [Int32.toInt_neg, nI_toInt (by omega), hn]
      exact (Int.bmod_eq_of_le (by omega) (by omega)).trans (by omega)
    have hp0 : ¬ p = 0 := fun z => by
      subst z
      exact h0 (by decide)
    simp only [tf_iff h0, tf_iff hp0, e, nI_l (show n < 2 ^ 31 by omega), tf_shl18, show (512 : Int64) * lN n = lN (512 * n) from lN_mul 512 n]
    exact tg_r0 true hA hm (by omega) (tf_Q1 (by omega))
end
section
/-! sums -/
theorem ty_val {post : Int32 → Prop} {M N H : Int32} {A : Nat → Int32} {c : Nat} (hA : tf_TB A) (hc : c < 256) (h : c % 128 < 121) : wpY_valueOf post (M, N, H, A) (nI c) = post (cond (tf_ng c) (-nI (tf_sz (c % 128))) (nI (tf_sz (c % 128)))) := by
  unfold wpY_valueOf
  dsimp only
  rw [ty_isNegative hc, tf_r128 c hc, tf_nd (by decide), tf_nd (by decide), tf_vin h, tf_vin h, tf_look hA h, tf_br]
  cases tf_ng c <;> rfl
theorem tf_nT {w : Nat} (h : w < 2 ^ 31) : (-nI w).toInt = -(w : Int) := by
  rw [Int32.toInt_neg, nI_toInt h]
  exact Int.bmod_eq_of_le (by omega) (by omega)
theorem tf_nL {w : Nat} (h : w < 2 ^ 62) : (-lN w).toInt = -(w : Int) := by
  rw [Int64.toInt_neg, pk_lT (by omega)]
  exact Int.bmod_eq_of_le (by omega) (by omega)
theorem tf_v64 {w : Nat} (t : Bool) (h : w < 2 ^ 31) : (cond t (-nI w) (nI w)).toInt64 = cond t (-lN w) (lN w) := by
  cases t
  · exact nI_l h
  · show (-nI w).toInt64 = -lN w
    apply Int64.toInt_inj.mp
    rw [Int32.toInt_toInt64, tf_nT h, tf_nL (by omega)]
theorem ty_fsK {post : Int32 → SY → Prop} {m K w c : Nat} {N H : Int32} {A : Nat → Int32} {s : Bool} {P : Int64} (σ : Bool) (hA : tf_TB A) (hc : c < 256) (h : c % 128 < 121) (hK : 0 < K) (hK2 : K < 2 ^ 62) (hP : P + (cond (tf_ng c) (-lN (tf_sz (c % 128))) (lN (tf_sz (c % 128)))) * lN w = cond σ (-lN K) (lN K)) (hp : wpY_round post (nI m, N, H, A) (lN K) (lN w) (tf_b σ)) : wpY_finiteSum post (nI m, N, H, A) P (lN w) (tf_b s) (nI c) := by
  have hs := tf_szb (show c % 128 ≤ 120 by omega)
  unfold wpY_finiteSum
  dsimp only
  rw [ty_val hA hc h]
  rw [tf_v64 _ (by omega)]
  refine nm_r hP ?_
  cases σ
  · have h1 : ¬ lN K = 0 := fun z => by have := (pk_lEQ (b := 0) (by omega) (by decide)).mp z; omega
    have h2 : 0 ≤ lN K := (pk_lLE (a := 0) (by decide) (by omega)).mpr (by omega)
    exact br_f h1 (br_t h2 (br_t h2 hp))
  · have e := tf_nL hK2
    have h1 : ¬ -lN K = 0 := fun z => by
      rw [z, tf_z64] at e
      omega
    have h2 : ¬ 0 ≤ -lN K := fun z => by
      have := Int64.le_iff_toInt_le.mp z
      rw [e, tf_z64] at this
      omega
    refine br_f h1 (br_f h2 (br_f h2 ?_))
    rw [cond_true, Int64.neg_neg]
    exact hp
theorem ty_fs62 {post : Int32 → SY → Prop} {m : Nat} {N H x : Int32} {A : Nat → Int32} (hm : m < 4) (hp : post (nI (tf_sg (decide (m = 3)) 0)) (nI m, N, H, A)) : wY_finiteSum_62 post x (nI m) N H A := by
  unfold wY_finiteSum_62 wY_finiteSum_63 wY_finiteSum_89
  refine br_t rfl ?_
  by_cases h3 : m = 3
  · subst h3
    refine br_t rfl ?_
    rw [show (1 : Int32) = tf_b true from rfl, ty_zero]
    exact hp
  · refine br_f (fun z => h3 ((tf_mE hm (by decide)).mp z)) ?_
    rw [decide_eq_false h3] at hp
    have := ty_zero (post := fun r => post r (nI m, N, H, A)) (M := nI m) (N := N) (H := H) (A := A) (ng := false)
    exact this ▸ hp
theorem ty_fs0B {post : Int32 → SY → Prop} {m w c : Nat} {N H : Int32} {A : Nat → Int32} {s : Bool} {P : Int64} (hm : m < 4) (hA : tf_TB A) (hc : c < 256) (h : c % 128 < 121) (hP : P + (cond (tf_ng c) (-lN (tf_sz (c % 128))) (lN (tf_sz (c % 128)))) * lN w = 0) (hs : (s != tf_ng c) = true) (hp : post (nI (tf_sg (decide (m = 3)) 0)) (nI m, N, H, A)) : wpY_finiteSum post (nI m, N, H, A) P (lN w) (tf_b s) (nI c) := by
  have hz := tf_szb (show c % 128 ≤ 120 by omega)
  have h62 : wY_finiteSum_62 post (tf_b s) (nI m) N H A := ty_fs62 hm hp
  have h39 : wY_finiteSum_39 post (tf_b s) (nI c) (nI m) N H A := br_t rfl h62
  unfold wpY_finiteSum
  dsimp only
  rw [ty_val hA hc h]
  rw [tf_v64 _ (by omega)]
  refine nm_r hP (br_t rfl (br_c (fun _ => ?_) (fun _ => h39)))
  rw [ty_isZero hc, tf_br]
  cases tf_nz c
  · exact h39
  · show wY_finiteSum_40 post (tf_b s) (nI c) 1 (nI m) N H A
    refine br_f (by decide) ?_
    rw [ty_isNegative hc, tf_bx, hs]
    exact h62
theorem ty_fs0A {post : Int32 → SY → Prop} {m w c : Nat} {N H : Int32} {A : Nat → Int32} {s : Bool} {P : Int64} (hA : tf_TB A) (hc : c < 256) (h : c % 128 < 121) (hP0 : P = 0) (hP : P + (cond (tf_ng c) (-lN (tf_sz (c % 128))) (lN (tf_sz (c % 128)))) * lN w = 0) (hz0 : tf_nz c = true) (hs : (s != tf_ng c) = false) (hp : post (nI (tf_sg s 0)) (nI m, N, H, A)) : wpY_finiteSum post (nI m, N, H, A) P (lN w) (tf_b s) (nI c) := by
  have hz := tf_szb (show c % 128 ≤ 120 by omega)
  unfold wpY_finiteSum
  dsimp only
  rw [ty_val hA hc h]
  rw [tf_v64 _ (by omega)]
  refine nm_r hP (br_t rfl (br_t hP0 ?_))
  rw [ty_isZero hc, tf_br, hz0]
  show wY_finiteSum_40 post (tf_b s) (nI c) 1 (nI m) N H A
  refine br_f (by decide) ?_
  rw [ty_isNegative hc, tf_bx, hs]
  show wY_finiteSum_63 post (tf_b s) 1 (nI m) N H A
  refine br_f (by decide) ?_
  unfold wY_finiteSum_89
  rw [ty_zero]
  exact hp
theorem tx_swS {post : Int32 → SX → Prop} {m F c : Nat} {N H : Int32} {s : Bool} (hc : c < 256) (hf : tf_nf c = false) (hs : (s != tf_ng c) = false) (hp : wpX_rounded post (nI m, N, H) (tf_b s) (lN (F + tf_sz (c % 128) * 512)) (tf_b false)) : wpX_sumWith post (nI m, N, H) (tf_b false) (tf_b s) (lN F) (nI c) := by
  unfold wpX_sumWith wX_sumWith_14
  dsimp only
  rw [tx_isNegative hc, tf_bx, hs, cond_false]
  refine br_t rfl ?_
  rw [tx_isInfinite hc, hf]
  refine br_t rfl ?_
  rw [tx_size hc]
  refine nm_r (tf_shl9 _) (br_t rfl ?_)
  rw [lN_add]
  exact hp
theorem tx_swO {post : Int32 → SX → Prop} {m F c : Nat} {N H : Int32} {s : Bool} (hm : m < 4) (hF : F < 2 ^ 44) (hc : c < 256) (hf : tf_nf c = false) (hs : (s != tf_ng c) = true) (h0 : F = tf_sz (c % 128) * 512 → post (nI (tf_sg (decide (m = 3)) 0)) (nI m, N, H)) (h1 : tf_sz (c % 128) * 512 < F → wpX_rounded post (nI m, N, H) (tf_b s) (lN (F - tf_sz (c % 128) * 512)) (tf_b false)) (h2 : F < tf_sz (c % 128) * 512 → wpX_rounded post (nI m, N, H) (tf_b (!s)) (lN (tf_sz (c % 128) * 512 - F)) (tf_b false)) (hcb : c % 128 < 121) : wpX_sumWith post (nI m, N, H) (tf_b false) (tf_b s) (lN F) (nI c) := by
  have hz := tf_szb (show c % 128 ≤ 120 by omega)
  unfold wpX_sumWith wX_sumWith_14
  dsimp only
  rw [tx_isNegative hc, tf_bx, hs, cond_true]
  refine br_t rfl ?_
  rw [tx_isInfinite hc, hf]
  refine br_t rfl ?_
  rw [tx_size hc]
  refine nm_r (tf_shl9 _) (br_f (by decide) ?_)
  rw [pk_lEQ (by omega) (by omega), pk_lLE (by omega) (by omega)]
  refine br_c (fun he => ?_) (fun hne => br_c (fun hle => ?_) (fun hgt => ?_))
  · unfold wX_sumWith_105
    by_cases h3 : m = 3
    · subst h3
      refine br_t rfl ?_
      have := tx_signed (post := fun r => post r (nI 3, N, H)) (c := 0) (ng := true)
      exact this ▸ h0 he
    · refine br_f (fun z => h3 ((tf_mE hm (by decide)).mp z)) ?_
      rw [decide_eq_false h3] at h0
      have := tx_signed (post := fun r => post r (nI m, N, H)) (c := 0) (ng := false)
      exact this ▸ h0 he
  · unfold wX_sumWith_137
    rw [lN_sub (by omega), tf_br]
    have h3 := h2 (by omega)
    cases s
    · exact h3
    · exact h3
  · rw [lN_sub (by omega)]
    exact h1 (by omega)
theorem tf_w1 {a b w : Nat} : lN a + lN b * lN w = lN (a + b * w) := by rw [lN_mul, lN_add]
theorem tf_w2 {a b w : Nat} : -lN a + -lN b * lN w = -lN (a + b * w) := by
  rw [← tf_w1]
  grind
theorem tf_w3 {a b w : Nat} (h : b * w ≤ a) : lN a + -lN b * lN w = lN (a - b * w) := by
  rw [← lN_sub h, ← lN_mul]
  grind
theorem tf_w4 {a b w : Nat} (h : a ≤ b * w) : lN a + -lN b * lN w = -lN (b * w - a) := by
  rw [← lN_sub h, ← lN_mul]
  grind
theorem tf_w5 {a b w : Nat} (h : b * w ≤ a) : -lN a + lN b * lN w = -lN (a - b * w) := by
  rw [← lN_sub h, ← lN_mul]
  grind
theorem tf_w6 {a b w : Nat} (h : a ≤ b * w) : -lN a + lN b * lN w = lN (b * w - a) := by
  rw [← lN_sub h, ← lN_mul]
  grind
end
section
/-! the finite sum on both sides, add, together -/
theorem tf_wz {b w : Nat} (hw : 0 < w) (h : b * w = 0) : b = 0 := by
  rcases Nat.mul_eq_zero.mp h with h | h
  · exact h
  · omega
theorem tg_fs {m c F a w : Nat} {N HX HY : Int32} {A : Nat → Int32} (s : Bool) (hm : m < 4) (hA : tf_TB A) (hc : c < 256) (hfc : c % 128 < 120) (hw : 0 < w) (hw2 : w ≤ 512) (hF : F * w = 512 * a) (hFb : F < 2 ^ 40) (hab : a < 2 ^ 40) : tf_Ag m HX HY A (fun post => wpX_sumWith post (nI m, N, HX) (tf_b false) (tf_b s) (lN F) (nI c)) (fun post => wpY_finiteSum post (nI m, N, HY, A) (cond s (-lN a) (lN a)) (lN w) (tf_b s) (nI c)) := by
  have hnf : tf_nf c = false := by
    unfold tf_nf
    exact decide_eq_false (by omega)
  have hcb : c % 128 < 121 := by omega
  have hz := tf_szb (show c % 128 ≤ 120 by omega)
  have hBw := Nat.mul_le_mul hz hw2
  have hE : (F + tf_sz (c % 128) * 512) * w = 512 * (a + tf_sz (c % 128) * w) := by
    rw [Nat.add_mul, hF, Nat.mul_add, Nat.mul_right_comm, Nat.mul_comm (tf_sz (c % 128) * w)]
  cases hs : (s != tf_ng c)
  · -- the same sign
    have hsum : (cond s (-lN a) (lN a)) + (cond (tf_ng c) (-lN (tf_sz (c % 128))) (lN (tf_sz (c % 128)))) * lN w = cond s (-lN (a + tf_sz (c % 128) * w)) (lN (a + tf_sz (c % 128) * w)) := by
      have e : tf_ng c = s := by revert hs; cases s <;> cases tf_ng c <;> decide
      rw [e]
      cases s
      · exact tf_w1
      · exact tf_w2
    by_cases h0 : a + tf_sz (c % 128) * w = 0
    · have ha0 : a = 0 := by omega
      have hB0 : tf_sz (c % 128) = 0 := tf_wz hw (by omega)
      have hF0 : F = 0 := tf_wz hw (by rw [hF, ha0])
      have hz0 : tf_nz c = true := by
        unfold tf_nz
        refine decide_eq_true ?_
        apply Classical.byContradiction
        intro hn
        have := tf_szp (show 0 < c % 128 by omega)
        omega
      have hP0 : cond s (-lN a) (lN a) = 0 := by
        rw [ha0]
        cases s <;> decide
      refine ⟨tf_sg s 0, N, tf_sgb (by omega), fun post hp => tx_swS hc hnf hs ?_, fun post hp => ty_fs0A hA hc hcb hP0 ?_ hz0 hs hp⟩
      · rw [hF0, hB0]
        exact tx_r0 s hm hp
      · rw [hsum, h0]
        cases s <;> decide
    · obtain ⟨h, n, hh, gx, gy⟩ := tg_r0 (N := N) (HX := HX) (HY := HY) (a := a + tf_sz (c % 128) * w) (b := w) (f := F + tf_sz (c % 128) * 512) s hA hm (by omega) ⟨by omega, hw, by omega, by omega⟩
      exact ⟨h, n, hh, fun post hp => tx_swS hc hnf hs (gx post hp), fun post hp => ty_fsK s hA hc hcb (by omega) (by omega) hsum (gy post hp)⟩
  · -- the other sign
    have e : tf_ng c = !s := by revert hs; cases s <;> cases tf_ng c <;> decide
    have hB5 : tf_sz (c % 128) * 512 * w = 512 * (tf_sz (c % 128) * w) := by
      rw [Nat.mul_right_comm, Nat.mul_comm (tf_sz (c % 128) * w)]
    rcases Nat.lt_trichotomy F (tf_sz (c % 128) * 512) with hlt | heq | hgt
    · have hl := Nat.mul_lt_mul_of_pos_right hlt hw
      have hQ : 512 * (tf_sz (c % 128) * w - a) = (tf_sz (c % 128) * 512 - F) * w + 0 := by
        rw [Nat.sub_mul, hF, hB5]
        omega
      have hsum : (cond s (-lN a) (lN a)) + (cond (tf_ng c) (-lN (tf_sz (c % 128))) (lN (tf_sz (c % 128)))) * lN w = cond (!s) (-lN (tf_sz (c % 128) * w - a)) (lN (tf_sz (c % 128) * w - a)) := by
        rw [e]
        cases s
        · exact tf_w4 (by omega)
        · exact tf_w6 (by omega)
      obtain ⟨h, n, hh, gx, gy⟩ := tg_r0 (N := N) (HX := HX) (HY := HY) (a := tf_sz (c % 128) * w - a) (b := w) (f := tf_sz (c % 128) * 512 - F) (!s) hA hm (by omega) ⟨hQ, hw, by omega, by omega⟩
      exact ⟨h, n, hh, fun post hp => tx_swO hm (by omega) hc hnf hs (fun z => by omega) (fun z => by omega) (fun _ => gx post hp) hcb, fun post hp => ty_fsK (!s) hA hc hcb (by omega) (by omega) hsum (gy post hp)⟩
    · have haB : a = tf_sz (c % 128) * w := by
        have hl : F * w = tf_sz (c % 128) * 512 * w := by rw [heq]
        omega
      have hsum : (cond s (-lN a) (lN a)) + (cond (tf_ng c) (-lN (tf_sz (c % 128))) (lN (tf_sz (c % 128)))) * lN w = 0 := by
        rw [e]
        cases s
        · exact (tf_w3 (by omega)).trans (by rw [haB, Nat.sub_self]; rfl)
        · exact (tf_w6 (by omega)).trans (by rw [haB, Nat.sub_self]; rfl)
      exact ⟨tf_sg (decide (m = 3)) 0, N, tf_sgb (by omega), fun post hp => tx_swO hm (by omega) hc hnf hs (fun _ => hp) (fun z => by omega) (fun z => by omega) hcb, fun post hp => ty_fs0B hm hA hc hcb hsum hs hp⟩
    · have hl := Nat.mul_lt_mul_of_pos_right hgt hw
      have hQ : 512 * (a - tf_sz (c % 128) * w) = (F - tf_sz (c % 128) * 512) * w + 0 := by
        rw [Nat.sub_mul, hF, hB5]
        omega
      have hsum : (cond s (-lN a) (lN a)) + (cond (tf_ng c) (-lN (tf_sz (c % 128))) (lN (tf_sz (c % 128)))) * lN w = cond s (-lN (a - tf_sz (c % 128) * w)) (lN (a - tf_sz (c % 128) * w)) := by
        rw [e]
        cases s
        · exact tf_w3 (by omega)
        · exact tf_w5 (by omega)
      obtain ⟨h, n, hh, gx, gy⟩ := tg_r0 (N := N) (HX := HX) (HY := HY) (a := a - tf_sz (c % 128) * w) (b := w) (f := F - tf_sz (c % 128) * 512) s hA hm (by omega) ⟨hQ, hw, by omega, by omega⟩
      exact ⟨h, n, hh, fun post hp => tx_swO hm (by omega) hc hnf hs (fun z => by omega) (fun _ => gx post hp) (fun z => by omega) hcb, fun post hp => ty_fsK s hA hc hcb (by omega) (by omega) hsum (gy post hp)⟩
theorem tf_a120 {a : Nat} (ha : a < 256) (h : tf_nf a = true) : tf_sg (tf_ng a) 120 = a := by
  unfold tf_nf at h
  rw [decide_eq_true_iff] at h
  unfold tf_ng
  by_cases h1 : 128 ≤ a
  · rw [decide_eq_true h1]
    show 128 + 120 = a
    omega
  · rw [decide_eq_false h1]
    show 120 = a
    omega
theorem tx_swC {post : Int32 → SX → Prop} {m c : Nat} {N H : Int32} {G : Int64} {s : Bool} (hc : c < 256) (hf : tf_nf c = true) (hp : post (nI c) (nI m, N, H)) : wpX_sumWith post (nI m, N, H) (tf_b false) (tf_b s) G (nI c) := by
  simp only [wpX_sumWith, wX_sumWith_14, tx_isNegative hc, tf_bx, tx_isInfinite hc, hf, tf_br, cond_true, cond_false]
  cases (s != tf_ng c) <;> exact hp
theorem tx_swI {post : Int32 → SX → Prop} {m c : Nat} {N H : Int32} {G : Int64} {s : Bool} (hc : c < 256) (hf : (tf_nf c && (s != tf_ng c)) = false) (hp : post (nI (tf_sg s 120)) (nI m, N, H)) : wpX_sumWith post (nI m, N, H) (tf_b true) (tf_b s) G (nI c) := by
  have h40 : wX_sumWith_40 post (tf_b s) (nI m) N H := by
    unfold wX_sumWith_40
    have := tx_signed (post := fun r => post r (nI m, N, H)) (c := 120) (ng := s)
    exact this ▸ hp
  simp only [wpX_sumWith, wX_sumWith_14, tx_isNegative hc, tf_bx, tx_isInfinite hc, tf_br, cond_true, cond_false]
  revert hf
  cases tf_nf c <;> cases (s != tf_ng c) <;> intro hf
  · exact h40
  · exact h40
  · exact br_t trivial h40
  · exact absurd hf (by decide)
theorem tx_swN {post : Int32 → SX → Prop} {m c : Nat} {N H : Int32} {G : Int64} {s : Bool} (hc : c < 256) (hf : tf_nf c = true) (hs : (s != tf_ng c) = true) (hp : wpX_senseless post (nI m, N, H)) : wpX_sumWith post (nI m, N, H) (tf_b true) (tf_b s) G (nI c) := by
  simp only [wpX_sumWith, wX_sumWith_14, tx_isNegative hc, tf_bx, tx_isInfinite hc, tf_br, hf, hs, cond_true, cond_false]
  exact br_f (by decide) hp
theorem tf_fle {a : Nat} (h1 : tf_nn a = false) : a % 128 < 121 := by
  unfold tf_nn at h1
  rw [decide_eq_false_iff_not] at h1
  omega
theorem tg_add {m a b : Nat} {N HX HY : Int32} {A : Nat → Int32} (hm : m < 4) (hA : tf_TB A) (ha : a < 256) (hb : b < 256) : tf_Ag m HX HY A (fun post => wpX_sum post (nI m, N, HX) (nI a) (nI b)) (fun post => wpY_add post (nI m, N, HY, A) (nI a) (nI b)) := by
  simp only [wpX_sum, wX_sum_43, wpY_add, ty_code ha, ty_code hb, tf_br, tx_isNone ha, tx_isNone hb, ty_isNone ha, ty_isNone hb, tx_isInfinite ha, ty_isInfinite ha, ty_isInfinite hb, tx_isNegative ha, ty_isNegative ha, tx_size ha, tf_shl9, cond_true, cond_false]
  cases hna : tf_nn a
  · cases hnb : tf_nn b
    · cases hfa : tf_nf a
      · have h1 := tf_fin hna hfa
        have s1 := tf_szb (show a % 128 ≤ 120 by omega)
        simp only [cond_false, cond_true, ty_val hA ha (show a % 128 < 121 by omega), tf_v64 (w := tf_sz (a % 128)) (tf_ng a) (by omega)]
        cases hfb : tf_nf b
        · exact tg_fs (w := 1) (tf_ng a) hm hA hb (tf_fin hnb hfb) (by omega) (by omega) (by omega) (by omega) (by omega)
        · exact ⟨b, N, hb, fun post hp => tx_swC hb hfb hp, fun post hp => hp⟩
      · simp only [cond_false, cond_true]
        have e := tf_a120 ha hfa
        cases hfb : tf_nf b
        · exact ⟨a, N, ha, fun post hp => tx_swI hb (by rw [hfb]; rfl) (by rw [e]; exact hp), fun post hp => hp⟩
        · have e2 := tf_a120 hb hfb
          simp only [cond_true]
          cases hs : (tf_ng a != tf_ng b)
          · have e3 : a = b := by
              rw [← e, ← e2]
              congr 1
              revert hs
              cases tf_ng a <;> cases tf_ng b <;> decide
            exact ⟨a, N, ha, fun post hp => tx_swI hb (by rw [hfb, hs]; rfl) (by rw [e]; exact hp), fun post hp => br_t (by rw [e3]) hp⟩
          · have e3 : ¬ nI a = nI b := fun z => by
              have := (nI_eq (by omega) (by omega)).mp z
              subst this
              revert hs
              cases tf_ng a <;> decide
            obtain ⟨h, n, hh, gx, gy⟩ := tg_sl (m := m) (N := N) (HX := HX) (HY := HY) (A := A)
            exact ⟨h, n, hh, fun post hp => tx_swN hb hfb hs (gx post hp), fun post hp => br_f e3 (gy post hp)⟩
    · exact tg_c 124 (by decide)
  · exact tg_c 124 (by decide)
theorem ty_sgL (M N H : Int32) (A : Nat → Int32) (post : Int32 → Prop) (s : Bool) : wpY_signed post (M, N, H, A) 120 (tf_b s) = post (nI (tf_sg s 120)) := ty_signed
theorem tg_tog {m a b c : Nat} {N HX HY : Int32} {A : Nat → Int32} (hm : m < 4) (hA : tf_TB A) (ha : a < 256) (hb : b < 256) (hc : c < 256) : tf_Ag m HX HY A (fun post => wpX_productAndSum post (nI m, N, HX) (nI a) (nI b) (nI c)) (fun post => wpY_together post (nI m, N, HY, A) (nI a) (nI b) (nI c)) := by
  have Y71 : ∀ (s : Bool) (post : Int32 → SY → Prop), cond s (wY_together_71 post (nI a) (nI b) (nI c) 1 (nI m) N HY A) (wY_together_71 post (nI a) (nI b) (nI c) 0 (nI m) N HY A) = wY_together_71 post (nI a) (nI b) (nI c) (tf_b s) (nI m) N HY A := by
    intro s post
    cases s <;> rfl
  have X74 : ∀ (s : Bool) (post : Int32 → SX → Prop) (i : Int32), cond s (wX_productAndSum_74 post (nI a) (nI b) (nI c) i 1 (nI m) N HX) (wX_productAndSum_74 post (nI a) (nI b) (nI c) i 0 (nI m) N HX) = wX_productAndSum_74 post (nI a) (nI b) (nI c) i (tf_b s) (nI m) N HX := by
    intro s post i
    cases s <;> rfl
  simp only [wpX_productAndSum, wX_productAndSum_51, wX_productAndSum_56, wpY_together, ty_code ha, ty_code hb, ty_code hc, tf_br, tf_bx, tx_isNone ha, tx_isNone hb, tx_isNone hc, ty_isNone ha, ty_isNone hb, ty_isNone hc, tx_isInfinite ha, tx_isInfinite hb, tx_isNegative ha, tx_isNegative hb, ty_isNegative ha, ty_isNegative hb, tx_iz ha hb, cond_true, cond_false, Y71, X74]
  generalize (tf_ng a != tf_ng b) = s
  simp only [wX_productAndSum_74, wX_productAndSum_94, wY_together_71, wY_together_89, wY_together_117, wY_together_118, wY_together_141, wY_together_200, ty_isInfinite ha, ty_isInfinite hb, ty_isInfinite hc, ty_isZero ha, ty_isZero hb, ty_sgL, tf_br, tx_size ha, tx_size hb, tf_r128 a ha, tf_r128 b hb, tf_10, true_implies, false_implies, not_true_eq_false, not_false_eq_true, and_true, true_and, tf_nd (show ¬ (128 : Int32) = 0 by decide)]
  cases hna : tf_nn a
  · cases hnb : tf_nn b
    · cases hnc : tf_nn c
      · simp only [cond_false]
        have sl := tg_sl (m := m) (N := N) (HX := HX) (HY := HY) (A := A)
        have inf : (tf_nf a || tf_nf b) = true → tf_nz a = false → tf_nz b = false → tf_Ag m HX HY A (fun post => wpX_sumWith post (nI m, N, HX) (tf_b true) (tf_b s) 0 (nI c)) (fun post => cond (tf_nf c) ((nI c = nI (tf_sg s 120) → post (nI (tf_sg s 120)) (nI m, N, HY, A)) ∧ (¬ nI c = nI (tf_sg s 120) → wpY_senseless post (nI m, N, HY, A))) (post (nI (tf_sg s 120)) (nI m, N, HY, A))) := by
          intro _ _ _
          cases hfc : tf_nf c
          · exact ⟨tf_sg s 120, N, tf_sgb (by omega), fun post hp => tx_swI hc (by rw [hfc]; rfl) hp, fun post hp => hp⟩
          · have e := tf_a120 hc hfc
            cases hs : (s != tf_ng c)
            · have e3 : tf_ng c = s := by revert hs; cases s <;> cases tf_ng c <;> decide
              rw [e3] at e
              exact ⟨tf_sg s 120, N, tf_sgb (by omega), fun post hp => tx_swI hc (by rw [hfc, hs]; rfl) hp, fun post hp => br_t (by rw [e]) hp⟩
            · have e3 : ¬ nI c = nI (tf_sg s 120) := fun z => by
                have z2 := (nI_eq (by omega) (by have := tf_sgb (ng := s) (d := 120) (by omega); omega)).mp z
                rw [← e] at z2
                revert hs z2
                cases s <;> cases tf_ng c <;> decide
              obtain ⟨h, n, hh, gx, gy⟩ := sl
              exact ⟨h, n, hh, fun post hp => tx_swN hc hfc hs (gx post hp), fun post hp => br_f e3 (gy post hp)⟩
        cases hfa : tf_nf a
        · cases hfb : tf_nf b
          · have h1 := tf_fin hna hfa
            have h2 := tf_fin hnb hfb
            have hpb := tf_pb h1 h2
            simp only [Bool.false_and, Bool.and_false, Bool.or_false, cond_false, tf_vin (show a % 128 < 121 by omega), tf_vin (show b % 128 < 121 by omega), tf_look hA (show a % 128 < 121 by omega), tf_look hA (show b % 128 < 121 by omega), tf_l (show a % 128 < 121 by omega), tf_l (show b % 128 < 121 by omega), lN_mul, forall_eq]
            generalize tf_sz (a % 128) * tf_sz (b % 128) = p at hpb
            cases hfc : tf_nf c
            · have := tg_fs (m := m) (N := N) (HX := HX) (HY := HY) (A := A) (F := p) (a := p) (w := 512) s hm hA hc (tf_fin hnc hfc) (by omega) (by omega) (by omega) (by omega) (by omega)
              cases s
              · exact this
              · exact this
            · exact ⟨c, N, hc, fun post hp => tx_swC hc hfc hp, fun post hp => hp⟩
          · have hzb := tf_fz hfb
            cases hza : tf_nz a
            · have := inf (by rw [hfa, hfb]; rfl) hza hzb
              simp only [hzb, Bool.false_and, Bool.true_and, Bool.and_false, Bool.or_false, cond_false, cond_true]
              exact this
            · simp only [hzb, Bool.false_and, Bool.true_and, Bool.and_false, Bool.or_true, Bool.false_or, cond_false, cond_true]
              cases tf_nf c
              · exact sl
              · obtain ⟨h, n, hh, gx, gy⟩ := sl
                exact ⟨h, n, hh, gx, fun post hp => br_c (fun _ => gy post hp) (fun _ => gy post hp)⟩
        · have hza := tf_fz hfa
          cases hzb : tf_nz b
          · have := inf (by rw [hfa]; rfl) hza hzb
            simp only [hza, Bool.false_and, Bool.true_and, Bool.and_false, Bool.or_false, cond_false, cond_true]
            exact this
          · simp only [hza, Bool.false_and, Bool.true_and, Bool.and_false, Bool.or_true, Bool.or_false, cond_false, cond_true]
            cases tf_nf c
            · exact sl
            · obtain ⟨h, n, hh, gx, gy⟩ := sl
              exact ⟨h, n, hh, gx, fun post hp => br_c (fun _ => gy post hp) (fun _ => gy post hp)⟩
      · exact tg_c 124 (by decide)
    · exact tg_c 124 (by decide)
  · exact tg_c 124 (by decide)
end
section
/-! compare, whole, root, the table of sizes -/
theorem tx_place {post : Int32 → Prop} {a : Nat} (ha : a < 256) : wpX_place post (nI a) = post (cond (tf_ng a) (-nI (a % 128)) (nI (a % 128))) := by
  unfold wpX_place
  rw [tf_r128 a ha, tf_nd (by decide), forall_eq, tx_isNegative ha, tf_br]
  cases tf_ng a <;> rfl
theorem tf_ct {w : Nat} (t : Bool) (h : w < 2 ^ 31) : (cond t (-nI w) (nI w)).toInt = cond t (-(w : Int)) (w : Int) := by
  cases t
  · exact nI_toInt h
  · exact tf_nT h
def tf_sz3 (z : Int) : Int32 := if 0 < z then 1 else if z = 0 then 0 else -1
theorem ty_sgn {post : Int32 → Prop} {M N H : Int32} {A : Nat → Int32} {x : Int64} {z : Int} (hx : x.toInt = z) : wpY_sign post (M, N, H, A) x = post (tf_sz3 z) := by
  unfold wpY_sign tf_sz3
  dsimp only
  rw [Int64.le_iff_toInt_le, Int64.le_iff_toInt_le, hx, tf_z64]
  by_cases h1 : 0 < z
  · rw [if_pos h1, tf_ift (by omega), tf_iff (by omega)]
  · rw [if_neg h1]
    by_cases h2 : z = 0
    · rw [if_pos h2, tf_ift (by omega), tf_ift (by omega)]
    · rw [if_neg h2, tf_iff (by omega)]
theorem tf_ord (x y : Nat) : (x < y ∧ tf_sz x < tf_sz y) ∨ (x = y ∧ tf_sz x = tf_sz y) ∨ (y < x ∧ tf_sz y < tf_sz x) := by
  rcases Nat.lt_trichotomy x y with h | h | h
  · have h1 := tf_szs x
    have h2 := tf_szm (show x + 1 ≤ y from h)
    exact Or.inl ⟨h, by omega⟩
  · exact Or.inr (Or.inl ⟨h, by rw [h]⟩)
  · have h1 := tf_szs y
    have h2 := tf_szm (show y + 1 ≤ x from h)
    exact Or.inr (Or.inr ⟨h, by omega⟩)
theorem tg_cmp {m a b : Nat} {N HX HY : Int32} {A : Nat → Int32} (hA : tf_TB A) (ha : a < 256) (hb : b < 256) : ∃ r : Int32, (∀ post, post r → wpX_compare post (nI m, N, HX) (nI a) (nI b)) ∧ (∀ post, post r → wpY_compare post (nI m, N, HY, A) (nI a) (nI b)) := by
  simp only [wpX_compare, wpY_compare, tx_code ha, tx_code hb, ty_code ha, ty_code hb, tf_br, tx_isNone ha, tx_isNone hb, ty_isNone ha, ty_isNone hb, tx_place ha, tx_place hb, cond_true]
  cases hna : tf_nn a
  · cases hnb : tf_nn b
    · have h1 := tf_fle hna
      have h2 := tf_fle hnb
      have s1 := tf_szb (show a % 128 ≤ 120 by omega)
      have s2 := tf_szb (show b % 128 ≤ 120 by omega)
      simp only [cond_false, ty_val hA ha h1, ty_val hA hb h2]
      obtain ⟨z, hz⟩ : ∃ z : Int, z = cond (tf_ng a) (-(tf_sz (a % 128) : Int)) (tf_sz (a % 128) : Int) - cond (tf_ng b) (-(tf_sz (b % 128) : Int)) (tf_sz (b % 128) : Int) := ⟨_, rfl⟩
      have hx : (cond (tf_ng a) (-nI (tf_sz (a % 128))) (nI (tf_sz (a % 128))) - cond (tf_ng b) (-nI (tf_sz (b % 128))) (nI (tf_sz (b % 128)))).toInt64.toInt = z := by
        rw [Int32.toInt_toInt64, Int32.toInt_sub, tf_ct _ (by omega), tf_ct _ (by omega), ← hz]
        apply Int.bmod_eq_of_le
        · rw [hz]
          cases tf_ng a <;> cases tf_ng b <;> simp only [cond_true, cond_false] <;> omega
        · rw [hz]
          cases tf_ng a <;> cases tf_ng b <;> simp only [cond_true, cond_false] <;> omega
      have o := tf_ord (a % 128) (b % 128)
      have oa := tf_ord 0 (a % 128)
      have ob := tf_ord 0 (b % 128)
      rw [tf_sz0] at oa ob
      have q1 := tf_ct (w := a % 128) (tf_ng a) (by omega)
      have q2 := tf_ct (w := b % 128) (tf_ng b) (by omega)
      refine ⟨tf_sz3 z, fun post hp => ?_, fun post hp => by rw [ty_sgn hx]; exact hp⟩
      rw [← Int32.toInt_inj, Int32.le_iff_toInt_le, q1, q2]
      unfold tf_sz3 at hp
      refine br_c (fun he => ?_) (fun hn => br_c (fun hl => ?_) (fun hg => ?_))
      · have : z = 0 := by
          revert hz he
          cases tf_ng a <;> cases tf_ng b <;> simp only [cond_true, cond_false] <;> omega
        rw [if_neg (by omega), if_pos this] at hp
        exact hp
      · have : 0 < z := by
          revert hz hn hl
          cases tf_ng a <;> cases tf_ng b <;> simp only [cond_true, cond_false] <;> omega
        rw [if_pos this] at hp
        exact hp
      · have : z < 0 := by
          revert hz hn hg
          cases tf_ng a <;> cases tf_ng b <;> simp only [cond_true, cond_false] <;> omega
        rw [if_neg (by omega), if_neg (by omega)] at hp
        exact hp
    · exact ⟨2, fun post hp => hp, fun post hp => hp⟩
  · exact ⟨2, fun post hp => hp, fun post hp => hp⟩
theorem tf_sr9 {n : Nat} (h : n < 2 ^ 62) : lN n >>> ((9 : Int32).toInt64 &&& 63) = lN (n / 512) := tf_shr (k := 9) h (by decide)
theorem tf_nI64 (n : Nat) : (-lN n).toInt32 = -nI n := by
  rw [Int64.toInt32_neg, lN_i]
theorem tg_whole {m a : Nat} {N HX HY : Int32} {A : Nat → Int32} (hm : m < 4) (hA : tf_TB A) (ha : a < 256) : ∃ r : Int32, (∀ post, post r → wpX_whole post (nI m, N, HX) (nI a)) ∧ (∀ post, post r → wpY_whole post (nI m, N, HY, A) (nI a)) := by
  simp only [wpX_whole, wpY_whole, wY_whole_100, wY_whole_104, wY_whole_129, wY_whole_130, wY_whole_144, tx_code ha, ty_code ha, tf_br, tx_isNone ha, ty_isNone ha, tx_isInfinite ha, ty_isInfinite ha, tx_isNegative ha, ty_isNegative ha, tx_aw hm, ty_goesUp hm, tx_size ha, tf_r128 a ha, cond_true, tf_10, true_implies, false_implies, not_true_eq_false, not_false_eq_true, and_true, true_and]
  cases hna : tf_nn a
  · cases hfa : tf_nf a
    · have h1 := tf_fin hna hfa
      have s1 := tf_szb (show a % 128 ≤ 120 by omega)
      simp only [cond_false, tf_vin (show a % 128 < 121 by omega), tf_look hA (show a % 128 < 121 by omega), forall_eq]
      generalize tf_sz (a % 128) = S at s1
      simp only [show nI S / 512 = nI (S / 512) from pk_div (d := 512) (by omega) (by decide) (by decide), show nI S - nI (S / 512) * 512 = nI (S % 512) from (by rw [← pk_rem (a := S) (d := 512) (by omega) (by decide) (by decide), pk_div (by omega) (by decide) (by decide)]; rfl), show nI (S / 512) - nI (S / 512) / 2 * 2 = nI (S / 512 % 2) from pk_rem (d := 2) (by omega) (by decide) (by decide), tf_nd (show ¬ (128 : Int32) = 0 by decide), tf_nd (show ¬ (512 : Int32) = 0 by decide), tf_nd (show ¬ (2 : Int32) = 0 by decide), nI_1]
      refine ⟨cond (tf_ng a) (-nI (S / 512 + cond (tf_su m (tf_aw m (tf_ng a)) (S / 512) (S % 512) 256 false) 1 0)) (nI (S / 512 + cond (tf_su m (tf_aw m (tf_ng a)) (S / 512) (S % 512) 256 false) 1 0)), fun post hp => ?_, fun post hp => ?_⟩
      · refine tx_step (cut := 9) (mo := false) hm (by omega) (by decide) (by decide) ?_
        rw [tf_sr9 (by omega), tf_b64, lN_add, lN_i, tf_nI64]
        revert hp
        cases tf_ng a <;> exact fun hp => hp
      · unfold tf_su at hp
        have hU : ∀ d : Nat, post (cond (tf_ng a) (-nI d) (nI d)) = cond (tf_ng a) (post (-nI d)) (post (nI d)) := by
          intro d
          cases tf_ng a <;> rfl
        rw [hU] at hp
        by_cases h0 : m = 0
        · subst h0
          rw [if_pos rfl] at hp
          refine br_t rfl ?_
          refine br_c (fun hg => ?_) (fun hn => br_c (fun he => ?_) (fun hl => ?_))
          · have h5 := (nI_ltI (a := 256) (by decide) (by omega)).mp hg
            rw [decide_eq_false (show ¬ S % 512 = 0 by omega), decide_eq_true h5] at hp
            exact hp
          · have h5 := (nI_eq (b := 256) (by omega) (by decide)).mp he
            rw [decide_eq_false (show ¬ S % 512 = 0 by omega), decide_eq_false (show ¬ 256 < S % 512 by omega), decide_eq_true h5] at hp
            refine br_c (fun ho => ?_) (fun ho => ?_)
            · rw [decide_eq_true ((nI_eq (b := 1) (by omega) (by decide)).mp ho)] at hp
              exact hp
            · rw [decide_eq_false (fun z => ho (by rw [z]; rfl))] at hp
              exact hp
          · have h5 : ¬ S % 512 = 256 := fun z => hl (by rw [z]; rfl)
            have h6 : ¬ 256 < S % 512 := fun z => hn ((nI_ltI (a := 256) (by decide) (by omega)).mpr z)
            rw [decide_eq_false h5, decide_eq_false h6, Bool.false_and, Bool.or_false, Bool.or_false, Bool.and_false] at hp
            exact hp
        · rw [if_neg h0] at hp
          refine br_f (fun z => h0 ((tf_mE hm (by decide)).mp z)) ?_
          refine br_c (fun hz => ?_) (fun hz => ?_)
          · have h5 := (nI_leI (b := 0) (by omega) (by decide)).mp hz
            rw [decide_eq_true (show S % 512 = 0 by omega)] at hp
            exact hp
          · have h5 : ¬ S % 512 = 0 := fun z => hz (by rw [z]; decide)
            rw [decide_eq_false h5] at hp
            revert hp
            cases tf_aw m (tf_ng a) <;> exact fun hp => hp
    · refine ⟨cond (tf_ng a) (-1000) 1000, fun post hp => ?_, fun post hp => ?_⟩
      · simp only [cond_true]
        revert hp
        cases tf_ng a <;> exact fun hp => hp
      · simp only [cond_true]
        revert hp
        cases tf_ng a <;> exact fun hp => hp
  · exact ⟨9999, fun post hp => hp, fun post hp => hp⟩
theorem tf_sq {t f q : Nat} (h1 : f * f ≤ q) (h2 : q < (f + 1) * (f + 1)) : t * t ≤ q ↔ t ≤ f := by
  constructor
  · intro h
    apply Classical.byContradiction
    intro hn
    have := Nat.mul_self_le_mul_self (show f + 1 ≤ t by omega)
    omega
  · intro h
    have := Nat.mul_self_le_mul_self h
    omega
theorem tf_sq2 {t f q : Nat} (h1 : f * f ≤ q) (h2 : q < (f + 1) * (f + 1)) : t * t = q ↔ t = f ∧ f * f = q := by
  constructor
  · intro h
    have h3 := (tf_sq (t := t) h1 h2).mp (by omega)
    have h4 : f ≤ t := Nat.mul_self_le_mul_self_iff.mp (by omega)
    have h5 : t = f := by omega
    subst h5
    exact ⟨rfl, h⟩
  · rintro ⟨rfl, h⟩
    exact h
theorem tf_sq3 {t f q : Nat} (h1 : f * f ≤ q) (h2 : q < (f + 1) * (f + 1)) : t * t < q ↔ t < f ∨ (t = f ∧ f * f ≠ q) := by
  have a1 := tf_sq (t := t) h1 h2
  have a2 := tf_sq2 (t := t) h1 h2
  omega
/-- f is the root's floor in 512th parts, q = 2 ^ 18 * Q -/
def tf_R (Q f : Nat) : Prop := f * f ≤ 262144 * Q ∧ 262144 * Q < (f + 1) * (f + 1) ∧ Q < 2 ^ 30 ∧ f < 2 ^ 22
theorem tf_m512 (s : Nat) : 512 * s * (512 * s) = 262144 * (s * s) := by
  rw [Nat.mul_mul_mul_comm]
theorem tf_m256 (s : Nat) : 256 * s * (256 * s) = 65536 * (s * s) := by
  rw [Nat.mul_mul_mul_comm]
theorem tf_v1 {Q f s : Nat} (h : tf_R Q f) : s * s ≤ Q ↔ 512 * s ≤ f := by
  rw [← tf_sq h.1 h.2.1, tf_m512]
  omega
theorem tf_v2 {Q f s : Nat} (h : tf_R Q f) : s * s = Q ↔ 512 * s = f ∧ f * f = 262144 * Q := by
  rw [← tf_sq2 h.1 h.2.1, tf_m512]
  omega
theorem tf_v3 {Q f s : Nat} (h : tf_R Q f) : s * s < 4 * Q ↔ 256 * s < f ∨ (256 * s = f ∧ f * f ≠ 262144 * Q) := by
  rw [← tf_sq3 h.1 h.2.1, tf_m256]
  omega
theorem tf_v4 {Q f s : Nat} (h : tf_R Q f) : s * s = 4 * Q ↔ 256 * s = f ∧ f * f = 262144 * Q := by
  rw [← tf_sq2 h.1 h.2.1, tf_m256]
  omega
theorem tf_bq {s : Nat} (hs : s ≤ 262144) : s * s < 2 ^ 40 := by
  have := Nat.mul_le_mul hs hs
  omega
theorem ty_r168 {post : Int32 → SY → Prop} {N H : Int32} {A : Nat → Int32} {m c : Nat} (g e ex : Bool) (hm : m < 4) (hc : c ≤ 119) (hp : post (nI (tf_sg false (tf_cc (tf_up m g e c false) ex c))) (nI m, tf_cn N ex false (tf_cc (tf_up m g e c false) ex c), H, A)) : wY_root_168 post (nI c) (tf_sn g e) (tf_b ex) (nI m) N H A := by
  unfold wY_root_168
  exact ty_choose g e ex false false hm hc hp
theorem ty_r104 {post : Int32 → SY → Prop} {N H : Int32} {A : Nat → Int32} {m c Q f : Nat} (hA : tf_TB A) (hR : tf_R Q f) (hm : m < 4) (hRS : tf_RS c f) (hp : post (nI (tf_ra m c f (decide (f * f ≠ 262144 * Q)) false)) (nI m, tf_rn N m c f (decide (f * f ≠ 262144 * Q)) false, H, A)) : wY_root_104 post (lN Q) (nI c) (nI m) N H A := by
  have hc := hRS.1
  have s1 := tf_szb (show c ≤ 120 by omega)
  have s2 := tf_szb (show c + 1 ≤ 120 by omega)
  have b1 := tf_bq (s := tf_sz c + tf_sz (c + 1)) (by omega)
  have b2 := tf_bq (s := tf_sz c) (by omega)
  have hQ := hR.2.2.1
  have hgr : tf_gr f = false := by
    unfold tf_gr
    rw [tf_sz120]
    have := hR.2.2.2
    exact decide_eq_false (by omega)
  unfold wY_root_104
  refine ⟨vp_in_nI (by omega) (by omega), ?_, ?_⟩
  · rw [nI_1]
    exact vp_in_nI (by omega) (by omega)
  · rw [nI_1, nI_clamp (by omega), nI_clamp (by omega), hA c (by omega), hA (c + 1) (by omega), nI_add, nI_l (by omega), nI_l (by omega), forall_eq, lN_mul, lN_mul, show (4 : Int64) * lN Q = lN (4 * Q) from lN_mul 4 Q, ty_sign (by omega) (by omega)]
    refine ⟨vp_in_nI (by omega) (by omega), vp_in_nI (by omega) (by omega), ?_⟩
    have g1 : decide ((tf_sz c + tf_sz (c + 1)) * (tf_sz c + tf_sz (c + 1)) < 4 * Q) = tf_g c f (decide (f * f ≠ 262144 * Q)) := by
      unfold tf_g
      rw [← Bool.decide_and, ← Bool.decide_or]
      refine decide_eq_decide.mpr ((tf_v3 hR).trans ?_)
      rw [eq_comm (a := f)]
    have g2 : decide (4 * Q = (tf_sz c + tf_sz (c + 1)) * (tf_sz c + tf_sz (c + 1))) = tf_e c f (decide (f * f ≠ 262144 * Q)) := by
      unfold tf_e
      rw [← decide_not, ← Bool.decide_and]
      refine decide_eq_decide.mpr (eq_comm.trans ((tf_v4 hR).trans ?_))
      rw [eq_comm (a := f)]
      omega
    rw [g1, g2, pk_lEQ (by omega) (by omega)]
    have hu := tf_v2 (s := tf_sz c) hR
    by_cases hx : tf_sz c * tf_sz c = Q
    · have e1 : tf_ex c f (decide (f * f ≠ 262144 * Q)) = true := by
        unfold tf_ex
        rw [← decide_not, ← Bool.decide_and]
        exact decide_eq_true (by omega)
      refine br_t hx (ty_r168 _ _ true hm hc ?_)
      unfold tf_ra tf_rn tf_rc at hp
      rw [e1, hgr] at hp
      exact hp
    · have e1 : tf_ex c f (decide (f * f ≠ 262144 * Q)) = false := by
        unfold tf_ex
        rw [← decide_not, ← Bool.decide_and]
        exact decide_eq_false (by omega)
      refine br_f hx (ty_r168 _ _ false hm hc ?_)
      unfold tf_ra tf_rn tf_rc at hp
      rw [e1, hgr] at hp
      exact hp
theorem ty_r65 {post : Int32 → SY → Prop} {N H : Int32} {A : Nat → Int32} {m c Q f : Nat} (hA : tf_TB A) (hR : tf_R Q f) (hm : m < 4) (hRS : tf_RS c f) (hp : post (nI (tf_ra m c f (decide (f * f ≠ 262144 * Q)) false)) (nI m, tf_rn N m c f (decide (f * f ≠ 262144 * Q)) false, H, A)) : ∀ n d : Nat, d + n = 120 → d ≤ 119 → 512 * tf_sz d ≤ f → wY_root_65 post (lN Q) (nI m) N H A n (nI d) := by
  intro n
  induction n with
  | zero =>
    intro d hd h9 _
    omega
  | succ n ih =>
    intro d hd h9 h
    by_cases h119 : d = 119
    · subst h119
      have e : c = 119 := tf_RSu hRS ⟨by omega, h, fun z => absurd z (by omega)⟩
      subst e
      exact br_t (by decide) (ty_r104 hA hR hm hRS hp)
    · have s2 := tf_szb (show d + 1 ≤ 120 by omega)
      have b2 := tf_bq (s := tf_sz (d + 1)) (by omega)
      have hQ := hR.2.2.1
      have hu := tf_v1 (s := tf_sz (d + 1)) hR
      have hi : vp_in (nI d + 1) 121 := by
        rw [nI_1]
        exact vp_in_nI (by omega) (by omega)
      refine br_f (nI_ge (b := 119) (by omega) (by decide)) ⟨hi, hi, ?_⟩
      rw [nI_1, nI_clamp (by omega), hA (d + 1) (by omega), nI_l (by omega), lN_mul, pk_lLT (by omega) (by omega)]
      by_cases hx : Q < tf_sz (d + 1) * tf_sz (d + 1)
      · have e : c = d := tf_RSu hRS ⟨by omega, h, fun _ => by omega⟩
        subst e
        exact br_t hx (ty_r104 hA hR hm hRS hp)
      · refine br_f hx (nm_e ?_)
        exact ih (d + 1) (by omega) (by omega) (by omega)
theorem tx_rb {post : Int64 → Prop} {q : Nat} (hq : q < 2 ^ 62) (hp : ∀ r : Nat, r * r ≤ q → q < (r + 1) * (r + 1) → r < 2 ^ 22 → post (lN r)) : ∀ j d : Nat, d * d ≤ q → q < (d + 2 ^ j) * (d + 2 ^ j) → d + 2 ^ j ≤ 2 ^ 22 → wX_rootBelow_6 post (lN q) (j + 1) (lN d) (nI j + (-1)) := by
  intro j
  induction j with
  | zero =>
    intro d h1 h2 h3
    exact br_t (by decide) (hp d h1 h2 (by omega))
  | succ j ih =>
    intro d h1 h2 h3
    have hpow : 2 ^ (j + 1) = 2 ^ j + 2 ^ j := by rw [Nat.pow_succ]; omega
    have hpos := Nat.two_pow_pos j
    have hj : j < 22 := by
      apply Classical.byContradiction
      intro hn
      have := Nat.pow_le_pow_right (show 0 < 2 by omega) (show 23 ≤ j + 1 by omega)
      omega
    have ht : (d + 2 ^ j) * (d + 2 ^ j) ≤ 2 ^ 22 * 2 ^ 22 := Nat.mul_le_mul (by omega) (by omega)
    rw [pk_m1]
    refine br_f (nI_pos (by omega)) (nm_r (e' := lN (d + 2 ^ j)) ?_ ?_)
    · have := wb_shl 1 (k := j) (by omega)
      rw [Nat.one_mul] at this
      rw [show (1 : Int64) = lN 1 from rfl, this, lN_add]
    · rw [lN_mul, pk_lLT (by omega) (by omega)]
      by_cases hx : q < (d + 2 ^ j) * (d + 2 ^ j)
      · refine br_t hx (nm_e ?_)
        exact ih d h1 hx (by omega)
      · refine br_f hx (nm_e ?_)
        refine ih (d + 2 ^ j) (by omega) ?_ (by omega)
        rw [Nat.add_assoc, ← hpow]
        exact h2
end
section
/-! root, subtract, the table of sizes -/
theorem tf_isq (q : Nat) : ∃ f : Nat, f * f ≤ q ∧ q < (f + 1) * (f + 1) := by
  induction q with
  | zero => exact ⟨0, by omega, by omega⟩
  | succ q ih =>
    obtain ⟨f, h1, h2⟩ := ih
    by_cases h : (f + 1) * (f + 1) ≤ q + 1
    · refine ⟨f + 1, h, ?_⟩
      have := Nat.mul_self_lt_mul_self (show f + 1 < f + 1 + 1 by omega)
      omega
    · exact ⟨f, by omega, by omega⟩
theorem tf_Re {Q : Nat} (hQ : 262144 * Q < 2 ^ 44) : ∃ f, tf_R Q f := by
  obtain ⟨f, h1, h2⟩ := tf_isq (262144 * Q)
  refine ⟨f, h1, h2, by omega, ?_⟩
  apply Classical.byContradiction
  intro hn
  have := Nat.mul_self_le_mul_self (show 2 ^ 22 ≤ f by omega)
  omega
theorem tx_rootBelow {post : Int64 → Prop} {Q f : Nat} (hR : tf_R Q f) (hQ : 262144 * Q < 2 ^ 44) (hp : post (lN f)) : wpX_rootBelow post (lN (262144 * Q)) := by
  refine ⟨23, ?_⟩
  refine tx_rb (q := 262144 * Q) (by omega) (fun r h1 h2 _ => ?_) 22 0 (by omega) (by omega) (by omega)
  have a1 := (tf_sq (t := r) hR.1 hR.2.1).mp h1
  have a2 := (tf_sq (t := f) h1 h2).mp hR.1
  have e : r = f := by omega
  rw [e]
  exact hp
theorem tg_root {m a : Nat} {N HX HY : Int32} {A : Nat → Int32} (hm : m < 4) (hA : tf_TB A) (ha : a < 256) : tf_Ag m HX HY A (fun post => wpX_root post (nI m, N, HX) (nI a)) (fun post => wpY_root post (nI m, N, HY, A) (nI a)) := by
  simp only [wpX_root, wX_root_82, wpY_root, tx_code ha, ty_code ha, tf_br, tx_isNone ha, ty_isNone ha, tx_isInfinite ha, tx_isZero ha, ty_isZero ha, tx_isNegative ha, ty_isNegative ha, tx_size ha, tf_shl27, cond_true]
  cases hna : tf_nn a
  · cases hza : tf_nz a
    · cases hga : tf_ng a
      · have hlt : a < 128 := by
          unfold tf_ng at hga
          rw [decide_eq_false_iff_not] at hga
          omega
        cases hfa : tf_nf a
        · have h1 := tf_fin hna hfa
          have em : a % 128 = a := Nat.mod_eq_of_lt hlt
          rw [em] at h1
          have h2 := tf_szm (show a ≤ 119 by omega)
          rw [tf_sz119] at h2
          have hQ : 262144 * (512 * tf_sz a) < 2 ^ 44 := by omega
          obtain ⟨f, hR⟩ := tf_Re hQ
          obtain ⟨c, hRS⟩ := tf_RSe f
          have hf := hR.2.2.2
          have h120 : ¬ nI a = 120 := fun z => by
            have := (nI_eq (b := 120) (by omega) (by decide)).mp z
            omega
          have hff : f * f < 2 ^ 44 := by
            have := hR.1
            omega
          simp only [cond_false, tf_iff h120, em, tf_vin (show a < 121 by omega), tf_look hA (show a < 121 by omega), tf_l (show a < 121 by omega), forall_eq, show (512 : Int64) * lN (tf_sz a) = lN (512 * tf_sz a) from lN_mul 512 _, show tf_sz a * 134217728 = 262144 * (512 * tf_sz a) by omega]
          generalize 512 * tf_sz a = Q at hQ hR
          refine ⟨tf_ra m c f (decide (f * f ≠ 262144 * Q)) false, tf_rn N m c f (decide (f * f ≠ 262144 * Q)) false, tf_rab hRS.1, fun post hp => tx_rootBelow hR hQ ?_, fun post hp => ⟨120, ty_r65 hA hR hm hRS hp 120 0 rfl (by omega) (by rw [tf_sz0]; omega)⟩⟩
          have X := fun mo => tx_rounded (post := post) (N := N) (H := HX) mo false hm (by omega) hRS
          rw [lN_mul, pk_lEQ (by omega) (by omega)]
          by_cases hx : f * f = 262144 * Q
          · rw [decide_eq_false (show ¬ f * f ≠ 262144 * Q from fun z => z hx)] at hp
            exact br_t hx (X false hp)
          · rw [decide_eq_true (show f * f ≠ 262144 * Q from hx)] at hp
            exact br_f hx (X true hp)
        · have e : a = 120 := by
            have := tf_a120 ha hfa
            rw [hga] at this
            exact this.symm
          subst e
          simp only [cond_false, cond_true, tf_ift (show nI 120 = 120 from rfl)]
          exact tg_c 120 (by decide)
      · have h120 : ¬ nI a = 120 := fun z => by
          have := (nI_eq (b := 120) (by omega) (by decide)).mp z
          subst this
          revert hga
          decide
        simp only [cond_false, cond_true, tf_iff h120]
        exact tg_sl
    · exact tg_c a ha
  · exact tg_c 124 (by decide)
theorem tf_x128 : ∀ b, b < 256 → b ^^^ 128 < 256 ∧ tf_nn (b ^^^ 128) = tf_nn b := by decide +kernel
theorem tg_sub {m a b : Nat} {N HX HY : Int32} {A : Nat → Int32} (hm : m < 4) (hA : tf_TB A) (ha : a < 256) (hb : b < 256) : tf_Ag m HX HY A (fun post => wpX_subtract post (nI m, N, HX) (nI a) (nI b)) (fun post => wpY_subtract post (nI m, N, HY, A) (nI a) (nI b)) := by
  obtain ⟨h1, h2⟩ := tf_x128 b hb
  simp only [wpX_subtract, wpY_subtract, wY_subtract_27, tx_code ha, tx_code hb, ty_code hb, tf_br, ty_isNone hb, cond_true, show nI b ^^^ 128 = nI (b ^^^ 128) from nx_xor b 128]
  cases hnb : tf_nn b
  · exact tg_add hm hA ha h1
  · rw [hnb] at h2
    refine ⟨124, N, by decide, fun post hp => ?_, fun post hp => ?_⟩
    · simp only [wpX_sum, tx_isNone ha, tx_isNone h1, tf_br, h2, cond_true]
      cases tf_nn a
      · exact hp
      · exact hp
    · simp only [cond_true, wpY_add, ty_code ha, ty_code hb, ty_isNone ha, ty_isNone hb, tf_br, hnb]
      cases tf_nn a
      · exact hp
      · exact hp
theorem tf_i1 : ∀ i, i < 8 → tf_sz i = i := by decide
theorem tf_i2 : ∀ i, i < 121 → 8 ≤ i → (8 + (nI i - nI i / 8 * 8)) <<< ((nI i / 8 - 1) &&& 31) = nI (tf_sz i) := by decide +kernel
theorem ty_i14 {post : SY → Prop} (hp : ∀ A, tf_TB A → post (0, 0, 0, A)) : ∀ (n i : Nat) (A : Nat → Int32), i + n = 122 → i ≤ 121 → (∀ c, c < i → A c = nI (tf_sz c)) → wY_init_14 post 0 0 0 n (nI i) A := by
  intro n
  induction n with
  | zero =>
    intro i A h1 h2
    omega
  | succ n ih =>
    intro i A h1 h2 h
    by_cases h9 : i = 121
    · subst h9
      exact br_t (by decide) (hp A h)
    · have hi : vp_in (nI i) 121 := vp_in_nI (by omega) (by omega)
      have nx : ∀ x : Int32, x = nI (tf_sz i) → ∀ c, c < i + 1 → upd A (nI i).toNatClampNeg x c = nI (tf_sz c) := by
        intro x hx c hc
        rw [nI_clamp (by omega)]
        by_cases he : c = i
        · rw [he, pk_us, hx]
        · rw [pk_un he]
          exact h c (by omega)
      refine br_f (nI_ge (b := 121) (by omega) (by decide)) ?_
      by_cases h8 : 8 ≤ i
      · refine br_t (nI_le (a := 8) h8 (by omega)) ⟨by decide, by decide, hi, ?_⟩
        refine nm_e (nm_r (nI_1 i) (ih (i + 1) _ (by omega) (by omega) (nx _ (tf_i2 i (by omega) h8))))
      · refine br_f (nI_ge (b := 8) (by omega) (by decide)) ⟨hi, ?_⟩
        refine nm_e (nm_r (nI_1 i) (ih (i + 1) _ (by omega) (by omega) (nx _ (by rw [tf_i1 i (by omega)]))))
theorem ty_init {post : SY → Prop} (hp : ∀ A, tf_TB A → post (0, 0, 0, A)) : wpY_init post :=
  ⟨122, ty_i14 hp 122 0 _ rfl (by omega) (fun c hc => by omega)⟩
end
section
/-! the owed statements -/
def i_Rel (_ : Nat) (u : SX) (v : SY) : Prop := ∃ (m h : Nat) (n : Int32) (A : Nat → Int32), m < 4 ∧ h < 256 ∧ tf_TB A ∧ u = (nI m, n, nI h) ∧ v = (nI m, n, nI h, A)
theorem tf_mk {m h : Nat} {n : Int32} {A : Nat → Int32} (k : Nat) (hm : m < 4) (hh : h < 256) (hA : tf_TB A) : i_Rel k (nI m, n, nI h) (nI m, n, nI h, A) := ⟨m, h, n, A, hm, hh, hA, rfl, rfl⟩
theorem tf_end {m h : Nat} {A : Nat → Int32} (k : Nat) (hm : m < 4) (hh : h < 256) (hA : tf_TB A) {WX : (Int32 → SX → Prop) → Prop} {WY : (Int32 → SY → Prop) → Prop} (g : tf_Ag m (nI h) (nI h) A WX WY) : WX (fun r u' => WY (fun r' v' => r' = r ∧ i_Rel (k + 4) u' v')) := by
  obtain ⟨q, n, hq, gx, gy⟩ := g
  exact gx _ (gy _ ⟨rfl, tf_mk (k + 4) hm hh hA⟩)
theorem tf_bad {m h : Nat} {n : Int32} {A : Nat → Int32} (k : Nat) (hm : m < 4) (hh : h < 256) (hA : tf_TB A) {WX : (Int32 → SX → Prop) → Prop} {WY : (Int32 → SY → Prop) → Prop} (gx : ∀ post, post (-1) (nI m, n, nI h) → WX post) (gy : ∀ post, post (-1) (nI m, n, nI h, A) → WY post) : WX (fun r u' => WY (fun r' v' => r' = r ∧ i_Rel (k + 4) u' v')) := gx _ (gy _ ⟨rfl, tf_mk (k + 4) hm hh hA⟩)
theorem i_up {k : Nat} {u : SX} {v : SY} (h : i_Rel k u v) : i_Rel (k + 4) u v := h
theorem i_vc0 : wpX_init (fun u => wpY_init (fun v => i_Rel 0 u v)) := ty_init (fun _ hA => tf_mk (m := 0) (h := 0) 0 (by decide) (by decide) hA)
theorem i_vc_mode {k : Nat} {u : SX} {v : SY} (I : i_Rel k u v) (hk : k + 4 ≤ 2048) (v1 : Int32) : wpX_mode (fun r u' => wpY_mode (fun r' v' => r' = r ∧ i_Rel (k + 4) u' v') v v1) u v1 := by
  obtain ⟨m, h, n, A, hm, hh, hA, rfl, rfl⟩ := I
  by_cases h1 : v1 < 0
  · exact br_t h1 (br_t h1 ⟨rfl, tf_mk _ hm hh hA⟩)
  · by_cases h2 : v1 ≤ 3
    · obtain ⟨j, hj, rfl⟩ := nI_of2 (M := 3) (n := 3) (by decide) h1 h2
      exact br_f h1 (br_t h2 (br_f h1 (br_t h2 ⟨rfl, tf_mk _ (by omega) hh hA⟩)))
    · exact br_f h1 (br_f h2 (br_f h1 (br_f h2 ⟨rfl, tf_mk _ hm hh hA⟩)))
theorem i_vc_notes {k : Nat} {u : SX} {v : SY} (I : i_Rel k u v) (hk : k + 4 ≤ 2048) : wpX_notes (fun r => wpY_notes (fun r' => r' = r ∧ i_Rel (k + 4) u v) v) u := by
  obtain ⟨m, h, n, A, hm, hh, hA, rfl, rfl⟩ := I
  exact ⟨rfl, tf_mk _ hm hh hA⟩
theorem i_vc_clear {k : Nat} {u : SX} {v : SY} (I : i_Rel k u v) (hk : k + 4 ≤ 2048) : wpX_clear (fun r u' => wpY_clear (fun r' v' => r' = r ∧ i_Rel (k + 4) u' v') v) u := by
  obtain ⟨m, h, n, A, hm, hh, hA, rfl, rfl⟩ := I
  exact ⟨rfl, tf_mk _ hm hh hA⟩
theorem i_vc_add {k : Nat} {u : SX} {v : SY} (I : i_Rel k u v) (hk : k + 4 ≤ 2048) (v1 : Int32) (v2 : Int32) : wpX_add (fun r u' => wpY_add (fun r' v' => r' = r ∧ i_Rel (k + 4) u' v') v v1 v2) u v1 v2 := by
  obtain ⟨m, h, n, A, hm, hh, hA, rfl, rfl⟩ := I
  rcases tf_code v2 with ⟨b, hb, rfl⟩ | ⟨bx, bY⟩
  · rcases tf_code v1 with ⟨a, ha, rfl⟩ | ⟨bx, bY⟩
    · have g := tg_add (N := n) (HX := nI h) (HY := nI h) hm hA ha hb
      refine tf_end k hm hh hA (WX := fun post => wpX_add post (nI m, n, nI h) (nI a) (nI b)) (WY := fun post => wpY_add post (nI m, n, nI h, A) (nI a) (nI b)) ?_
      simp only [wpX_add, tx_code ha, tx_code hb, eq_self, true_implies, false_implies, not_true_eq_false, not_false_eq_true, and_true, true_and, cond_true, cond_false, tf_br]
      exact g
    · exact tf_bad (n := n) k hm hh hA (WX := fun post => wpX_add post (nI m, n, nI h) v1 (nI b)) (WY := fun post => wpY_add post (nI m, n, nI h, A) v1 (nI b)) (fun post hp => by simp only [wpX_add, tx_code hb, ty_code hb, bx, bY, eq_self, true_implies, false_implies, not_true_eq_false, not_false_eq_true, and_true, true_and, cond_true, cond_false, tf_br]; exact hp) (fun post hp => by simp only [wpY_add, tx_code hb, ty_code hb, bx, bY, eq_self, true_implies, false_implies, not_true_eq_false, not_false_eq_true, and_true, true_and, cond_true, cond_false, tf_br]; exact hp)
  · rcases tf_code v1 with ⟨a, ha, rfl⟩ | ⟨cx, cY⟩
    · exact tf_bad (n := n) k hm hh hA (WX := fun post => wpX_add post (nI m, n, nI h) (nI a) v2) (WY := fun post => wpY_add post (nI m, n, nI h, A) (nI a) v2) (fun post hp => by simp only [wpX_add, tx_code ha, ty_code ha, bx, bY, eq_self, true_implies, false_implies, not_true_eq_false, not_false_eq_true, and_true, true_and, cond_true, cond_false, tf_br]; exact hp) (fun post hp => by simp only [wpY_add, tx_code ha, ty_code ha, bx, bY, eq_self, true_implies, false_implies, not_true_eq_false, not_false_eq_true, and_true, true_and, cond_true, cond_false, tf_br]; exact hp)
    · exact tf_bad (n := n) k hm hh hA (WX := fun post => wpX_add post (nI m, n, nI h) v1 v2) (WY := fun post => wpY_add post (nI m, n, nI h, A) v1 v2) (fun post hp => by simp only [wpX_add, bx, bY, cx, cY, eq_self, true_implies, false_implies, not_true_eq_false, not_false_eq_true, and_true, true_and, cond_true, cond_false, tf_br]; exact hp) (fun post hp => by simp only [wpY_add, bx, bY, cx, cY, eq_self, true_implies, false_implies, not_true_eq_false, not_false_eq_true, and_true, true_and, cond_true, cond_false, tf_br]; exact hp)
theorem i_vc_subtract {k : Nat} {u : SX} {v : SY} (I : i_Rel k u v) (hk : k + 4 ≤ 2048) (v1 : Int32) (v2 : Int32) : wpX_subtract (fun r u' => wpY_subtract (fun r' v' => r' = r ∧ i_Rel (k + 4) u' v') v v1 v2) u v1 v2 := by
  obtain ⟨m, h, n, A, hm, hh, hA, rfl, rfl⟩ := I
  rcases tf_code v2 with ⟨b, hb, rfl⟩ | ⟨bx, bY⟩
  · rcases tf_code v1 with ⟨a, ha, rfl⟩ | ⟨bx, bY⟩
    · exact tf_end k hm hh hA (WX := fun post => wpX_subtract post (nI m, n, nI h) (nI a) (nI b)) (WY := fun post => wpY_subtract post (nI m, n, nI h, A) (nI a) (nI b)) (tg_sub hm hA ha hb)
    · exact tf_bad (n := n) k hm hh hA (WX := fun post => wpX_subtract post (nI m, n, nI h) v1 (nI b)) (WY := fun post => wpY_subtract post (nI m, n, nI h, A) v1 (nI b)) (fun post hp => by simp only [wpX_subtract, tx_code hb, ty_code hb, bx, bY, eq_self, true_implies, false_implies, not_true_eq_false, not_false_eq_true, and_true, true_and, cond_true, cond_false, tf_br]; exact hp) (fun post hp => by simp only [wpY_subtract, wY_subtract_27, wpY_add, ty_isNone hb, tx_code hb, ty_code hb, bx, bY, eq_self, true_implies, false_implies, not_true_eq_false, not_false_eq_true, and_true, true_and, cond_true, cond_false, tf_br]; cases tf_nn b <;> exact hp)
  · rcases tf_code v1 with ⟨a, ha, rfl⟩ | ⟨cx, cY⟩
    · exact tf_bad (n := n) k hm hh hA (WX := fun post => wpX_subtract post (nI m, n, nI h) (nI a) v2) (WY := fun post => wpY_subtract post (nI m, n, nI h, A) (nI a) v2) (fun post hp => by simp only [wpX_subtract, tx_code ha, ty_code ha, bx, bY, eq_self, true_implies, false_implies, not_true_eq_false, not_false_eq_true, and_true, true_and, cond_true, cond_false, tf_br]; exact hp) (fun post hp => by simp only [wpY_subtract, wY_subtract_27, wpY_add, tx_code ha, ty_code ha, bx, bY, eq_self, true_implies, false_implies, not_true_eq_false, not_false_eq_true, and_true, true_and, cond_true, cond_false, tf_br]; exact hp)
    · exact tf_bad (n := n) k hm hh hA (WX := fun post => wpX_subtract post (nI m, n, nI h) v1 v2) (WY := fun post => wpY_subtract post (nI m, n, nI h, A) v1 v2) (fun post hp => by simp only [wpX_subtract, bx, bY, cx, cY, eq_self, true_implies, false_implies, not_true_eq_false, not_false_eq_true, and_true, true_and, cond_true, cond_false, tf_br]; exact hp) (fun post hp => by simp only [wpY_subtract, wY_subtract_27, wpY_add, bx, bY, cx, cY, eq_self, true_implies, false_implies, not_true_eq_false, not_false_eq_true, and_true, true_and, cond_true, cond_false, tf_br]; exact hp)
theorem i_vc_multiply {k : Nat} {u : SX} {v : SY} (I : i_Rel k u v) (hk : k + 4 ≤ 2048) (v1 : Int32) (v2 : Int32) : wpX_multiply (fun r u' => wpY_multiply (fun r' v' => r' = r ∧ i_Rel (k + 4) u' v') v v1 v2) u v1 v2 := by
  obtain ⟨m, h, n, A, hm, hh, hA, rfl, rfl⟩ := I
  rcases tf_code v2 with ⟨b, hb, rfl⟩ | ⟨bx, bY⟩
  · rcases tf_code v1 with ⟨a, ha, rfl⟩ | ⟨bx, bY⟩
    · exact tf_end k hm hh hA (WX := fun post => wpX_multiply post (nI m, n, nI h) (nI a) (nI b)) (WY := fun post => wpY_multiply post (nI m, n, nI h, A) (nI a) (nI b)) (tg_mul hm hA ha hb)
    · exact tf_bad (n := n) k hm hh hA (WX := fun post => wpX_multiply post (nI m, n, nI h) v1 (nI b)) (WY := fun post => wpY_multiply post (nI m, n, nI h, A) v1 (nI b)) (fun post hp => by simp only [wpX_multiply, tx_code hb, ty_code hb, bx, bY, eq_self, true_implies, false_implies, not_true_eq_false, not_false_eq_true, and_true, true_and, cond_true, cond_false, tf_br]; exact hp) (fun post hp => by simp only [wpY_multiply, tx_code hb, ty_code hb, bx, bY, eq_self, true_implies, false_implies, not_true_eq_false, not_false_eq_true, and_true, true_and, cond_true, cond_false, tf_br]; exact hp)
  · rcases tf_code v1 with ⟨a, ha, rfl⟩ | ⟨cx, cY⟩
    · exact tf_bad (n := n) k hm hh hA (WX := fun post => wpX_multiply post (nI m, n, nI h) (nI a) v2) (WY := fun post => wpY_multiply post (nI m, n, nI h, A) (nI a) v2) (fun post hp => by simp only [wpX_multiply, tx_code ha, ty_code ha, bx, bY, eq_self, true_implies, false_implies, not_true_eq_false, not_false_eq_true, and_true, true_and, cond_true, cond_false, tf_br]; exact hp) (fun post hp => by simp only [wpY_multiply, tx_code ha, ty_code ha, bx, bY, eq_self, true_implies, false_implies, not_true_eq_false, not_false_eq_true, and_true, true_and, cond_true, cond_false, tf_br]; exact hp)
    · exact tf_bad (n := n) k hm hh hA (WX := fun post => wpX_multiply post (nI m, n, nI h) v1 v2) (WY := fun post => wpY_multiply post (nI m, n, nI h, A) v1 v2) (fun post hp => by simp only [wpX_multiply, bx, bY, cx, cY, eq_self, true_implies, false_implies, not_true_eq_false, not_false_eq_true, and_true, true_and, cond_true, cond_false, tf_br]; exact hp) (fun post hp => by simp only [wpY_multiply, bx, bY, cx, cY, eq_self, true_implies, false_implies, not_true_eq_false, not_false_eq_true, and_true, true_and, cond_true, cond_false, tf_br]; exact hp)
theorem i_vc_divide {k : Nat} {u : SX} {v : SY} (I : i_Rel k u v) (hk : k + 4 ≤ 2048) (v1 : Int32) (v2 : Int32) : wpX_divide (fun r u' => wpY_divide (fun r' v' => r' = r ∧ i_Rel (k + 4) u' v') v v1 v2) u v1 v2 := by
  obtain ⟨m, h, n, A, hm, hh, hA, rfl, rfl⟩ := I
  rcases tf_code v2 with ⟨b, hb, rfl⟩ | ⟨bx, bY⟩
  · rcases tf_code v1 with ⟨a, ha, rfl⟩ | ⟨bx, bY⟩
    · exact tf_end k hm hh hA (WX := fun post => wpX_divide post (nI m, n, nI h) (nI a) (nI b)) (WY := fun post => wpY_divide post (nI m, n, nI h, A) (nI a) (nI b)) (tg_div hm hA ha hb)
    · exact tf_bad (n := n) k hm hh hA (WX := fun post => wpX_divide post (nI m, n, nI h) v1 (nI b)) (WY := fun post => wpY_divide post (nI m, n, nI h, A) v1 (nI b)) (fun post hp => by simp only [wpX_divide, tx_code hb, ty_code hb, bx, bY, eq_self, true_implies, false_implies, not_true_eq_false, not_false_eq_true, and_true, true_and, cond_true, cond_false, tf_br]; exact hp) (fun post hp => by simp only [wpY_divide, tx_code hb, ty_code hb, bx, bY, eq_self, true_implies, false_implies, not_true_eq_false, not_false_eq_true, and_true, true_and, cond_true, cond_false, tf_br]; exact hp)
  · rcases tf_code v1 with ⟨a, ha, rfl⟩ | ⟨cx, cY⟩
    · exact tf_bad (n := n) k hm hh hA (WX := fun post => wpX_divide post (nI m, n, nI h) (nI a) v2) (WY := fun post => wpY_divide post (nI m, n, nI h, A) (nI a) v2) (fun post hp => by simp only [wpX_divide, tx_code ha, ty_code ha, bx, bY, eq_self, true_implies, false_implies, not_true_eq_false, not_false_eq_true, and_true, true_and, cond_true, cond_false, tf_br]; exact hp) (fun post hp => by simp only [wpY_divide, tx_code ha, ty_code ha, bx, bY, eq_self, true_implies, false_implies, not_true_eq_false, not_false_eq_true, and_true, true_and, cond_true, cond_false, tf_br]; exact hp)
    · exact tf_bad (n := n) k hm hh hA (WX := fun post => wpX_divide post (nI m, n, nI h) v1 v2) (WY := fun post => wpY_divide post (nI m, n, nI h, A) v1 v2) (fun post hp => by simp only [wpX_divide, bx, bY, cx, cY, eq_self, true_implies, false_implies, not_true_eq_false, not_false_eq_true, and_true, true_and, cond_true, cond_false, tf_br]; exact hp) (fun post hp => by simp only [wpY_divide, bx, bY, cx, cY, eq_self, true_implies, false_implies, not_true_eq_false, not_false_eq_true, and_true, true_and, cond_true, cond_false, tf_br]; exact hp)
theorem i_vc_root {k : Nat} {u : SX} {v : SY} (I : i_Rel k u v) (hk : k + 4 ≤ 2048) (v1 : Int32) : wpX_root (fun r u' => wpY_root (fun r' v' => r' = r ∧ i_Rel (k + 4) u' v') v v1) u v1 := by
  obtain ⟨m, h, n, A, hm, hh, hA, rfl, rfl⟩ := I
  rcases tf_code v1 with ⟨a, ha, rfl⟩ | ⟨bx, bY⟩
  · exact tf_end k hm hh hA (WX := fun post => wpX_root post (nI m, n, nI h) (nI a)) (WY := fun post => wpY_root post (nI m, n, nI h, A) (nI a)) (tg_root hm hA ha)
  · exact tf_bad (n := n) k hm hh hA (WX := fun post => wpX_root post (nI m, n, nI h) v1) (WY := fun post => wpY_root post (nI m, n, nI h, A) v1) (fun post hp => by simp only [wpX_root, bx, bY, eq_self, true_implies, false_implies, not_true_eq_false, not_false_eq_true, and_true, true_and, cond_true, cond_false, tf_br]; exact hp) (fun post hp => by simp only [wpY_root, bx, bY, eq_self, true_implies, false_implies, not_true_eq_false, not_false_eq_true, and_true, true_and, cond_true, cond_false, tf_br]; exact hp)
theorem i_vc_together {k : Nat} {u : SX} {v : SY} (I : i_Rel k u v) (hk : k + 4 ≤ 2048) (v1 : Int32) (v2 : Int32) (v3 : Int32) : wpX_together (fun r u' => wpY_together (fun r' v' => r' = r ∧ i_Rel (k + 4) u' v') v v1 v2 v3) u v1 v2 v3 := by
  obtain ⟨m, h, n, A, hm, hh, hA, rfl, rfl⟩ := I
  rcases tf_code v1 with ⟨a, ha, rfl⟩ | ⟨bx, bY⟩
  · rcases tf_code v2 with ⟨b, hb, rfl⟩ | ⟨bx, bY⟩
    · rcases tf_code v3 with ⟨c, hc, rfl⟩ | ⟨bx, bY⟩
      · have g := tg_tog (N := n) (HX := nI h) (HY := nI h) hm hA ha hb hc
        refine tf_end k hm hh hA (WX := fun post => wpX_together post (nI m, n, nI h) (nI a) (nI b) (nI c)) (WY := fun post => wpY_together post (nI m, n, nI h, A) (nI a) (nI b) (nI c)) ?_
        simp only [wpX_together, tx_code ha, tx_code hb, tx_code hc, eq_self, true_implies, false_implies, not_true_eq_false, not_false_eq_true, and_true, true_and, cond_true, cond_false, tf_br]
        exact g
      · exact tf_bad (n := n) k hm hh hA (WX := fun post => wpX_together post (nI m, n, nI h) (nI a) (nI b) v3) (WY := fun post => wpY_together post (nI m, n, nI h, A) (nI a) (nI b) v3) (fun post hp => by simp only [wpX_together, tx_code ha, ty_code ha, tx_code hb, ty_code hb, bx, bY, eq_self, true_implies, false_implies, not_true_eq_false, not_false_eq_true, and_true, true_and, cond_true, cond_false, tf_br]; exact hp) (fun post hp => by simp only [wpY_together, tx_code ha, ty_code ha, tx_code hb, ty_code hb, bx, bY, eq_self, true_implies, false_implies, not_true_eq_false, not_false_eq_true, and_true, true_and, cond_true, cond_false, tf_br]; exact hp)
    · exact tf_bad (n := n) k hm hh hA (WX := fun post => wpX_together post (nI m, n, nI h) (nI a) v2 v3) (WY := fun post => wpY_together post (nI m, n, nI h, A) (nI a) v2 v3) (fun post hp => by simp only [wpX_together, tx_code ha, ty_code ha, bx, bY, eq_self, true_implies, false_implies, not_true_eq_false, not_false_eq_true, and_true, true_and, cond_true, cond_false, tf_br]; exact hp) (fun post hp => by simp only [wpY_together, tx_code ha, ty_code ha, bx, bY, eq_self, true_implies, false_implies, not_true_eq_false, not_false_eq_true, and_true, true_and, cond_true, cond_false, tf_br]; exact hp)
  · exact tf_bad (n := n) k hm hh hA (WX := fun post => wpX_together post (nI m, n, nI h) v1 v2 v3) (WY := fun post => wpY_together post (nI m, n, nI h, A) v1 v2 v3) (fun post hp => by simp only [wpX_together, bx, bY, eq_self, true_implies, false_implies, not_true_eq_false, not_false_eq_true, and_true, true_and, cond_true, cond_false, tf_br]; exact hp) (fun post hp => by simp only [wpY_together, bx, bY, eq_self, true_implies, false_implies, not_true_eq_false, not_false_eq_true, and_true, true_and, cond_true, cond_false, tf_br]; exact hp)
theorem i_vc_compare {k : Nat} {u : SX} {v : SY} (I : i_Rel k u v) (hk : k + 4 ≤ 2048) (v1 : Int32) (v2 : Int32) : wpX_compare (fun r => wpY_compare (fun r' => r' = r ∧ i_Rel (k + 4) u v) v v1 v2) u v1 v2 := by
  obtain ⟨m, h, n, A, hm, hh, hA, rfl, rfl⟩ := I
  rcases tf_code v1 with ⟨a, ha, rfl⟩ | ⟨bx, bY⟩
  · rcases tf_code v2 with ⟨b, hb, rfl⟩ | ⟨bx, bY⟩
    · obtain ⟨r, gx, gy⟩ := tg_cmp (m := m) (N := n) (HX := nI h) (HY := nI h) hA ha hb
      exact gx _ (gy _ ⟨rfl, tf_mk _ hm hh hA⟩)
    · have gx : ∀ post : Int32 → Prop, post (-1) → wpX_compare post (nI m, n, nI h) (nI a) v2 := fun post hp => by simp only [wpX_compare, tx_code ha, ty_code ha, bx, bY, eq_self, true_implies, false_implies, not_true_eq_false, not_false_eq_true, and_true, true_and, cond_true, cond_false, tf_br]; exact hp
      have gy : ∀ post : Int32 → Prop, post (-1) → wpY_compare post (nI m, n, nI h, A) (nI a) v2 := fun post hp => by simp only [wpY_compare, tx_code ha, ty_code ha, bx, bY, eq_self, true_implies, false_implies, not_true_eq_false, not_false_eq_true, and_true, true_and, cond_true, cond_false, tf_br]; exact hp
      exact gx _ (gy _ ⟨rfl, tf_mk _ hm hh hA⟩)
  · have gx : ∀ post : Int32 → Prop, post (-1) → wpX_compare post (nI m, n, nI h) v1 v2 := fun post hp => by simp only [wpX_compare, bx, bY, eq_self, true_implies, false_implies, not_true_eq_false, not_false_eq_true, and_true, true_and, cond_true, cond_false, tf_br]; exact hp
    have gy : ∀ post : Int32 → Prop, post (-1) → wpY_compare post (nI m, n, nI h, A) v1 v2 := fun post hp => by simp only [wpY_compare, bx, bY, eq_self, true_implies, false_implies, not_true_eq_false, not_false_eq_true, and_true, true_and, cond_true, cond_false, tf_br]; exact hp
    exact gx _ (gy _ ⟨rfl, tf_mk _ hm hh hA⟩)
theorem i_vc_from {k : Nat} {u : SX} {v : SY} (I : i_Rel k u v) (hk : k + 4 ≤ 2048) (v1 : Int32) : wpX_from (fun r u' => wpY_from (fun r' v' => r' = r ∧ i_Rel (k + 4) u' v') v v1) u v1 := by
  obtain ⟨m, h, n, A, hm, hh, hA, rfl, rfl⟩ := I
  by_cases h1 : v1 < (-1000000)
  · exact br_t h1 (br_t h1 ⟨rfl, tf_mk _ hm hh hA⟩)
  · by_cases h2 : v1 ≤ 1000000
    · exact tf_end k hm hh hA (WX := fun post => wpX_from post (nI m, n, nI h) v1) (WY := fun post => wpY_from post (nI m, n, nI h, A) v1) (tg_from hm hA h1 h2)
    · exact br_f h1 (br_f h2 (br_f h1 (br_f h2 ⟨rfl, tf_mk _ hm hh hA⟩)))
theorem i_vc_whole {k : Nat} {u : SX} {v : SY} (I : i_Rel k u v) (hk : k + 4 ≤ 2048) (v1 : Int32) : wpX_whole (fun r => wpY_whole (fun r' => r' = r ∧ i_Rel (k + 4) u v) v v1) u v1 := by
  obtain ⟨m, h, n, A, hm, hh, hA, rfl, rfl⟩ := I
  rcases tf_code v1 with ⟨a, ha, rfl⟩ | ⟨bx, bY⟩
  · obtain ⟨r, gx, gy⟩ := tg_whole (N := n) (HX := nI h) (HY := nI h) hm hA ha
    exact gx _ (gy _ ⟨rfl, tf_mk _ hm hh hA⟩)
  · have gx : ∀ post : Int32 → Prop, post 9999 → wpX_whole post (nI m, n, nI h) v1 := fun post hp => by simp only [wpX_whole, bx, bY, eq_self, true_implies, false_implies, not_true_eq_false, not_false_eq_true, and_true, true_and, cond_true, cond_false, tf_br]; exact hp
    have gy : ∀ post : Int32 → Prop, post 9999 → wpY_whole post (nI m, n, nI h, A) v1 := fun post hp => by simp only [wpY_whole, bx, bY, eq_self, true_implies, false_implies, not_true_eq_false, not_false_eq_true, and_true, true_and, cond_true, cond_false, tf_br]; exact hp
    exact gx _ (gy _ ⟨rfl, tf_mk _ hm hh hA⟩)
theorem i_vc_pile {k : Nat} {u : SX} {v : SY} (I : i_Rel k u v) (hk : k + 4 ≤ 2048) (v1 : Int32) : wpX_pile (fun r u' => wpY_pile (fun r' v' => r' = r ∧ i_Rel (k + 4) u' v') v v1) u v1 := by
  obtain ⟨m, h, n, A, hm, hh, hA, rfl, rfl⟩ := I
  rcases tf_code v1 with ⟨a, ha, rfl⟩ | ⟨bx, bY⟩
  · obtain ⟨q, n', hq, gx, gy⟩ := tg_add (N := n) (HX := nI h) (HY := nI h) hm hA hh ha
    simp only [wpX_pile, wpY_pile, tx_code ha, ty_code ha, eq_self, true_implies, false_implies, not_true_eq_false, not_false_eq_true, and_true, true_and, cond_true, cond_false, tf_br]
    exact gx _ (gy _ ⟨by trivial, tf_mk _ hm hq hA⟩)
  · exact tf_bad (n := n) k hm hh hA (WX := fun post => wpX_pile post (nI m, n, nI h) v1) (WY := fun post => wpY_pile post (nI m, n, nI h, A) v1) (fun post hp => by simp only [wpX_pile, bx, bY, eq_self, true_implies, false_implies, not_true_eq_false, not_false_eq_true, and_true, true_and, cond_true, cond_false, tf_br]; exact hp) (fun post hp => by simp only [wpY_pile, bx, bY, eq_self, true_implies, false_implies, not_true_eq_false, not_false_eq_true, and_true, true_and, cond_true, cond_false, tf_br]; exact hp)
theorem i_vc_pileProduct {k : Nat} {u : SX} {v : SY} (I : i_Rel k u v) (hk : k + 4 ≤ 2048) (v1 : Int32) (v2 : Int32) : wpX_pileProduct (fun r u' => wpY_pileProduct (fun r' v' => r' = r ∧ i_Rel (k + 4) u' v') v v1 v2) u v1 v2 := by
  obtain ⟨m, h, n, A, hm, hh, hA, rfl, rfl⟩ := I
  rcases tf_code v2 with ⟨b, hb, rfl⟩ | ⟨bx, bY⟩
  · rcases tf_code v1 with ⟨a, ha, rfl⟩ | ⟨bx, bY⟩
    · obtain ⟨q, n', hq, gx, gy⟩ := tg_tog (N := n) (HX := nI h) (HY := nI h) hm hA ha hb hh
      simp only [wpX_pileProduct, wpY_pileProduct, tx_code ha, tx_code hb, ty_code ha, ty_code hb, eq_self, true_implies, false_implies, not_true_eq_false, not_false_eq_true, and_true, true_and, cond_true, cond_false, tf_br]
      exact gx _ (gy _ ⟨by trivial, tf_mk _ hm hq hA⟩)
    · exact tf_bad (n := n) k hm hh hA (WX := fun post => wpX_pileProduct post (nI m, n, nI h) v1 (nI b)) (WY := fun post => wpY_pileProduct post (nI m, n, nI h, A) v1 (nI b)) (fun post hp => by simp only [wpX_pileProduct, tx_code hb, ty_code hb, bx, bY, eq_self, true_implies, false_implies, not_true_eq_false, not_false_eq_true, and_true, true_and, cond_true, cond_false, tf_br]; exact hp) (fun post hp => by simp only [wpY_pileProduct, tx_code hb, ty_code hb, bx, bY, eq_self, true_implies, false_implies, not_true_eq_false, not_false_eq_true, and_true, true_and, cond_true, cond_false, tf_br]; exact hp)
  · rcases tf_code v1 with ⟨a, ha, rfl⟩ | ⟨cx, cY⟩
    · exact tf_bad (n := n) k hm hh hA (WX := fun post => wpX_pileProduct post (nI m, n, nI h) (nI a) v2) (WY := fun post => wpY_pileProduct post (nI m, n, nI h, A) (nI a) v2) (fun post hp => by simp only [wpX_pileProduct, tx_code ha, ty_code ha, bx, bY, eq_self, true_implies, false_implies, not_true_eq_false, not_false_eq_true, and_true, true_and, cond_true, cond_false, tf_br]; exact hp) (fun post hp => by simp only [wpY_pileProduct, tx_code ha, ty_code ha, bx, bY, eq_self, true_implies, false_implies, not_true_eq_false, not_false_eq_true, and_true, true_and, cond_true, cond_false, tf_br]; exact hp)
    · exact tf_bad (n := n) k hm hh hA (WX := fun post => wpX_pileProduct post (nI m, n, nI h) v1 v2) (WY := fun post => wpY_pileProduct post (nI m, n, nI h, A) v1 v2) (fun post hp => by simp only [wpX_pileProduct, bx, bY, cx, cY, eq_self, true_implies, false_implies, not_true_eq_false, not_false_eq_true, and_true, true_and, cond_true, cond_false, tf_br]; exact hp) (fun post hp => by simp only [wpY_pileProduct, bx, bY, cx, cY, eq_self, true_implies, false_implies, not_true_eq_false, not_false_eq_true, and_true, true_and, cond_true, cond_false, tf_br]; exact hp)
theorem i_vc_store {k : Nat} {u : SX} {v : SY} (I : i_Rel k u v) (hk : k + 4 ≤ 2048) (v1 : Int32) : wpX_store (fun r u' => wpY_store (fun r' v' => r' = r ∧ i_Rel (k + 4) u' v') v v1) u v1 := by
  obtain ⟨m, h, n, A, hm, hh, hA, rfl, rfl⟩ := I
  rcases tf_code v1 with ⟨a, ha, rfl⟩ | ⟨bx, bY⟩
  · have gx : ∀ post : Int32 → SX → Prop, post (nI h) (nI m, n, nI a) → wpX_store post (nI m, n, nI h) (nI a) := fun post hp => by simp only [wpX_store, tx_code ha, eq_self, true_implies, false_implies, not_true_eq_false, not_false_eq_true, and_true, true_and, cond_true, cond_false, tf_br]; exact hp
    have gy : ∀ post : Int32 → SY → Prop, post (nI h) (nI m, n, nI a, A) → wpY_store post (nI m, n, nI h, A) (nI a) := fun post hp => by simp only [wpY_store, ty_code ha, eq_self, true_implies, false_implies, not_true_eq_false, not_false_eq_true, and_true, true_and, cond_true, cond_false, tf_br]; exact hp
    exact gx _ (gy _ ⟨rfl, tf_mk _ hm ha hA⟩)
  · exact tf_bad (n := n) k hm hh hA (WX := fun post => wpX_store post (nI m, n, nI h) v1) (WY := fun post => wpY_store post (nI m, n, nI h, A) v1) (fun post hp => by simp only [wpX_store, bx, bY, eq_self, true_implies, false_implies, not_true_eq_false, not_false_eq_true, and_true, true_and, cond_true, cond_false, tf_br]; exact hp) (fun post hp => by simp only [wpY_store, bx, bY, eq_self, true_implies, false_implies, not_true_eq_false, not_false_eq_true, and_true, true_and, cond_true, cond_false, tf_br]; exact hp)
end
