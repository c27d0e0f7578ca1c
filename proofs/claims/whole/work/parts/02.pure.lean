/-! the sizes of the codes, and one picture of rounding -/
def tf_b (b : Bool) : Int32 := cond b 1 0
theorem tf_bt : tf_b true = 1 := rfl
theorem tf_bf : tf_b false = 0 := rfl
def tf_sz (c : Nat) : Nat := if c < 8 then c else (8 + c % 8) * 2 ^ (c / 8 - 1)
theorem tf_szA {s k : Nat} (hk : k < 16) (h : s = 0 ∨ 8 ≤ k) : tf_sz (8 * s + k) = k * 2 ^ s := by
  unfold tf_sz
  by_cases h8 : k < 8
  · have hs : s = 0 := by omega
    subst hs
    rw [if_pos (by omega), Nat.pow_zero]
    omega
  · have e1 : (8 * s + k) / 8 - 1 = s := by omega
    have e2 : 8 + (8 * s + k) % 8 = k := by omega
    rw [if_neg (by omega), e1, e2]
theorem tf_szB {s k : Nat} (hk : k < 16) (h : s = 0 ∨ 8 ≤ k) : tf_sz (8 * s + k + 1) = (k + 1) * 2 ^ s := by
  by_cases h15 : k < 15
  · exact tf_szA (s := s) (k := k + 1) (by omega) (by omega)
  · have e15 : k = 15 := by omega
    subst e15
    have e := tf_szA (s := s + 1) (k := 8) (by omega) (Or.inr (by omega))
    rw [show 8 * s + 15 + 1 = 8 * (s + 1) + 8 by omega, e, Nat.pow_succ]
    generalize 2 ^ s = P
    omega
theorem tf_dec (c : Nat) : ∃ s k : Nat, c = 8 * s + k ∧ k < 16 ∧ (s = 0 ∨ 8 ≤ k) := by
  by_cases h : c < 8
  · exact ⟨0, c, by omega, by omega, Or.inl rfl⟩
  · exact ⟨c / 8 - 1, 8 + c % 8, by omega, by omega, by omega⟩
theorem tf_szs (c : Nat) : tf_sz c < tf_sz (c + 1) := by
  obtain ⟨s, k, rfl, h1, h2⟩ := tf_dec c
  rw [tf_szA h1 h2, tf_szB h1 h2, Nat.succ_mul]
  have := Nat.two_pow_pos s
  omega
theorem tf_szm {a b : Nat} (h : a ≤ b) : tf_sz a ≤ tf_sz b := by
  induction h with
  | refl => exact Nat.le_refl _
  | step _ ih => exact Nat.le_trans ih (Nat.le_of_lt (tf_szs _))
theorem tf_sz0 : tf_sz 0 = 0 := by decide
theorem tf_sz119 : tf_sz 119 = 122880 := by decide
theorem tf_sz120 : tf_sz 120 = 131072 := by decide
theorem tf_szb {c : Nat} (h : c ≤ 120) : tf_sz c ≤ 131072 := by
  have := tf_szm h
  rw [tf_sz120] at this
  exact this
theorem tf_szp {c : Nat} (h : 0 < c) : 0 < tf_sz c := by
  have h1 := tf_szm (show 1 ≤ c from h)
  have h2 : tf_sz 1 = 1 := by decide
  omega
/-- c is the greatest code up to 119 whose size is not above f (f in 512th parts) -/
def tf_RS (c f : Nat) : Prop := c ≤ 119 ∧ 512 * tf_sz c ≤ f ∧ (c < 119 → f < 512 * tf_sz (c + 1))
theorem tf_RSlt {c d f : Nat} (h : tf_RS c f) (h' : tf_RS d f) : ¬ c < d := by
  intro hl
  have h1 := h.2.2 (by have := h'.1; omega)
  have h2 := tf_szm (show c + 1 ≤ d from hl)
  have h3 := h'.2.1
  omega
theorem tf_RSu {c d f : Nat} (h : tf_RS c f) (h' : tf_RS d f) : c = d := by
  have h1 := tf_RSlt h h'
  have h2 := tf_RSlt h' h
  omega
theorem tf_RSi (f : Nat) : ∀ d c : Nat, c + d = 119 → 512 * tf_sz c ≤ f → ∃ e, tf_RS e f := by
  intro d
  induction d with
  | zero =>
    intro c hc h
    exact ⟨c, by omega, h, fun z => by omega⟩
  | succ d ih =>
    intro c hc h
    by_cases h1 : 512 * tf_sz (c + 1) ≤ f
    · exact ih (c + 1) (by omega) h1
    · exact ⟨c, by omega, h, fun _ => by omega⟩
theorem tf_RSe (f : Nat) : ∃ c, tf_RS c f := tf_RSi f 119 0 rfl (by rw [tf_sz0]; omega)
def tf_aw (m : Nat) (ng : Bool) : Bool := (decide (m = 2) && !ng) || (decide (m = 3) && ng)
def tf_up (m : Nat) (g e : Bool) (c : Nat) (ng : Bool) : Bool := if m = 0 then g || (e && decide (c % 2 = 1)) else tf_aw m ng
def tf_cc (up ex : Bool) (c : Nat) : Nat := if (up && !ex) = true then c + 1 else c
def tf_cn1 (n : Int32) (ex : Bool) (d : Nat) : Int32 := if (!ex || decide (d = 120)) = true then n ||| 1 else n
def tf_cn (n : Int32) (ex gr : Bool) (d : Nat) : Int32 := if (decide (d = 120) || gr) = true then tf_cn1 n ex d ||| 2 else tf_cn1 n ex d
def tf_sg (ng : Bool) (d : Nat) : Nat := cond ng (128 + d) d
theorem tf_ccb {up ex : Bool} {c : Nat} (h : c ≤ 119) : tf_cc up ex c ≤ 120 := by
  unfold tf_cc
  split <;> omega
theorem tf_sgb {ng : Bool} {d : Nat} (h : d ≤ 120) : tf_sg ng d < 256 := by
  cases ng
  · show d < 256; omega
  · show 128 + d < 256; omega
def tf_g (c f : Nat) (mo : Bool) : Bool := decide (256 * (tf_sz c + tf_sz (c + 1)) < f) || (decide (f = 256 * (tf_sz c + tf_sz (c + 1))) && mo)
def tf_e (c f : Nat) (mo : Bool) : Bool := decide (f = 256 * (tf_sz c + tf_sz (c + 1))) && !mo
def tf_ex (c f : Nat) (mo : Bool) : Bool := decide (f = 512 * tf_sz c) && !mo
def tf_gr (f : Nat) : Bool := decide (512 * tf_sz 120 ≤ f)
/-- the code without its sign -/
def tf_rc (m c f : Nat) (mo ng : Bool) : Nat := tf_cc (tf_up m (tf_g c f mo) (tf_e c f mo) c ng) (tf_ex c f mo) c
def tf_ra (m c f : Nat) (mo ng : Bool) : Nat := tf_sg ng (tf_rc m c f mo ng)
def tf_rn (n : Int32) (m c f : Nat) (mo ng : Bool) : Int32 := tf_cn n (tf_ex c f mo) (tf_gr f) (tf_rc m c f mo ng)
theorem tf_rab {m c f : Nat} {mo ng : Bool} (h : c ≤ 119) : tf_ra m c f mo ng < 256 := tf_sgb (tf_ccb h)
/-- the class's step: l is left of 2 h, k is kept -/
def tf_su (m : Nat) (aw : Bool) (k l h : Nat) (mo : Bool) : Bool := (!decide (l = 0) || mo) && (if m = 0 then decide (h < l) || (decide (l = h) && (mo || decide (k % 2 = 1))) else aw)
def tf_xd (m S k l h : Nat) (mo ng : Bool) : Nat := 8 * S + k + cond (tf_su m (tf_aw m ng) k l h mo) 1 0
def tf_xc (m : Nat) (aw : Bool) (d : Nat) : Nat := if 119 < d then (if (aw || decide (m = 0)) = true then 120 else 119) else d
def tf_xn1 (n : Int32) (ex : Bool) (d : Nat) : Int32 := if (!ex || decide (119 < d)) = true then n ||| 1 else n
def tf_xn (n : Int32) (ex : Bool) (d : Nat) : Int32 := if 119 < d then tf_xn1 n ex d ||| 2 else tf_xn1 n ex d
theorem tf_meet {m c f S k l : Nat} {mo ng : Bool} (n : Int32) (h : tf_RS c f) (hk : k < 16) (hs : S = 0 ∨ 8 ≤ k) (hf : f = 512 * (k * 2 ^ S) + l) (hl : l < 512 * 2 ^ S) : tf_xc m (tf_aw m ng) (tf_xd m S k l (256 * 2 ^ S) mo ng) = tf_rc m c f mo ng ∧ tf_xn n (decide (l = 0) && !mo) (tf_xd m S k l (256 * 2 ^ S) mo ng) = tf_rn n m c f mo ng := by
  have a1 := tf_szA hk hs
  have a2 := tf_szB hk hs
  rw [show (k + 1) * 2 ^ S = k * 2 ^ S + 2 ^ S from Nat.succ_mul k _] at a2
  by_cases hc : 8 * S + k ≤ 119
  · have e : c = 8 * S + k := tf_RSu h ⟨hc, by rw [a1]; omega, fun _ => by rw [a2]; omega⟩
    subst e
    have hm := tf_szm (show 8 * S + k + 1 ≤ 120 by omega)
    have e1 : tf_ex (8 * S + k) f mo = (decide (l = 0) && !mo) := by
      unfold tf_ex
      rw [a1]
      congr 1
      exact decide_eq_decide.mpr (by omega)
    have e2 : tf_g (8 * S + k) f mo = (decide (256 * 2 ^ S < l) || (decide (l = 256 * 2 ^ S) && mo)) := by
      unfold tf_g
      rw [a1, a2]
      congr 1
      · exact decide_eq_decide.mpr (by omega)
      · congr 1
        exact decide_eq_decide.mpr (by omega)
    have e3 : tf_e (8 * S + k) f mo = (decide (l = 256 * 2 ^ S) && !mo) := by
      unfold tf_e
      rw [a1, a2]
      congr 1
      exact decide_eq_decide.mpr (by omega)
    have e4 : tf_gr f = false := by
      unfold tf_gr
      exact decide_eq_false (by omega)
    have e5 : (8 * S + k) % 2 = k % 2 := by omega
    have e6 : tf_su m (tf_aw m ng) k l (256 * 2 ^ S) mo = (tf_up m (tf_g (8 * S + k) f mo) (tf_e (8 * S + k) f mo) (8 * S + k) ng && !tf_ex (8 * S + k) f mo) := by
      unfold tf_su tf_up
      rw [e1, e2, e3, e5]
      have hP := Nat.two_pow_pos S
      by_cases h0 : m = 0
      · rw [if_pos h0, if_pos h0]
        generalize decide (k % 2 = 1) = o
        by_cases l0 : l = 0
        · have x1 : decide (256 * 2 ^ S < l) = false := decide_eq_false (by omega)
          have x2 : decide (l = 256 * 2 ^ S) = false := decide_eq_false (by omega)
          rw [x1, x2]
          cases mo <;> cases o <;> simp
        · rw [decide_eq_false l0]
          cases mo <;> cases o <;> simp
      · rw [if_neg h0, if_neg h0]
        generalize tf_aw m ng = w
        generalize decide (l = 0) = z
        cases z <;> cases mo <;> cases w <;> rfl
    have e7 : tf_rc m (8 * S + k) f mo ng = tf_xd m S k l (256 * 2 ^ S) mo ng := by
      unfold tf_rc tf_xd tf_cc
      rw [← e6]
      cases tf_su m (tf_aw m ng) k l (256 * 2 ^ S) mo <;> rfl
    unfold tf_rn tf_cn tf_cn1
    rw [e7, e1, e4]
    unfold tf_xn tf_xn1
    have hd : tf_xd m S k l (256 * 2 ^ S) mo ng ≤ 120 := by
      rw [← e7]
      exact tf_ccb hc
    by_cases h9 : 119 < tf_xd m S k l (256 * 2 ^ S) mo ng
    · have h10 : tf_xd m S k l (256 * 2 ^ S) mo ng = 120 := by omega
      have h11 : tf_su m (tf_aw m ng) k l (256 * 2 ^ S) mo = true := by
        cases hu : tf_su m (tf_aw m ng) k l (256 * 2 ^ S) mo
        · rw [tf_xd, hu] at h10
          exact absurd h10 (by show ¬ 8 * S + k + 0 = 120; omega)
        · rfl
      have h12 : (tf_aw m ng || decide (m = 0)) = true := by
        by_cases h0 : m = 0
        · rw [decide_eq_true h0, Bool.or_true]
        · unfold tf_su at h11
          rw [if_neg h0] at h11
          rw [(Bool.and_eq_true_iff.mp h11).2, Bool.true_or]
      unfold tf_xc
      rw [if_pos h9, if_pos h12, h10]
      refine ⟨rfl, ?_⟩
      simp
    · have h10 : ¬ tf_xd m S k l (256 * 2 ^ S) mo ng = 120 := by omega
      unfold tf_xc
      rw [if_neg h9]
      refine ⟨rfl, ?_⟩
      simp [h9, h10]
  · have hm := tf_szm (show 120 ≤ 8 * S + k by omega)
    have b0 := tf_sz119
    have b1 := tf_sz120
    have e : c = 119 := tf_RSu h ⟨by omega, by omega, fun z => absurd z (by omega)⟩
    subst e
    have e1 : tf_ex 119 f mo = false := by
      unfold tf_ex
      rw [decide_eq_false (by omega)]
      rfl
    have e2 : tf_g 119 f mo = true := by
      unfold tf_g
      rw [decide_eq_true (by show 256 * (tf_sz 119 + tf_sz 120) < f; omega)]
      rfl
    have e4 : tf_gr f = true := by
      unfold tf_gr
      exact decide_eq_true (by omega)
    have h9 : 119 < tf_xd m S k l (256 * 2 ^ S) mo ng := by
      unfold tf_xd
      omega
    have e6 : tf_rc m 119 f mo ng = tf_xc m (tf_aw m ng) (tf_xd m S k l (256 * 2 ^ S) mo ng) := by
      unfold tf_rc tf_cc tf_up tf_xc
      rw [if_pos h9, e1, e2]
      by_cases h0 : m = 0
      · rw [if_pos h0, decide_eq_true h0]
        simp
      · rw [if_neg h0, decide_eq_false h0]
        cases tf_aw m ng <;> rfl
    refine ⟨e6.symm, ?_⟩
    unfold tf_rn tf_cn tf_cn1 tf_xn tf_xn1
    rw [e1, e4, if_pos h9]
    simp [h9]
