/-! the class's rounding -/
theorem tf_smod : ∀ k, k < 64 → (((nI k).toInt64 &&& 63).toBitVec.smod 64).toNat = k := by decide +kernel
theorem tf_shr {f k : Nat} (hf : f < 2 ^ 62) (hk : k < 64) : lN f >>> ((nI k).toInt64 &&& 63) = lN (f / 2 ^ k) := pf_shr (tf_smod k hk) hf
theorem tf_dm (f c : Nat) : f - f / 2 ^ c * 2 ^ c = f % 2 ^ c := by
  have := Nat.div_add_mod' f (2 ^ c)
  omega
theorem tf_odd (k : Nat) : nI (k % 2) = tf_b (decide (k % 2 = 1)) := by
  by_cases h : k % 2 = 1
  · rw [decide_eq_true h, h]; rfl
  · have h0 : k % 2 = 0 := by omega
    rw [decide_eq_false h, h0]; rfl
theorem tx_st29 {post : Int32 → Prop} {N H : Int32} {m k l cut : Nat} {w mo : Bool} (hm : m < 4) (hk : k < 2 ^ 62) (hl : l < 2 ^ 62) (hc : cut < 60) (h1 : 1 ≤ cut) (hz : (!decide (l = 0) || mo) = true) (hp : post (tf_b (tf_su m w k l (2 ^ (cut - 1)) mo))) : wX_stepUp_29 post (tf_b w) (nI cut) (tf_b mo) (lN k) (lN l) (nI m) N H := by
  unfold tf_su at hp
  rw [hz, Bool.true_and] at hp
  have hh : 2 ^ (cut - 1) < 2 ^ 62 := Nat.pow_lt_pow_right (by decide) (by omega)
  unfold wX_stepUp_29
  by_cases h0 : m = 0
  · subst h0
    rw [if_pos rfl] at hp
    refine br_t rfl (nm_r (e' := lN (2 ^ (cut - 1))) ?_ ?_)
    · rw [show nI cut - 1 = nI (cut - 1) from pk_sub (b := 1) h1]
      have := wb_shl 1 (k := cut - 1) (by omega)
      rw [Nat.one_mul] at this
      exact this
    · generalize 2 ^ (cut - 1) = h at hp hh
      unfold wX_stepUp_75
      rw [pk_lEQ (by omega) (by omega), pk_lLT (by omega) (by omega)]
      by_cases hlh : l = h
      · refine br_t hlh ?_
        rw [tf_br]
        rw [decide_eq_true hlh, decide_eq_false (show ¬ h < l by omega)] at hp
        cases mo
        · refine ⟨by decide, ?_⟩
          rw [show lN k - lN k / 2 * 2 = lN (k % 2) from pk_lRem (b := 2) (by omega) (by decide) (by decide), lN_i, tf_odd]
          exact hp
        · exact br_f (by omega) hp
      · refine br_f hlh ?_
        rw [decide_eq_false hlh] at hp
        by_cases hl2 : l < h
        · rw [decide_eq_false (show ¬ h < l by omega)] at hp
          exact br_t hl2 hp
        · rw [decide_eq_true (show h < l by omega)] at hp
          exact br_f hl2 hp
  · rw [if_neg h0] at hp
    refine br_f (fun z => h0 ((tf_mE hm (by decide)).mp z)) ?_
    rw [tf_p0 w (by cases w <;> decide)]
    exact hp
theorem tx_step {post : Int32 → Prop} {N H : Int32} {m f cut : Nat} {w mo : Bool} (hm : m < 4) (hf : f < 2 ^ 62) (hc : cut < 60) (h1 : 1 ≤ cut) (hp : post (tf_b (tf_su m w (f / 2 ^ cut) (f % 2 ^ cut) (2 ^ (cut - 1)) mo))) : wpX_stepUp post (nI m, N, H) (tf_b w) (lN f) (nI cut) (tf_b mo) := by
  have hk : f / 2 ^ cut ≤ f := Nat.div_le_self _ _
  have hl : f % 2 ^ cut ≤ f := Nat.mod_le _ _
  unfold wpX_stepUp
  dsimp only
  refine nm_r (tf_shr hf (by omega)) (nm_r (e' := lN (f % 2 ^ cut)) ?_ ?_)
  · rw [wb_shl _ (by omega), lN_sub (Nat.div_mul_le_self _ _), tf_dm]
  · by_cases l0 : f % 2 ^ cut = 0
    · refine br_t (by rw [l0]; rfl) ?_
      rw [tf_br]
      cases mo
      · unfold tf_su at hp
        rw [decide_eq_true l0] at hp
        exact hp
      · exact tx_st29 hm (by omega) (by omega) hc h1 (by rw [Bool.or_true]) hp
    · refine br_f (fun z => l0 ((pk_lEQ (b := 0) (by omega) (by decide)).mp z)) ?_
      exact tx_st29 hm (by omega) (by omega) hc h1 (by rw [decide_eq_false l0]; rfl) hp
theorem tx_r162 {post : Int32 → SX → Prop} {N H : Int32} {m d : Nat} {ng : Bool} (hp : post (nI (tf_sg ng d)) (nI m, N, H)) : wX_rounded_162 post (tf_b ng) (lN d) (nI m) N H := by
  unfold wX_rounded_162
  rw [lN_i, tx_signed]
  exact hp
theorem tx_r120 {post : Int32 → SX → Prop} {N H : Int32} {m d : Nat} {ng w : Bool} (hm : m < 4) (hd : d < 2 ^ 31) (hp : post (nI (tf_sg ng (tf_xc m w d))) (nI m, if 119 < d then N ||| 2 else N, H)) : wX_rounded_120 post (tf_b ng) (tf_b w) (lN d) (nI m) N H := by
  unfold wX_rounded_120
  by_cases h9 : 119 < d
  · rw [if_pos h9] at hp
    refine br_f (fun z => by have := (pk_lLE (b := 119) (by omega) (by decide)).mp z; omega) (nm_e ?_)
    unfold tf_xc at hp
    rw [if_pos h9] at hp
    rw [tf_br]
    cases w
    · show (_ → _) ∧ (_ → _)
      by_cases h0 : m = 0
      · subst h0
        refine br_t rfl ?_
        exact tx_r162 (d := 120) (m := 0) hp
      · refine br_f (fun z => h0 ((tf_mE hm (by decide)).mp z)) ?_
        rw [decide_eq_false h0] at hp
        exact tx_r162 (d := 119) hp
    · exact tx_r162 (d := 120) hp
  · rw [if_neg h9] at hp
    refine br_t ((pk_lLE (b := 119) (by omega) (by decide)).mpr (by omega)) ?_
    unfold tf_xc at hp
    rw [if_neg h9] at hp
    exact tx_r162 hp
theorem tf_b64 (b : Bool) : (tf_b b).toInt64 = lN (cond b 1 0) := by cases b <;> decide
theorem tx_r63 {post : Int32 → SX → Prop} {N H : Int32} {m f S k l : Nat} {ng mo : Bool} (ex : Bool) (hm : m < 4) (hf : f < 2 ^ 44) (hS : S ≤ 40) (hk : k < 16) (ek : f / 2 ^ (S + 9) = k) (el : f % 2 ^ (S + 9) = l) (hp : post (nI (tf_sg ng (tf_xc m (tf_aw m ng) (tf_xd m S k l (2 ^ (S + 8)) mo ng)))) (nI m, tf_xn N ex (tf_xd m S k l (2 ^ (S + 8)) mo ng), H)) : wX_rounded_63 post (tf_b ng) (lN f) (tf_b mo) (nI S) (nI (S + 9)) (lN k) (tf_b ex) (nI m) N H := by
  unfold wX_rounded_63
  rw [tx_aw hm]
  refine tx_step hm (by omega) (by omega) (by omega) ?_
  rw [ek, el, show S + 9 - 1 = S + 8 from rfl]
  refine nm_r (e' := lN (tf_xd m S k l (2 ^ (S + 8)) mo ng)) ?_ ?_
  · rw [show nI S * 8 = nI (S * 8) from pk_mul S 8, nI_l (by omega), lN_add, tf_b64, lN_add]
    unfold tf_xd
    exact congrArg lN (by omega)
  · have hd : tf_xd m S k l (2 ^ (S + 8)) mo ng < 2 ^ 31 := by
      unfold tf_xd
      cases tf_su m (tf_aw m ng) k l (2 ^ (S + 8)) mo
      · show 8 * S + k + 0 < _; omega
      · show 8 * S + k + 1 < _; omega
    generalize tf_xd m S k l (2 ^ (S + 8)) mo ng = d at hp hd
    unfold tf_xn tf_xn1 at hp
    rw [tf_br]
    cases ex
    · exact nm_e (tx_r120 hm hd (by simpa using hp))
    · show (_ → _) ∧ (_ → _)
      by_cases h9 : 119 < d
      · refine br_f (fun z => by have := (pk_lLE (b := 119) (by omega) (by decide)).mp z; omega) ?_
        exact nm_e (tx_r120 hm hd (by simpa [h9] using hp))
      · refine br_t ((pk_lLE (b := 119) (by omega) (by decide)).mpr (by omega)) ?_
        exact tx_r120 hm hd (by simpa [h9] using hp)
theorem tx_r30 {post : Int32 → SX → Prop} {N H : Int32} {m f S c : Nat} {ng mo : Bool} (hm : m < 4) (hf : f < 2 ^ 44) (hS : S ≤ 40) (hRS : tf_RS c f) (h1 : f / 2 ^ (S + 9) < 16) (h2 : S = 0 ∨ 16 ≤ f / 2 ^ (S + 8)) (hp : post (nI (tf_ra m c f mo ng)) (nI m, tf_rn N m c f mo ng, H)) : wX_rounded_30 post (tf_b ng) (lN f) (tf_b mo) (nI S) (nI m) N H := by
  have e9 : 2 ^ (S + 9) = 512 * 2 ^ S := by rw [Nat.pow_add]; omega
  have e8 : 2 ^ (S + 8) = 256 * 2 ^ S := by rw [Nat.pow_add]; omega
  have hP := Nat.two_pow_pos S
  obtain ⟨k, ek⟩ : ∃ k, f / 2 ^ (S + 9) = k := ⟨_, rfl⟩
  obtain ⟨l, el⟩ : ∃ l, f % 2 ^ (S + 9) = l := ⟨_, rfl⟩
  have hl : l < 512 * 2 ^ S := by rw [← el, ← e9]; exact Nat.mod_lt _ (Nat.two_pow_pos _)
  have hfk : f = 512 * (k * 2 ^ S) + l := by
    have := Nat.div_add_mod' f (2 ^ (S + 9))
    rw [ek, el, e9, Nat.mul_left_comm] at this
    exact this.symm
  have hk : k < 16 := by rw [← ek]; exact h1
  have h8 : S = 0 ∨ 8 ≤ k := by
    rcases h2 with h2 | h2
    · exact Or.inl h2
    · refine Or.inr ?_
      rw [← ek]
      have h3 : f / 2 ^ (S + 9) = f / 2 ^ (S + 8) / 2 := by rw [Nat.div_div_eq_div_mul, Nat.pow_succ]
      omega
  obtain ⟨t1, t2⟩ := tf_meet (m := m) (mo := mo) (ng := ng) N hRS hk h8 hfk hl
  have hp' : post (nI (tf_sg ng (tf_xc m (tf_aw m ng) (tf_xd m S k l (2 ^ (S + 8)) mo ng)))) (nI m, tf_xn N (decide (l = 0) && !mo) (tf_xd m S k l (2 ^ (S + 8)) mo ng), H) := by
    rw [e8, t1, t2]
    exact hp
  have g := fun ex => tx_r63 (post := post) (N := N) (H := H) (ng := ng) (mo := mo) ex hm hf hS hk ek el
  unfold wX_rounded_30
  refine nm_r (show nI S + 9 = nI (S + 9) from nI_add S 9) (nm_r (e' := lN k) ?_ ?_)
  · rw [tf_shr (by omega) (by omega), ek]
  · rw [wb_shl _ (by omega)]
    have hkf : k * 2 ^ (S + 9) ≤ f := by rw [← ek]; exact Nat.div_mul_le_self _ _
    by_cases l0 : l = 0
    · rw [decide_eq_true l0] at hp'
      refine br_t (congrArg lN (by rw [e9, hfk, l0, Nat.mul_left_comm]; rfl)) ?_
      rw [tf_br]
      cases mo
      · exact g true hp'
      · exact g false hp'
    · rw [decide_eq_false l0] at hp'
      refine br_f (fun z => l0 ?_) ?_
      · have := (pk_lEQ (by omega) (by omega)).mp z
        rw [e9, Nat.mul_left_comm] at this
        omega
      · exact g false hp'
theorem tx_rl {post : Int32 → SX → Prop} {N H : Int32} {m f c : Nat} {ng mo : Bool} (hm : m < 4) (hf : f < 2 ^ 44) (hRS : tf_RS c f) (hp : post (nI (tf_ra m c f mo ng)) (nI m, tf_rn N m c f mo ng, H)) : ∀ n S : Nat, S + n = 41 → (S = 0 ∨ 16 ≤ f / 2 ^ (S + 8)) → wX_rounded_3 post (tf_b ng) (lN f) (tf_b mo) (nI m) N H n (nI S) := by
  intro n
  induction n with
  | zero =>
    intro S hS h2
    exfalso
    have hS : S = 41 := by omega
    subst hS
    rcases h2 with h2 | h2
    · omega
    · have : f / 2 ^ (41 + 8) = 0 := Nat.div_eq_of_lt (by omega)
      omega
  | succ n ih =>
    intro S hS h2
    have h40 : S < 40 := by
      apply Classical.byContradiction
      intro hn
      have hS : S = 40 := by omega
      subst hS
      rcases h2 with h2 | h2
      · omega
      · have : f / 2 ^ (40 + 8) = 0 := Nat.div_eq_of_lt (by omega)
        omega
    have es : lN f >>> ((nI S + 9).toInt64 &&& 63) = lN (f / 2 ^ (S + 9)) := by
      rw [show nI S + 9 = nI (S + 9) from nI_add S 9]
      exact tf_shr (by omega) (by omega)
    have hd : f / 2 ^ (S + 9) ≤ f := Nat.div_le_self _ _
    refine br_f (nI_ge (b := 40) h40 (by decide)) ?_
    rw [es]
    by_cases h1 : f / 2 ^ (S + 9) < 16
    · refine br_t ((pk_lLT (b := 16) (by omega) (by decide)).mpr h1) ?_
      exact tx_r30 hm hf (by omega) hRS h1 h2 hp
    · refine br_f (fun z => h1 ((pk_lLT (b := 16) (by omega) (by decide)).mp z)) (nm_r (nI_1 S) ?_)
      exact ih (S + 1) (by omega) (Or.inr (by rw [show S + 1 + 8 = S + 9 by omega]; omega))
theorem tx_rounded {post : Int32 → SX → Prop} {N H : Int32} {m f c : Nat} (mo ng : Bool) (hm : m < 4) (hf : f < 2 ^ 44) (hRS : tf_RS c f) (hp : post (nI (tf_ra m c f mo ng)) (nI m, tf_rn N m c f mo ng, H)) : wpX_rounded post (nI m, N, H) (tf_b ng) (lN f) (tf_b mo) :=
  ⟨41, tx_rl hm hf hRS hp 41 0 rfl (Or.inl rfl)⟩
