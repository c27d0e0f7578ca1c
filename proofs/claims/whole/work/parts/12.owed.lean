/-! the owed statements -/
def i_Rel (_ : Nat) (u : SX) (v : SY) : Prop := ∃ (m h : Nat) (n : Int32) (A : Nat → Int32), m < 4 ∧ h < 256 ∧ tf_TB A ∧ u = (nI m, n, nI h) ∧ v = (nI m, n, nI h, A)
theorem tf_mk {m h : Nat} {n : Int32} {A : Nat → Int32} (k : Nat) (hm : m < 4) (hh : h < 256) (hA : tf_TB A) : i_Rel k (nI m, n, nI h) (nI m, n, nI h, A) := ⟨m, h, n, A, hm, hh, hA, rfl, rfl⟩
theorem tf_end {m h : Nat} {A : Nat → Int32} (k : Nat) (hm : m < 4) (hh : h < 256) (hA : tf_TB A) {WX : (Int32 → SX → Prop) → Prop} {WY : (Int32 → SY → Prop) → Prop} (g : tf_Ag m (nI h) (nI h) A WX WY) : WX (fun r u' => WY (fun r' v' => r' = r ∧ i_Rel (k + 4) u' v')) := by
  obtain ⟨q, n, hq, gx, gy⟩ := g
  exact gx _ (gy _ ⟨rfl, tf_mk (k + 4) hm hh hA⟩)
theorem tf_bad {m h : Nat} {n : Int32} {A : Nat → Int32} (k : Nat) (hm : m < 4) (hh : h < 256) (hA : tf_TB A) {WX : (Int32 → SX → Prop) → Prop} {WY : (Int32 → SY → Prop) → Prop} (gx : ∀ post, post (-1) (nI m, n, nI h) → WX post) (gy : ∀ post, post (-1) (nI m, n, nI h, A) → WY post) : WX (fun r u' => WY (fun r' v' => r' = r ∧ i_Rel (k + 4) u' v')) := gx _ (gy _ ⟨rfl, tf_mk (k + 4) hm hh hA⟩)
theorem i_up {k : Nat} {u : SX} {v : SY} (h : i_Rel k u v) : i_Rel (k + 4) u v := h
theorem i_vc0 : wpX_init (fun u => wpY_init (fun v => i_Rel 0 u v)) := ty_init (fun _ hA => tf_mk (m := 0) (h := 0) 0 (by decide) (by decide) hA)
theorem i_vc_mode {k : Nat} {u : SX} {v : SY} (I : i_Rel k u v) (hk : k + 4 ≤ 2048) (v1 : Int32) : wpX_mode (fun r u' => wpY_mode (fun r' v' => r' = r ∧ i_Rel (k + 4) u' v') v v1) u v1 := by
  obtain ⟨m, h, n, A, hm, hh, hA, rfl, rfl⟩ := I
  by_cases h1 : v1 < 0
  · exact br_t h1 (br_t h1 ⟨rfl, tf_mk _ hm hh hA⟩)
  · by_cases h2 : v1 ≤ 3
    · obtain ⟨j, hj, rfl⟩ := nI_of2 (M := 3) (n := 3) (by decide) h1 h2
      exact br_f h1 (br_t h2 (br_f h1 (br_t h2 ⟨rfl, tf_mk _ (by omega) hh hA⟩)))
    · exact br_f h1 (br_f h2 (br_f h1 (br_f h2 ⟨rfl, tf_mk _ hm hh hA⟩)))
theorem i_vc_notes {k : Nat} {u : SX} {v : SY} (I : i_Rel k u v) (hk : k + 4 ≤ 2048) : wpX_notes (fun r => wpY_notes (fun r' => r' = r ∧ i_Rel (k + 4) u v) v) u := by
  obtain ⟨m, h, n, A, hm, hh, hA, rfl, rfl⟩ := I
  exact ⟨rfl, tf_mk _ hm hh hA⟩
theorem i_vc_clear {k : Nat} {u : SX} {v : SY} (I : i_Rel k u v) (hk : k + 4 ≤ 2048) : wpX_clear (fun r u' => wpY_clear (fun r' v' => r' = r ∧ i_Rel (k + 4) u' v') v) u := by
  obtain ⟨m, h, n, A, hm, hh, hA, rfl, rfl⟩ := I
  exact ⟨rfl, tf_mk _ hm hh hA⟩
theorem i_vc_add {k : Nat} {u : SX} {v : SY} (I : i_Rel k u v) (hk : k + 4 ≤ 2048) (v1 : Int32) (v2 : Int32) : wpX_add (fun r u' => wpY_add (fun r' v' => r' = r ∧ i_Rel (k + 4) u' v') v v1 v2) u v1 v2 := by
  obtain ⟨m, h, n, A, hm, hh, hA, rfl, rfl⟩ := I
  rcases tf_code v2 with ⟨b, hb, rfl⟩ | ⟨bx, bY⟩
  · rcases tf_code v1 with ⟨a, ha, rfl⟩ | ⟨bx, bY⟩
    · have g := tg_add (N := n) (HX := nI h) (HY := nI h) hm hA ha hb
      refine tf_end k hm hh hA (WX := fun post => wpX_add post (nI m, n, nI h) (nI a) (nI b)) (WY := fun post => wpY_add post (nI m, n, nI h, A) (nI a) (nI b)) ?_
      simp only [wpX_add, tx_code ha, tx_code hb, eq_self, true_implies, false_implies, not_true_eq_false, not_false_eq_true, and_true, true_and, cond_true, cond_false, tf_br]
      exact g
    · exact tf_bad (n := n) k hm hh hA (WX := fun post => wpX_add post (nI m, n, nI h) v1 (nI b)) (WY := fun post => wpY_add post (nI m, n, nI h, A) v1 (nI b)) (fun post hp => by simp only [wpX_add, tx_code hb, ty_code hb, bx, bY, eq_self, true_implies, false_implies, not_true_eq_false, not_false_eq_true, and_true, true_and, cond_true, cond_false, tf_br]; exact hp) (fun post hp => by simp only [wpY_add, tx_code hb, ty_code hb, bx, bY, eq_self, true_implies, false_implies, not_true_eq_false, not_false_eq_true, and_true, true_and, cond_true, cond_false, tf_br]; exact hp)
  · rcases tf_code v1 with ⟨a, ha, rfl⟩ | ⟨cx, cY⟩
    · exact tf_bad (n := n) k hm hh hA (WX := fun post => wpX_add post (nI m, n, nI h) (nI a) v2) (WY := fun post => wpY_add post (nI m, n, nI h, A) (nI a) v2) (fun post hp => by simp only [wpX_add, tx_code ha, ty_code ha, bx, bY, eq_self, true_implies, false_implies, not_true_eq_false, not_false_eq_true, and_true, true_and, cond_true, cond_false, tf_br]; exact hp) (fun post hp => by simp only [wpY_add, tx_code ha, ty_code ha, bx, bY, eq_self, true_implies, false_implies, not_true_eq_false, not_false_eq_true, and_true, true_and, cond_true, cond_false, tf_br]; exact hp)
    · exact tf_bad (n := n) k hm hh hA (WX := fun post => wpX_add post (nI m, n, nI h) v1 v2) (WY := fun post => wpY_add post (nI m, n, nI h, A) v1 v2) (fun post hp => by simp only [wpX_add, bx, bY, cx, cY, eq_self, true_implies, false_implies, not_true_eq_false, not_false_eq_true, and_true, true_and, cond_true, cond_false, tf_br]; exact hp) (fun post hp => by simp only [wpY_add, bx, bY, cx, cY, eq_self, true_implies, false_implies, not_true_eq_false, not_false_eq_true, and_true, true_and, cond_true, cond_false, tf_br]; exact hp)
theorem i_vc_subtract {k : Nat} {u : SX} {v : SY} (I : i_Rel k u v) (hk : k + 4 ≤ 2048) (v1 : Int32) (v2 : Int32) : wpX_subtract (fun r u' => wpY_subtract (fun r' v' => r' = r ∧ i_Rel (k + 4) u' v') v v1 v2) u v1 v2 := by
  obtain ⟨m, h, n, A, hm, hh, hA, rfl, rfl⟩ := I
  rcases tf_code v2 with ⟨b, hb, rfl⟩ | ⟨bx, bY⟩
  · rcases tf_code v1 with ⟨a, ha, rfl⟩ | ⟨bx, bY⟩
    · exact tf_end k hm hh hA (WX := fun post => wpX_subtract post (nI m, n, nI h) (nI a) (nI b)) (WY := fun post => wpY_subtract post (nI m, n, nI h, A) (nI a) (nI b)) (tg_sub hm hA ha hb)
    · exact tf_bad (n := n) k hm hh hA (WX := fun post => wpX_subtract post (nI m, n, nI h) v1 (nI b)) (WY := fun post => wpY_subtract post (nI m, n, nI h, A) v1 (nI b)) (fun post hp => by simp only [wpX_subtract, tx_code hb, ty_code hb, bx, bY, eq_self, true_implies, false_implies, not_true_eq_false, not_false_eq_true, and_true, true_and, cond_true, cond_false, tf_br]; exact hp) (fun post hp => by simp only [wpY_subtract, wY_subtract_27, wpY_add, ty_isNone hb, tx_code hb, ty_code hb, bx, bY, eq_self, true_implies, false_implies, not_true_eq_false, not_false_eq_true, and_true, true_and, cond_true, cond_false, tf_br]; cases tf_nn b <;> exact hp)
  · rcases tf_code v1 with ⟨a, ha, rfl⟩ | ⟨cx, cY⟩
    · exact tf_bad (n := n) k hm hh hA (WX := fun post => wpX_subtract post (nI m, n, nI h) (nI a) v2) (WY := fun post => wpY_subtract post (nI m, n, nI h, A) (nI a) v2) (fun post hp => by simp only [wpX_subtract, tx_code ha, ty_code ha, bx, bY, eq_self, true_implies, false_implies, not_true_eq_false, not_false_eq_true, and_true, true_and, cond_true, cond_false, tf_br]; exact hp) (fun post hp => by simp only [wpY_subtract, wY_subtract_27, wpY_add, tx_code ha, ty_code ha, bx, bY, eq_self, true_implies, false_implies, not_true_eq_false, not_false_eq_true, and_true, true_and, cond_true, cond_false, tf_br]; exact hp)
    · exact tf_bad (n := n) k hm hh hA (WX := fun post => wpX_subtract post (nI m, n, nI h) v1 v2) (WY := fun post => wpY_subtract post (nI m, n, nI h, A) v1 v2) (fun post hp => by simp only [wpX_subtract, bx, bY, cx, cY, eq_self, true_implies, false_implies, not_true_eq_false, not_false_eq_true, and_true, true_and, cond_true, cond_false, tf_br]; exact hp) (fun post hp => by simp only [wpY_subtract, wY_subtract_27, wpY_add, bx, bY, cx, cY, eq_self, true_implies, false_implies, not_true_eq_false, not_false_eq_true, and_true, true_and, cond_true, cond_false, tf_br]; exact hp)
theorem i_vc_multiply {k : Nat} {u : SX} {v : SY} (I : i_Rel k u v) (hk : k + 4 ≤ 2048) (v1 : Int32) (v2 : Int32) : wpX_multiply (fun r u' => wpY_multiply (fun r' v' => r' = r ∧ i_Rel (k + 4) u' v') v v1 v2) u v1 v2 := by
  obtain ⟨m, h, n, A, hm, hh, hA, rfl, rfl⟩ := I
  rcases tf_code v2 with ⟨b, hb, rfl⟩ | ⟨bx, bY⟩
  · rcases tf_code v1 with ⟨a, ha, rfl⟩ | ⟨bx, bY⟩
    · exact tf_end k hm hh hA (WX := fun post => wpX_multiply post (nI m, n, nI h) (nI a) (nI b)) (WY := fun post => wpY_multiply post (nI m, n, nI h, A) (nI a) (nI b)) (tg_mul hm hA ha hb)
    · exact tf_bad (n := n) k hm hh hA (WX := fun post => wpX_multiply post (nI m, n, nI h) v1 (nI b)) (WY := fun post => wpY_multiply post (nI m, n, nI h, A) v1 (nI b)) (fun post hp => by simp only [wpX_multiply, tx_code hb, ty_code hb, bx, bY, eq_self, true_implies, false_implies, not_true_eq_false, not_false_eq_true, and_true, true_and, cond_true, cond_false, tf_br]; exact hp) (fun post hp => by simp only [wpY_multiply, tx_code hb, ty_code hb, bx, bY, eq_self, true_implies, false_implies, not_true_eq_false, not_false_eq_true, and_true, true_and, cond_true, cond_false, tf_br]; exact hp)
  · rcases tf_code v1 with ⟨a, ha, rfl⟩ | ⟨cx, cY⟩
    · exact tf_bad (n := n) k hm hh hA (WX := fun post => wpX_multiply post (nI m, n, nI h) (nI a) v2) (WY := fun post => wpY_multiply post (nI m, n, nI h, A) (nI a) v2) (fun post hp => by simp only [wpX_multiply, tx_code ha, ty_code ha, bx, bY, eq_self, true_implies, false_implies, not_true_eq_false, not_false_eq_true, and_true, true_and, cond_true, cond_false, tf_br]; exact hp) (fun post hp => by simp only [wpY_multiply, tx_code ha, ty_code ha, bx, bY, eq_self, true_implies, false_implies, not_true_eq_false, not_false_eq_true, and_true, true_and, cond_true, cond_false, tf_br]; exact hp)
    · exact tf_bad (n := n) k hm hh hA (WX := fun post => wpX_multiply post (nI m, n, nI h) v1 v2) (WY := fun post => wpY_multiply post (nI m, n, nI h, A) v1 v2) (fun post hp => by simp only [wpX_multiply, bx, bY, cx, cY, eq_self, true_implies, false_implies, not_true_eq_false, not_false_eq_true, and_true, true_and, cond_true, cond_false, tf_br]; exact hp) (fun post hp => by simp only [wpY_multiply, bx, bY, cx, cY, eq_self, true_implies, false_implies, not_true_eq_false, not_false_eq_true, and_true, true_and, cond_true, cond_false, tf_br]; exact hp)
theorem i_vc_divide {k : Nat} {u : SX} {v : SY} (I : i_Rel k u v) (hk : k + 4 ≤ 2048) (v1 : Int32) (v2 : Int32) : wpX_divide (fun r u' => wpY_divide (fun r' v' => r' = r ∧ i_Rel (k + 4) u' v') v v1 v2) u v1 v2 := by
  obtain ⟨m, h, n, A, hm, hh, hA, rfl, rfl⟩ := I
  rcases tf_code v2 with ⟨b, hb, rfl⟩ | ⟨bx, bY⟩
  · rcases tf_code v1 with ⟨a, ha, rfl⟩ | ⟨bx, bY⟩
    · exact tf_end k hm hh hA (WX := fun post => wpX_divide post (nI m, n, nI h) (nI a) (nI b)) (WY := fun post => wpY_divide post (nI m, n, nI h, A) (nI a) (nI b)) (tg_div hm hA ha hb)
    · exact tf_bad (n := n) k hm hh hA (WX := fun post => wpX_divide post (nI m, n, nI h) v1 (nI b)) (WY := fun post => wpY_divide post (nI m, n, nI h, A) v1 (nI b)) (fun post hp => by simp only [wpX_divide, tx_code hb, ty_code hb, bx, bY, eq_self, true_implies, false_implies, not_true_eq_false, not_false_eq_true, and_true, true_and, cond_true, cond_false, tf_br]; exact hp) (fun post hp => by simp only [wpY_divide, tx_code hb, ty_code hb, bx, bY, eq_self, true_implies, false_implies, not_true_eq_false, not_false_eq_true, and_true, true_and, cond_true, cond_false, tf_br]; exact hp)
  · rcases tf_code v1 with ⟨a, ha, rfl⟩ | ⟨cx, cY⟩
    · exact tf_bad (n := n) k hm hh hA (WX := fun post => wpX_divide post (nI m, n, nI h) (nI a) v2) (WY := fun post => wpY_divide post (nI m, n, nI h, A) (nI a) v2) (fun post hp => by simp only [wpX_divide, tx_code ha, ty_code ha, bx, bY, eq_self, true_implies, false_implies, not_true_eq_false, not_false_eq_true, and_true, true_and, cond_true, cond_false, tf_br]; exact hp) (fun post hp => by simp only [wpY_divide, tx_code ha, ty_code ha, bx, bY, eq_self, true_implies, false_implies, not_true_eq_false, not_false_eq_true, and_true, true_and, cond_true, cond_false, tf_br]; exact hp)
    · exact tf_bad (n := n) k hm hh hA (WX := fun post => wpX_divide post (nI m, n, nI h) v1 v2) (WY := fun post => wpY_divide post (nI m, n, nI h, A) v1 v2) (fun post hp => by simp only [wpX_divide, bx, bY, cx, cY, eq_self, true_implies, false_implies, not_true_eq_false, not_false_eq_true, and_true, true_and, cond_true, cond_false, tf_br]; exact hp) (fun post hp => by simp only [wpY_divide, bx, bY, cx, cY, eq_self, true_implies, false_implies, not_true_eq_false, not_false_eq_true, and_true, true_and, cond_true, cond_false, tf_br]; exact hp)
theorem i_vc_root {k : Nat} {u : SX} {v : SY} (I : i_Rel k u v) (hk : k + 4 ≤ 2048) (v1 : Int32) : wpX_root (fun r u' => wpY_root (fun r' v' => r' = r ∧ i_Rel (k + 4) u' v') v v1) u v1 := by
  obtain ⟨m, h, n, A, hm, hh, hA, rfl, rfl⟩ := I
  rcases tf_code v1 with ⟨a, ha, rfl⟩ | ⟨bx, bY⟩
  · exact tf_end k hm hh hA (WX := fun post => wpX_root post (nI m, n, nI h) (nI a)) (WY := fun post => wpY_root post (nI m, n, nI h, A) (nI a)) (tg_root hm hA ha)
  · exact tf_bad (n := n) k hm hh hA (WX := fun post => wpX_root post (nI m, n, nI h) v1) (WY := fun post => wpY_root post (nI m, n, nI h, A) v1) (fun post hp => by simp only [wpX_root, bx, bY, eq_self, true_implies, false_implies, not_true_eq_false, not_false_eq_true, and_true, true_and, cond_true, cond_false, tf_br]; exact hp) (fun post hp => by simp only [wpY_root, bx, bY, eq_self, true_implies, false_implies, not_true_eq_false, not_false_eq_true, and_true, true_and, cond_true, cond_false, tf_br]; exact hp)
theorem i_vc_together {k : Nat} {u : SX} {v : SY} (I : i_Rel k u v) (hk : k + 4 ≤ 2048) (v1 : Int32) (v2 : Int32) (v3 : Int32) : wpX_together (fun r u' => wpY_together (fun r' v' => r' = r ∧ i_Rel (k + 4) u' v') v v1 v2 v3) u v1 v2 v3 := by
  obtain ⟨m, h, n, A, hm, hh, hA, rfl, rfl⟩ := I
  rcases tf_code v1 with ⟨a, ha, rfl⟩ | ⟨bx, bY⟩
  · rcases tf_code v2 with ⟨b, hb, rfl⟩ | ⟨bx, bY⟩
    · rcases tf_code v3 with ⟨c, hc, rfl⟩ | ⟨bx, bY⟩
      · have g := tg_tog (N := n) (HX := nI h) (HY := nI h) hm hA ha hb hc
        refine tf_end k hm hh hA (WX := fun post => wpX_together post (nI m, n, nI h) (nI a) (nI b) (nI c)) (WY := fun post => wpY_together post (nI m, n, nI h, A) (nI a) (nI b) (nI c)) ?_
        simp only [wpX_together, tx_code ha, tx_code hb, tx_code hc, eq_self, true_implies, false_implies, not_true_eq_false, not_false_eq_true, and_true, true_and, cond_true, cond_false, tf_br]
        exact g
      · exact tf_bad (n := n) k hm hh hA (WX := fun post => wpX_together post (nI m, n, nI h) (nI a) (nI b) v3) (WY := fun post => wpY_together post (nI m, n, nI h, A) (nI a) (nI b) v3) (fun post hp => by simp only [wpX_together, tx_code ha, ty_code ha, tx_code hb, ty_code hb, bx, bY, eq_self, true_implies, false_implies, not_true_eq_false, not_false_eq_true, and_true, true_and, cond_true, cond_false, tf_br]; exact hp) (fun post hp => by simp only [wpY_together, tx_code ha, ty_code ha, tx_code hb, ty_code hb, bx, bY, eq_self, true_implies, false_implies, not_true_eq_false, not_false_eq_true, and_true, true_and, cond_true, cond_false, tf_br]; exact hp)
    · exact tf_bad (n := n) k hm hh hA (WX := fun post => wpX_together post (nI m, n, nI h) (nI a) v2 v3) (WY := fun post => wpY_together post (nI m, n, nI h, A) (nI a) v2 v3) (fun post hp => by simp only [wpX_together, tx_code ha, ty_code ha, bx, bY, eq_self, true_implies, false_implies, not_true_eq_false, not_false_eq_true, and_true, true_and, cond_true, cond_false, tf_br]; exact hp) (fun post hp => by simp only [wpY_together, tx_code ha, ty_code ha, bx, bY, eq_self, true_implies, false_implies, not_true_eq_false, not_false_eq_true, and_true, true_and, cond_true, cond_false, tf_br]; exact hp)
  · exact tf_bad (n := n) k hm hh hA (WX := fun post => wpX_together post (nI m, n, nI h) v1 v2 v3) (WY := fun post => wpY_together post (nI m, n, nI h, A) v1 v2 v3) (fun post hp => by simp only [wpX_together, bx, bY, eq_self, true_implies, false_implies, not_true_eq_false, not_false_eq_true, and_true, true_and, cond_true, cond_false, tf_br]; exact hp) (fun post hp => by simp only [wpY_together, bx, bY, eq_self, true_implies, false_implies, not_true_eq_false, not_false_eq_true, and_true, true_and, cond_true, cond_false, tf_br]; exact hp)
theorem i_vc_compare {k : Nat} {u : SX} {v : SY} (I : i_Rel k u v) (hk : k + 4 ≤ 2048) (v1 : Int32) (v2 : Int32) : wpX_compare (fun r => wpY_compare (fun r' => r' = r ∧ i_Rel (k + 4) u v) v v1 v2) u v1 v2 := by
  obtain ⟨m, h, n, A, hm, hh, hA, rfl, rfl⟩ := I
  rcases tf_code v1 with ⟨a, ha, rfl⟩ | ⟨bx, bY⟩
  · rcases tf_code v2 with ⟨b, hb, rfl⟩ | ⟨bx, bY⟩
    · obtain ⟨r, gx, gy⟩ := tg_cmp (m := m) (N := n) (HX := nI h) (HY := nI h) hA ha hb
      exact gx _ (gy _ ⟨rfl, tf_mk _ hm hh hA⟩)
    · have gx : ∀ post : Int32 → Prop, post (-1) → wpX_compare post (nI m, n, nI h) (nI a) v2 := fun post hp => by simp only [wpX_compare, tx_code ha, ty_code ha, bx, bY, eq_self, true_implies, false_implies, not_true_eq_false, not_false_eq_true, and_true, true_and, cond_true, cond_false, tf_br]; exact hp
      have gy : ∀ post : Int32 → Prop, post (-1) → wpY_compare post (nI m, n, nI h, A) (nI a) v2 := fun post hp => by simp only [wpY_compare, tx_code ha, ty_code ha, bx, bY, eq_self, true_implies, false_implies, not_true_eq_false, not_false_eq_true, and_true, true_and, cond_true, cond_false, tf_br]; exact hp
      exact gx _ (gy _ ⟨rfl, tf_mk _ hm hh hA⟩)
  · have gx : ∀ post : Int32 → Prop, post (-1) → wpX_compare post (nI m, n, nI h) v1 v2 := fun post hp => by simp only [wpX_compare, bx, bY, eq_self, true_implies, false_implies, not_true_eq_false, not_false_eq_true, and_true, true_and, cond_true, cond_false, tf_br]; exact hp
    have gy : ∀ post : Int32 → Prop, post (-1) → wpY_compare post (nI m, n, nI h, A) v1 v2 := fun post hp => by simp only [wpY_compare, bx, bY, eq_self, true_implies, false_implies, not_true_eq_false, not_false_eq_true, and_true, true_and, cond_true, cond_false, tf_br]; exact hp
    exact gx _ (gy _ ⟨rfl, tf_mk _ hm hh hA⟩)
theorem i_vc_from {k : Nat} {u : SX} {v : SY} (I : i_Rel k u v) (hk : k + 4 ≤ 2048) (v1 : Int32) : wpX_from (fun r u' => wpY_from (fun r' v' => r' = r ∧ i_Rel (k + 4) u' v') v v1) u v1 := by
  obtain ⟨m, h, n, A, hm, hh, hA, rfl, rfl⟩ := I
  by_cases h1 : v1 < (-1000000)
  · exact br_t h1 (br_t h1 ⟨rfl, tf_mk _ hm hh hA⟩)
  · by_cases h2 : v1 ≤ 1000000
    · exact tf_end k hm hh hA (WX := fun post => wpX_from post (nI m, n, nI h) v1) (WY := fun post => wpY_from post (nI m, n, nI h, A) v1) (tg_from hm hA h1 h2)
    · exact br_f h1 (br_f h2 (br_f h1 (br_f h2 ⟨rfl, tf_mk _ hm hh hA⟩)))
theorem i_vc_whole {k : Nat} {u : SX} {v : SY} (I : i_Rel k u v) (hk : k + 4 ≤ 2048) (v1 : Int32) : wpX_whole (fun r => wpY_whole (fun r' => r' = r ∧ i_Rel (k + 4) u v) v v1) u v1 := by
  obtain ⟨m, h, n, A, hm, hh, hA, rfl, rfl⟩ := I
  rcases tf_code v1 with ⟨a, ha, rfl⟩ | ⟨bx, bY⟩
  · obtain ⟨r, gx, gy⟩ := tg_whole (N := n) (HX := nI h) (HY := nI h) hm hA ha
    exact gx _ (gy _ ⟨rfl, tf_mk _ hm hh hA⟩)
  · have gx : ∀ post : Int32 → Prop, post 9999 → wpX_whole post (nI m, n, nI h) v1 := fun post hp => by simp only [wpX_whole, bx, bY, eq_self, true_implies, false_implies, not_true_eq_false, not_false_eq_true, and_true, true_and, cond_true, cond_false, tf_br]; exact hp
    have gy : ∀ post : Int32 → Prop, post 9999 → wpY_whole post (nI m, n, nI h, A) v1 := fun post hp => by simp only [wpY_whole, bx, bY, eq_self, true_implies, false_implies, not_true_eq_false, not_false_eq_true, and_true, true_and, cond_true, cond_false, tf_br]; exact hp
    exact gx _ (gy _ ⟨rfl, tf_mk _ hm hh hA⟩)
theorem i_vc_pile {k : Nat} {u : SX} {v : SY} (I : i_Rel k u v) (hk : k + 4 ≤ 2048) (v1 : Int32) : wpX_pile (fun r u' => wpY_pile (fun r' v' => r' = r ∧ i_Rel (k + 4) u' v') v v1) u v1 := by
  obtain ⟨m, h, n, A, hm, hh, hA, rfl, rfl⟩ := I
  rcases tf_code v1 with ⟨a, ha, rfl⟩ | ⟨bx, bY⟩
  · obtain ⟨q, n', hq, gx, gy⟩ := tg_add (N := n) (HX := nI h) (HY := nI h) hm hA hh ha
    simp only [wpX_pile, wpY_pile, tx_code ha, ty_code ha, eq_self, true_implies, false_implies, not_true_eq_false, not_false_eq_true, and_true, true_and, cond_true, cond_false, tf_br]
    exact gx _ (gy _ ⟨by trivial, tf_mk _ hm hq hA⟩)
  · exact tf_bad (n := n) k hm hh hA (WX := fun post => wpX_pile post (nI m, n, nI h) v1) (WY := fun post => wpY_pile post (nI m, n, nI h, A) v1) (fun post hp => by simp only [wpX_pile, bx, bY, eq_self, true_implies, false_implies, not_true_eq_false, not_false_eq_true, and_true, true_and, cond_true, cond_false, tf_br]; exact hp) (fun post hp => by simp only [wpY_pile, bx, bY, eq_self, true_implies, false_implies, not_true_eq_false, not_false_eq_true, and_true, true_and, cond_true, cond_false, tf_br]; exact hp)
theorem i_vc_pileProduct {k : Nat} {u : SX} {v : SY} (I : i_Rel k u v) (hk : k + 4 ≤ 2048) (v1 : Int32) (v2 : Int32) : wpX_pileProduct (fun r u' => wpY_pileProduct (fun r' v' => r' = r ∧ i_Rel (k + 4) u' v') v v1 v2) u v1 v2 := by
  obtain ⟨m, h, n, A, hm, hh, hA, rfl, rfl⟩ := I
  rcases tf_code v2 with ⟨b, hb, rfl⟩ | ⟨bx, bY⟩
  · rcases tf_code v1 with ⟨a, ha, rfl⟩ | ⟨bx, bY⟩
    · obtain ⟨q, n', hq, gx, gy⟩ := tg_tog (N := n) (HX := nI h) (HY := nI h) hm hA ha hb hh
      simp only [wpX_pileProduct, wpY_pileProduct, tx_code ha, tx_code hb, ty_code ha, ty_code hb, eq_self, true_implies, false_implies, not_true_eq_false, not_false_eq_true, and_true, true_and, cond_true, cond_false, tf_br]
      exact gx _ (gy _ ⟨by trivial, tf_mk _ hm hq hA⟩)
    · exact tf_bad (n := n) k hm hh hA (WX := fun post => wpX_pileProduct post (nI m, n, nI h) v1 (nI b)) (WY := fun post => wpY_pileProduct post (nI m, n, nI h, A) v1 (nI b)) (fun post hp => by simp only [wpX_pileProduct, tx_code hb, ty_code hb, bx, bY, eq_self, true_implies, false_implies, not_true_eq_false, not_false_eq_true, and_true, true_and, cond_true, cond_false, tf_br]; exact hp) (fun post hp => by simp only [wpY_pileProduct, tx_code hb, ty_code hb, bx, bY, eq_self, true_implies, false_implies, not_true_eq_false, not_false_eq_true, and_true, true_and, cond_true, cond_false, tf_br]; exact hp)
  · rcases tf_code v1 with ⟨a, ha, rfl⟩ | ⟨cx, cY⟩
    · exact tf_bad (n := n) k hm hh hA (WX := fun post => wpX_pileProduct post (nI m, n, nI h) (nI a) v2) (WY := fun post => wpY_pileProduct post (nI m, n, nI h, A) (nI a) v2) (fun post hp => by simp only [wpX_pileProduct, tx_code ha, ty_code ha, bx, bY, eq_self, true_implies, false_implies, not_true_eq_false, not_false_eq_true, and_true, true_and, cond_true, cond_false, tf_br]; exact hp) (fun post hp => by simp only [wpY_pileProduct, tx_code ha, ty_code ha, bx, bY, eq_self, true_implies, false_implies, not_true_eq_false, not_false_eq_true, and_true, true_and, cond_true, cond_false, tf_br]; exact hp)
    · exact tf_bad (n := n) k hm hh hA (WX := fun post => wpX_pileProduct post (nI m, n, nI h) v1 v2) (WY := fun post => wpY_pileProduct post (nI m, n, nI h, A) v1 v2) (fun post hp => by simp only [wpX_pileProduct, bx, bY, cx, cY, eq_self, true_implies, false_implies, not_true_eq_false, not_false_eq_true, and_true, true_and, cond_true, cond_false, tf_br]; exact hp) (fun post hp => by simp only [wpY_pileProduct, bx, bY, cx, cY, eq_self, true_implies, false_implies, not_true_eq_false, not_false_eq_true, and_true, true_and, cond_true, cond_false, tf_br]; exact hp)
theorem i_vc_store {k : Nat} {u : SX} {v : SY} (I : i_Rel k u v) (hk : k + 4 ≤ 2048) (v1 : Int32) : wpX_store (fun r u' => wpY_store (fun r' v' => r' = r ∧ i_Rel (k + 4) u' v') v v1) u v1 := by
  obtain ⟨m, h, n, A, hm, hh, hA, rfl, rfl⟩ := I
  rcases tf_code v1 with ⟨a, ha, rfl⟩ | ⟨bx, bY⟩
  · have gx : ∀ post : Int32 → SX → Prop, post (nI h) (nI m, n, nI a) → wpX_store post (nI m, n, nI h) (nI a) := fun post hp => by simp only [wpX_store, tx_code ha, eq_self, true_implies, false_implies, not_true_eq_false, not_false_eq_true, and_true, true_and, cond_true, cond_false, tf_br]; exact hp
    have gy : ∀ post : Int32 → SY → Prop, post (nI h) (nI m, n, nI a, A) → wpY_store post (nI m, n, nI h, A) (nI a) := fun post hp => by simp only [wpY_store, ty_code ha, eq_self, true_implies, false_implies, not_true_eq_false, not_false_eq_true, and_true, true_and, cond_true, cond_false, tf_br]; exact hp
    exact gx _ (gy _ ⟨rfl, tf_mk _ hm ha hA⟩)
  · exact tf_bad (n := n) k hm hh hA (WX := fun post => wpX_store post (nI m, n, nI h) v1) (WY := fun post => wpY_store post (nI m, n, nI h, A) v1) (fun post hp => by simp only [wpX_store, bx, bY, eq_self, true_implies, false_implies, not_true_eq_false, not_false_eq_true, and_true, true_and, cond_true, cond_false, tf_br]; exact hp) (fun post hp => by simp only [wpY_store, bx, bY, eq_self, true_implies, false_implies, not_true_eq_false, not_false_eq_true, and_true, true_and, cond_true, cond_false, tf_br]; exact hp)
