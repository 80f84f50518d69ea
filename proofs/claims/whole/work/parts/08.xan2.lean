section
variable {m : Nat} {lc : Nat} {fn fs ti ru un ic pr : Int32} {P Q U D C B O M bo bt rl en ov mi wo la re rt mk lg : Nat → Int32}
/-- the stored analysis of the slots below i -/
def rm_Sto (P D C B : Nat → Int32) (i : Nat) (bo bt : Nat → Int32) : Prop := ∀ j, j < i → 0 < rm_n P j → bt j = nI (rm_T (rm_n P) (rm_n B) j 8) ∧ bo j = nI (rm_L (rm_n P) (rm_n D) (rm_n C) (rm_n B) j)
theorem rm_xR2 (hA : rm_A m P Q U D C B M) (hm : m ≤ 8) {post : SX → Prop} (K : ∀ bo bt, rm_Sto P D C B m bo bt → post ((nI m), (nI lc), fn, fs, ti, ru, un, ic, pr, P, D, C, B, O, M, bo, bt, rl, en, ov, mi, wo, la, re, rt, mk, lg)) : ∀ e i n bo bt, i + e = m → e < n → rm_Sto P D C B i bo bt → wX_recomputeAnalysis_2 post (nI m) (nI lc) fn fs ti ru un ic pr n (nI i) P D C B O M bo bt rl en ov mi wo la re rt mk lg := by
  intro e
  induction e with
  | zero =>
    intro i n bo bt h1 h2 hS
    obtain ⟨n, rfl⟩ : ∃ k, n = k + 1 := ⟨n - 1, by omega⟩
    have e1 : i = m := by omega
    subst e1
    rw [wX_recomputeAnalysis_2]
    exact br_t (nI_le (Nat.le_refl _) (by omega)) (K bo bt hS)
  | succ e ih =>
    intro i n bo bt h1 h2 hS
    obtain ⟨n, rfl⟩ : ∃ k, n = k + 1 := ⟨n - 1, by omega⟩
    have ci : (nI i).toNatClampNeg = i := nI_clamp (by omega)
    have ii : vp_in (nI i) 8 := vp_in_nI (by omega) (by omega)
    rw [wX_recomputeAnalysis_2]
    refine br_f (nI_ge (by omega) (by omega)) (rm_xu hA hm (by omega) (fun hu => br_f (by decide) (rm_xT hA hm (by omega) ⟨ii, nm_r (e' := upd bt i (nI (rm_T (rm_n P) (rm_n B) i 8))) (by rw [ci]) (rm_xL hA hm (by omega) ⟨ii, nm_r (e' := upd bo i (nI (rm_L (rm_n P) (rm_n D) (rm_n C) (rm_n B) i))) (by rw [ci]) (nm_r (nI_1 i) (ih (i + 1) n _ _ (by omega) (by omega) (fun j hj hj2 => ?_)))⟩)⟩)) (fun hu => br_t rfl (nm_r (nI_1 i) (ih (i + 1) n bo bt (by omega) (by omega) (fun j hj hj2 => ?_)))))
    · by_cases ej : j = i
      · subst ej
        exact ⟨pk_us, pk_us⟩
      · rw [pk_un ej, pk_un ej]
        exact hS j (by omega) hj2
    · by_cases ej : j = i
      · subst ej
        omega
      · exact hS j (by omega) hj2
theorem rm_xR (hA : rm_A m P Q U D C B M) (hm : m ≤ 8) (hL : ∀ j, 0 < rm_n P j → rm_L (rm_n P) (rm_n D) (rm_n C) (rm_n B) j ≠ 0) {post : SX → Prop} (K : ∀ bo bt, rm_St P D C B bo bt → post ((nI m), (nI lc), fn, fs, ti, ru, un, ic, pr, P, D, C, B, O, M, bo, bt, rl, en, ov, mi, wo, la, re, rt, mk, lg)) : wpX_recomputeAnalysis post ((nI m), (nI lc), fn, fs, ti, ru, un, ic, pr, P, D, C, B, O, M, bo, bt, rl, en, ov, mi, wo, la, re, rt, mk, lg) :=
  ⟨m + 1, rm_xR2 hA hm (fun bo bt hS => K bo bt (fun j hj => ⟨(hS j (rm_A_used hA hj).2.2.1 hj).1, (hS j (rm_A_used hA hj).2.2.1 hj).2, hL j hj⟩)) m 0 (m + 1) bo bt (by omega) (by omega) (fun j hj => absurd hj (Nat.not_lt_zero j))⟩
theorem rm_xf2 (hA : rm_A m P Q U D C B M) (hm : m ≤ 8) {post : Int32 → Prop} : ∀ e i n, i + e = m → e < n → post (rm_oi (rm_ff (rm_n P) e i)) → wX_smallestFreeSlot_2 post (nI m) (nI lc) fn fs ti ru un ic pr P D C B O M bo bt rl en ov mi wo la re rt mk lg n (nI i) := by
  intro e
  induction e with
  | zero =>
    intro i n h1 h2 hp
    obtain ⟨n, rfl⟩ : ∃ k, n = k + 1 := ⟨n - 1, by omega⟩
    rw [wX_smallestFreeSlot_2]
    exact br_t (nI_le (by omega) (by omega)) hp
  | succ e ih =>
    intro i n h1 h2 hp
    obtain ⟨n, rfl⟩ : ∃ k, n = k + 1 := ⟨n - 1, by omega⟩
    rw [wX_smallestFreeSlot_2]
    refine br_f (nI_ge (by omega) (by omega)) (rm_xu hA hm (by omega) (fun hu => br_f (by decide) (nm_r (nI_1 i) (ih (i + 1) n (by omega) (by omega) ?_))) (fun hu => br_t rfl ?_))
    · have hne : ¬ rm_n P i = 0 := by omega
      rw [rm_ff_n hne] at hp
      exact hp
    · rw [rm_ff_y hu] at hp
      exact hp
theorem rm_xf (hA : rm_A m P Q U D C B M) (hm : m ≤ 8) {post : Int32 → Prop} (hp : post (rm_oi (rm_ff (rm_n P) m 0))) : wpX_smallestFreeSlot post ((nI m), (nI lc), fn, fs, ti, ru, un, ic, pr, P, D, C, B, O, M, bo, bt, rl, en, ov, mi, wo, la, re, rt, mk, lg) :=
  ⟨m + 1, rm_xf2 hA hm m 0 (m + 1) (by omega) (by omega) hp⟩
theorem rm_xc4 (hA : rm_A m P Q U D C B M) (hm : m ≤ 8) {post : Int32 → Prop} (hp : post (nI (rm_ct (rm_n P) m))) : ∀ e i n, i + e = m → e < n → wX_getTaskCount_4 post (nI m) (nI lc) fn fs ti ru un ic pr P D C B O M bo bt rl en ov mi wo la re rt mk lg n (nI (rm_ct (rm_n P) i)) (nI i) := by
  intro e
  induction e with
  | zero =>
    intro i n h1 h2
    obtain ⟨n, rfl⟩ : ∃ k, n = k + 1 := ⟨n - 1, by omega⟩
    have e1 : i = m := by omega
    subst e1
    rw [wX_getTaskCount_4]
    exact br_t (nI_le (Nat.le_refl _) (by omega)) hp
  | succ e ih =>
    intro i n h1 h2
    obtain ⟨n, rfl⟩ : ∃ k, n = k + 1 := ⟨n - 1, by omega⟩
    have H := ih (i + 1) n (by omega) (by omega)
    rw [wX_getTaskCount_4]
    refine br_f (nI_ge (by omega) (by omega)) (rm_xu hA hm (by omega) (fun hu => br_f (by decide) (nm_r (nI_1 _) (nm_r (nI_1 i) ?_))) (fun hu => br_t rfl (nm_r (nI_1 i) ?_)))
    · rw [rm_ct_y hu] at H
      exact H
    · have hne : ¬ 0 < rm_n P i := by omega
      rw [rm_ct_n hne] at H
      exact H
theorem rm_ct_m8 (hA : rm_A m P Q U D C B M) (hm : m ≤ 8) : rm_ct (rm_n P) m = rm_ct (rm_n P) 8 := by
  have := rm_ct_end (p := rm_n P) (fun j hj => rm_A_ge hA hj) (8 - m)
  rw [rm_to8 hm] at this
  exact this.symm
theorem rm_xc (hA : rm_A m P Q U D C B M) (hm : m ≤ 8) {post : Int32 → Prop} (hp : post (nI (rm_ct (rm_n P) 8))) : wpX_getTaskCount post ((nI m), (nI lc), fn, fs, ti, ru, un, ic, pr, P, D, C, B, O, M, bo, bt, rl, en, ov, mi, wo, la, re, rt, mk, lg) := by
  rw [← rm_ct_m8 hA hm] at hp
  exact ⟨m + 1, rm_xc4 hA hm hp m 0 (m + 1) (by omega) (by omega)⟩
theorem rm_xocc {post : SX → Prop} {k : Nat} {p d c b : Int32} (hk : k < 8) (h : post ((nI m), (nI lc), fn, fs, ti, ru, un, ic, pr, upd P k p, upd D k d, upd C k c, upd B k b, upd O k 0, upd M k c, bo, bt, rl, en, ov, mi, wo, la, re, rt, mk, lg)) : wpX_occupy post ((nI m), (nI lc), fn, fs, ti, ru, un, ic, pr, P, D, C, B, O, M, bo, bt, rl, en, ov, mi, wo, la, re, rt, mk, lg) (nI k) p d c b := by
  have ck : (nI k).toNatClampNeg = k := nI_clamp (by omega)
  have ik : vp_in (nI k) 8 := vp_in_nI hk (by omega)
  unfold wpX_occupy
  dsimp only
  rw [ck]
  exact ⟨ik, nm_e ⟨ik, nm_e ⟨ik, nm_e ⟨ik, nm_e ⟨ik, nm_e ⟨ik, nm_e h⟩⟩⟩⟩⟩⟩
theorem rm_xvac {post : SX → Prop} {k : Nat} (hk : k < 8) (h : post ((nI m), (nI lc), fn, fs, ti, ru, un, ic, pr, upd P k 0, D, C, B, O, M, bo, bt, rl, en, ov, mi, wo, la, re, rt, mk, lg)) : wpX_vacate post ((nI m), (nI lc), fn, fs, ti, ru, un, ic, pr, P, D, C, B, O, M, bo, bt, rl, en, ov, mi, wo, la, re, rt, mk, lg) (nI k) := by
  have ck : (nI k).toNatClampNeg = k := nI_clamp (by omega)
  have ik : vp_in (nI k) 8 := vp_in_nI hk (by omega)
  unfold wpX_vacate
  dsimp only
  rw [ck]
  exact ⟨ik, nm_e h⟩
end
theorem rm_xw {post : Int32 → Prop} {x lo hi : Int32} (h1 : lo ≤ x ∧ x ≤ hi → post 1) (h0 : ¬ (lo ≤ x ∧ x ≤ hi) → post 0) : wpX_isWithin post x lo hi := by
  unfold wpX_isWithin
  refine br_c (fun z => h0 (fun y => Int32.not_le.mpr z y.1)) (fun z => br_c (fun w => h0 (fun y => Int32.not_le.mpr w y.2)) (fun w => h1 ⟨Int32.not_lt.mp z, Int32.not_lt.mp w⟩))
def rm_ok (p d c b : Int32) : Prop := (1 ≤ p ∧ p ≤ 255) ∧ (1 ≤ d ∧ d ≤ p) ∧ (1 ≤ c ∧ c ≤ d) ∧ (0 ≤ b ∧ b ≤ 255)
theorem rm_xok {post : Int32 → Prop} {p d c b : Int32} (h1 : rm_ok p d c b → post 1) (h0 : ¬ rm_ok p d c b → post 0) : wpX_isTaskInRange post p d c b := by
  unfold wpX_isTaskInRange
  refine rm_xw (fun z1 => br_f (by decide) (rm_xw (fun z2 => br_f (by decide) (rm_xw (fun z3 => br_f (by decide) (rm_xw (fun z4 => br_f (by decide) (h1 ⟨z1, z2, z3, z4⟩)) (fun z => br_t rfl (h0 (fun y => z y.2.2.2))))) (fun z => br_t rfl (h0 (fun y => z y.2.2.1))))) (fun z => br_t rfl (h0 (fun y => z y.2.1))))) (fun z => br_t rfl (h0 (fun y => z y.1)))
theorem rm_ok_nat {p d c b : Int32} (h : rm_ok p d c b) : ∃ p' d' c' b' : Nat, p = nI p' ∧ d = nI d' ∧ c = nI c' ∧ b = nI b' ∧ (1 ≤ c' ∧ c' ≤ d' ∧ d' ≤ p' ∧ p' ≤ 255 ∧ b' ≤ 255) := by
  obtain ⟨⟨h1, h2⟩, ⟨h3, h4⟩, ⟨h5, h6⟩, ⟨h7, h8⟩⟩ := h
  have n1 : ∀ {x : Int32}, 1 ≤ x → ¬ x < 0 := fun q z => absurd (Int32.lt_of_le_of_lt q z) (by decide)
  obtain ⟨p', hp, rfl⟩ := nI_of (n1 h1)
  obtain ⟨d', hd, rfl⟩ := nI_of (n1 h3)
  obtain ⟨c', hc, rfl⟩ := nI_of (n1 h5)
  obtain ⟨b', hb, rfl⟩ := nI_of (Int32.not_lt.mpr h7)
  have e1 : nI p' ≤ nI 255 := h2
  have e2 : nI 1 ≤ nI c' := h5
  have e3 : nI b' ≤ nI 255 := h8
  rw [nI_leI (by omega) (by omega)] at e1 e2 e3 h4 h6
  exact ⟨p', d', c', b', rfl, rfl, rfl, rfl, e2, h6, h4, e1, e3⟩
