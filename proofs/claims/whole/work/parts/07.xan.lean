/-! the component's analysis, each method against the pure picture -/
theorem ek_if {c d A B : Prop} (e : c ↔ d) (f : d → A) (g : ¬ d → B) : (c → A) ∧ (¬ c → B) :=
  ⟨fun z => f (e.mp z), fun z => g (fun y => z (e.mpr y))⟩
theorem rm_hi_iff {m : Nat} {P Q U D C B M : Nat → Int32} (hA : rm_A m P Q U D C B M) (a b : Nat) : (P a < P b ∨ (P a = P b ∧ a < b)) ↔ rm_hi (rm_n P) a b := by
  have ha := rm_n255 hA.2.1 a
  have hb := rm_n255 hA.2.1 b
  rw [rm_A_P hA a, rm_A_P hA b, nI_ltI (by omega) (by omega), nI_eq (by omega) (by omega)]
theorem rm_quo {r p : Nat} (hr : r ≤ 255) (h0 : 0 < p) (hp : p ≤ 255) : (nI r + nI p - 1) / nI p = nI ((r + p - 1) / p) := by
  have e : nI (r + p) - nI 1 = nI (r + p - 1) := pk_sub (by omega)
  have e1 : nI (r + p) - 1 = nI (r + p - 1) := e
  rw [nI_add, e1, pk_div (by omega) h0 (by omega)]
section
variable {m : Nat} {lc : Nat} {fn fs ti ru un ic pr : Int32} {P Q U D C B O M bo bt rl en ov mi wo la re rt mk lg : Nat → Int32}
theorem rm_xu_t {post : Int32 → Prop} {j : Nat} (hm : m ≤ 8) (hj : j < m) (hP : 0 < P j) (h : post 1) : wpX_isInUse post ((nI m), (nI lc), fn, fs, ti, ru, un, ic, pr, P, D, C, B, O, M, bo, bt, rl, en, ov, mi, wo, la, re, rt, mk, lg) (nI j) := by
  have cj : (nI j).toNatClampNeg = j := nI_clamp (by omega)
  unfold wpX_isInUse
  dsimp only
  rw [cj]
  exact br_f (nI_pos (by omega)) (br_f (nI_ge hj (by omega)) ⟨vp_in_nI (by omega) (by omega), br_f (Int32.not_le.mpr hP) h⟩)
theorem rm_xu_f {post : Int32 → Prop} {j : Nat} (hm : m ≤ 8) (hj : j < m) (hP : P j = 0) (h : post 0) : wpX_isInUse post ((nI m), (nI lc), fn, fs, ti, ru, un, ic, pr, P, D, C, B, O, M, bo, bt, rl, en, ov, mi, wo, la, re, rt, mk, lg) (nI j) := by
  have cj : (nI j).toNatClampNeg = j := nI_clamp (by omega)
  unfold wpX_isInUse
  dsimp only
  rw [cj]
  exact br_f (nI_pos (by omega)) (br_f (nI_ge hj (by omega)) ⟨vp_in_nI (by omega) (by omega), br_t (by rw [hP]; exact Int32.le_refl 0) h⟩)
theorem rm_xu_lo {post : Int32 → Prop} {x : Int32} (hx : x < 0) (h : post 0) : wpX_isInUse post ((nI m), (nI lc), fn, fs, ti, ru, un, ic, pr, P, D, C, B, O, M, bo, bt, rl, en, ov, mi, wo, la, re, rt, mk, lg) x := by
  unfold wpX_isInUse
  dsimp only
  exact br_t hx h
theorem rm_xu_hi {post : Int32 → Prop} {x : Int32} (hx0 : ¬ x < 0) (hx : nI m ≤ x) (h : post 0) : wpX_isInUse post ((nI m), (nI lc), fn, fs, ti, ru, un, ic, pr, P, D, C, B, O, M, bo, bt, rl, en, ov, mi, wo, la, re, rt, mk, lg) x := by
  unfold wpX_isInUse
  dsimp only
  exact br_f hx0 (br_t hx h)
theorem rm_xu (hA : rm_A m P Q U D C B M) {post : Int32 → Prop} {j : Nat} (hm : m ≤ 8) (hj : j < m) (h1 : 0 < rm_n P j → post 1) (h0 : rm_n P j = 0 → post 0) : wpX_isInUse post ((nI m), (nI lc), fn, fs, ti, ru, un, ic, pr, P, D, C, B, O, M, bo, bt, rl, en, ov, mi, wo, la, re, rt, mk, lg) (nI j) := by
  by_cases z : 0 < rm_n P j
  · exact rm_xu_t hm hj ((rm_A_Ppos hA j).mpr z) (h1 z)
  · have z0 : rm_n P j = 0 := by omega
    exact rm_xu_f hm hj (rm_A_free hA z0).2 (h0 z0)
theorem rm_xh0 {post : Int32 → Prop} {a b : Nat} (ha : a < 8) (hb : b < 8) (h1 : (P a < P b ∨ (P a = P b ∧ a < b)) → post 1) (h0 : ¬ (P a < P b ∨ (P a = P b ∧ a < b)) → post 0) : wpX_hasHigherPriority post ((nI m), (nI lc), fn, fs, ti, ru, un, ic, pr, P, D, C, B, O, M, bo, bt, rl, en, ov, mi, wo, la, re, rt, mk, lg) (nI a) (nI b) := by
  have ca : (nI a).toNatClampNeg = a := nI_clamp (by omega)
  have cb : (nI b).toNatClampNeg = b := nI_clamp (by omega)
  have ia : vp_in (nI a) 8 := vp_in_nI ha (by omega)
  have ib : vp_in (nI b) 8 := vp_in_nI hb (by omega)
  have hle : nI b ≤ nI a ↔ b ≤ a := nI_leI (by omega) (by omega)
  unfold wpX_hasHigherPriority
  dsimp only
  rw [ca, cb]
  refine ⟨ia, ib, br_c (fun z => h1 (Or.inl z)) (fun z => ⟨ia, ib, br_c (fun y => ek_if hle (fun w => h0 ?_) (fun w => h1 (Or.inr ⟨y, by omega⟩))) (fun y => h0 ?_)⟩)⟩
  · intro q
    rcases q with q | q
    · exact z q
    · have := q.2
      omega
  · intro q
    rcases q with q | q
    · exact z q
    · exact y q.1
theorem rm_xh (hA : rm_A m P Q U D C B M) {post : Int32 → Prop} {a b : Nat} (ha : a < 8) (hb : b < 8) (h1 : rm_hi (rm_n P) a b → post 1) (h0 : ¬ rm_hi (rm_n P) a b → post 0) : wpX_hasHigherPriority post ((nI m), (nI lc), fn, fs, ti, ru, un, ic, pr, P, D, C, B, O, M, bo, bt, rl, en, ov, mi, wo, la, re, rt, mk, lg) (nI a) (nI b) :=
  rm_xh0 ha hb (fun z => h1 ((rm_hi_iff hA a b).mp z)) (fun z => h0 (fun y => z ((rm_hi_iff hA a b).mpr y)))
theorem rm_xT4 (hA : rm_A m P Q U D C B M) (hm : m ≤ 8) {post : Int32 → Prop} {t : Nat} (ht : t < 8) (hp : post (nI (rm_T (rm_n P) (rm_n B) t m))) : ∀ e i n, i + e = m → e < n → wX_blockTerm_4 post (nI t) (nI m) (nI lc) fn fs ti ru un ic pr P D C B O M bo bt rl en ov mi wo la re rt mk lg n (nI (rm_T (rm_n P) (rm_n B) t i)) (nI i) := by
  intro e
  induction e with
  | zero =>
    intro i n h1 h2
    obtain ⟨n, rfl⟩ : ∃ k, n = k + 1 := ⟨n - 1, by omega⟩
    have e1 : i = m := by omega
    subst e1
    rw [wX_blockTerm_4]
    exact br_t (nI_le (Nat.le_refl _) (by omega)) hp
  | succ e ih =>
    intro i n h1 h2
    obtain ⟨n, rfl⟩ : ∃ k, n = k + 1 := ⟨n - 1, by omega⟩
    have H := ih (i + 1) n (by omega) (by omega)
    have ci : (nI i).toNatClampNeg = i := nI_clamp (by omega)
    have ii : vp_in (nI i) 8 := vp_in_nI (by omega) (by omega)
    have hB := rm_n255 hA.2.2.2.2 i
    have hT := rm_T_255 (p := rm_n P) (fun j => rm_n255 hA.2.2.2.2 j) t i
    have cB : B (nI i).toNatClampNeg = nI (rm_n B i) := by
      rw [ci]
      exact rm_nI hA.2.2.2.2 i
    have hle : B (nI i).toNatClampNeg ≤ nI (rm_T (rm_n P) (rm_n B) t i) ↔ rm_n B i ≤ rm_T (rm_n P) (rm_n B) t i := by
      rw [cB]
      exact nI_leI (by omega) (by omega)
    rw [wX_blockTerm_4]
    refine br_f (nI_ge (by omega) (by omega)) (rm_xu hA hm (by omega) (fun hu => br_f (by decide) (rm_xh hA ht (by omega) (fun hh => br_f (by decide) ⟨ii, ek_if hle (fun z => nm_r (nI_1 i) ?_) (fun z => ⟨ii, nm_r cB (nm_r (nI_1 i) ?_)⟩)⟩) (fun hh => br_t rfl (nm_r (nI_1 i) ?_)))) (fun hu => br_t rfl (nm_r (nI_1 i) ?_)))
    · have hf : ¬ ((0 < rm_n P i ∧ rm_hi (rm_n P) t i) ∧ rm_T (rm_n P) (rm_n B) t i < rm_n B i) := fun y => by
        have := y.2
        omega
      rw [rm_T_f hf] at H
      exact H
    · rw [rm_T_t ⟨⟨hu, hh⟩, by omega⟩] at H
      exact H
    · have hf : ¬ ((0 < rm_n P i ∧ rm_hi (rm_n P) t i) ∧ rm_T (rm_n P) (rm_n B) t i < rm_n B i) := fun y => hh y.1.2
      rw [rm_T_f hf] at H
      exact H
    · have hf : ¬ ((0 < rm_n P i ∧ rm_hi (rm_n P) t i) ∧ rm_T (rm_n P) (rm_n B) t i < rm_n B i) := fun y => by
        have := y.1.1
        omega
      rw [rm_T_f hf] at H
      exact H
theorem rm_T_m8 (hA : rm_A m P Q U D C B M) (hm : m ≤ 8) (t : Nat) : rm_T (rm_n P) (rm_n B) t m = rm_T (rm_n P) (rm_n B) t 8 := by
  have := rm_T_end (p := rm_n P) (b := rm_n B) (i := t) (fun j hj => rm_A_ge hA hj) (8 - m)
  rw [rm_to8 hm] at this
  exact this.symm
theorem rm_S_m8 (hA : rm_A m P Q U D C B M) (hm : m ≤ 8) (t r : Nat) : rm_S (rm_n P) (rm_n C) t r m = rm_S (rm_n P) (rm_n C) t r 8 := by
  have := rm_S_end (p := rm_n P) (c := rm_n C) (i := t) (r := r) (fun j hj => rm_A_ge hA hj) (8 - m)
  rw [rm_to8 hm] at this
  exact this.symm
theorem rm_xT (hA : rm_A m P Q U D C B M) (hm : m ≤ 8) {post : Int32 → Prop} {t : Nat} (ht : t < 8) (hp : post (nI (rm_T (rm_n P) (rm_n B) t 8))) : wpX_blockTerm post ((nI m), (nI lc), fn, fs, ti, ru, un, ic, pr, P, D, C, B, O, M, bo, bt, rl, en, ov, mi, wo, la, re, rt, mk, lg) (nI t) := by
  rw [← rm_T_m8 hA hm t] at hp
  exact ⟨m + 1, rm_xT4 hA hm ht hp m 0 (m + 1) (by omega) (by omega)⟩
theorem rm_xS5 (hA : rm_A m P Q U D C B M) (hm : m ≤ 8) {post : Int32 → Prop} {t r : Nat} (ht : t < 8) (hr : r ≤ 255) (hp : post (nI (rm_S (rm_n P) (rm_n C) t r m))) : ∀ e i n, i + e = m → e < n → wX_interference_5 post (nI t) (nI r) (nI m) (nI lc) fn fs ti ru un ic pr P D C B O M bo bt rl en ov mi wo la re rt mk lg n (nI (rm_S (rm_n P) (rm_n C) t r i)) (nI i) := by
  intro e
  induction e with
  | zero =>
    intro i n h1 h2
    obtain ⟨n, rfl⟩ : ∃ k, n = k + 1 := ⟨n - 1, by omega⟩
    have e1 : i = m := by omega
    subst e1
    rw [wX_interference_5]
    exact br_t (nI_le (Nat.le_refl _) (by omega)) hp
  | succ e ih =>
    intro i n h1 h2
    obtain ⟨n, rfl⟩ : ∃ k, n = k + 1 := ⟨n - 1, by omega⟩
    have H := ih (i + 1) n (by omega) (by omega)
    have ci : (nI i).toNatClampNeg = i := nI_clamp (by omega)
    have ii : vp_in (nI i) 8 := vp_in_nI (by omega) (by omega)
    have hP := rm_n255 hA.2.1 i
    have cP : P (nI i).toNatClampNeg = nI (rm_n P i) := by
      rw [ci]
      exact rm_A_P hA i
    have cC : C (nI i).toNatClampNeg = nI (rm_n C i) := by
      rw [ci]
      exact rm_nI hA.2.2.2.1 i
    rw [wX_interference_5]
    refine br_f (nI_ge (by omega) (by omega)) (rm_xu hA hm (by omega) (fun hu => br_f (by decide) (rm_xh hA (by omega) ht (fun hh => br_f (by decide) ⟨ii, ii, ?_, nm_r (e' := nI ((r + rm_n P i - 1) / rm_n P i)) ?_ ⟨ii, nm_r (e' := nI (rm_S (rm_n P) (rm_n C) t r i + (r + rm_n P i - 1) / rm_n P i * rm_n C i)) ?_ (nm_r (nI_1 i) ?_)⟩⟩) (fun hh => br_t rfl (nm_r (nI_1 i) ?_)))) (fun hu => br_t rfl (nm_r (nI_1 i) ?_)))
    · rw [cP]
      exact nI_ne0 hu (by omega)
    · rw [cP]
      exact rm_quo hr hu hP
    · rw [cC, pk_mul, nI_add]
    · rw [rm_S_t ⟨hu, hh⟩] at H
      exact H
    · have hf : ¬ (0 < rm_n P i ∧ rm_hi (rm_n P) i t) := fun y => hh y.2
      rw [rm_S_f hf] at H
      exact H
    · have hf : ¬ (0 < rm_n P i ∧ rm_hi (rm_n P) i t) := fun y => by
        have := y.1
        omega
      rw [rm_S_f hf] at H
      exact H
theorem rm_xS (hA : rm_A m P Q U D C B M) (hm : m ≤ 8) {post : Int32 → Prop} {t r : Nat} (ht : t < 8) (hr : r ≤ 255) (hp : post (nI (rm_S (rm_n P) (rm_n C) t r 8))) : wpX_interference post ((nI m), (nI lc), fn, fs, ti, ru, un, ic, pr, P, D, C, B, O, M, bo, bt, rl, en, ov, mi, wo, la, re, rt, mk, lg) (nI t) (nI r) := by
  rw [← rm_S_m8 hA hm t r] at hp
  exact ⟨m + 1, rm_xS5 hA hm ht hr hp m 0 (m + 1) (by omega) (by omega)⟩
theorem rm_xL10 (hA : rm_A m P Q U D C B M) (hm : m ≤ 8) {post : Int32 → Prop} {t d : Nat} (ht : t < 8) (hd : d ≤ 255) : ∀ e r n, r + e = d + 1 → 1 ≤ r → e < n → post (nI (rm_lb (rm_F (rm_n P) (rm_n C) (rm_n B) t) e r)) → wX_leastBound_10 post (nI t) (nI (rm_T (rm_n P) (rm_n B) t 8)) (nI d) (nI m) (nI lc) fn fs ti ru un ic pr P D C B O M bo bt rl en ov mi wo la re rt mk lg n (nI r) := by
  intro e
  induction e with
  | zero =>
    intro r n h1 h2 h3 hp
    obtain ⟨n, rfl⟩ : ∃ k, n = k + 1 := ⟨n - 1, by omega⟩
    rw [rm_lb, nI_0] at hp
    rw [wX_leastBound_10]
    exact br_t (nI_lt (by omega) (by omega)) hp
  | succ e ih =>
    intro r n h1 h2 h3 hp
    obtain ⟨n, rfl⟩ : ∃ k, n = k + 1 := ⟨n - 1, by omega⟩
    have ct : (nI t).toNatClampNeg = t := nI_clamp (by omega)
    have it : vp_in (nI t) 8 := vp_in_nI ht (by omega)
    have hF := rm_F_big (fun j => rm_n255 hA.2.1 j) (fun j => rm_n255 hA.2.2.2.1 j) (fun j => rm_n255 hA.2.2.2.2 j) t (r := r) (by omega)
    rw [wX_leastBound_10]
    refine br_f (nI_nlt (by omega) (by omega)) ⟨it, rm_xS hA hm ht (by omega) (nm_r (e' := nI (rm_F (rm_n P) (rm_n C) (rm_n B) t r)) ?_ (ek_if (nI_eq (by omega) (by omega)) (fun z => ?_) (fun z => nm_r (nI_1 r) (ih (r + 1) n (by omega) (by omega) (by omega) ?_))))⟩
    · rw [ct, rm_nI hA.2.2.2.1 t, nI_add, nI_add]
      rfl
    · rw [rm_lb_y z] at hp
      exact hp
    · rw [rm_lb_n z] at hp
      exact hp
theorem rm_xL (hA : rm_A m P Q U D C B M) (hm : m ≤ 8) {post : Int32 → Prop} {t : Nat} (ht : t < 8) (hp : post (nI (rm_L (rm_n P) (rm_n D) (rm_n C) (rm_n B) t))) : wpX_leastBound post ((nI m), (nI lc), fn, fs, ti, ru, un, ic, pr, P, D, C, B, O, M, bo, bt, rl, en, ov, mi, wo, la, re, rt, mk, lg) (nI t) (nI (rm_T (rm_n P) (rm_n B) t 8)) := by
  have ct : (nI t).toNatClampNeg = t := nI_clamp (by omega)
  have hd := rm_n255 hA.2.2.1 t
  have it : vp_in (nI t) 8 := vp_in_nI ht (by omega)
  exact ⟨it, nm_r (e' := nI (rm_n D t)) (by rw [ct]; exact rm_nI hA.2.2.1 t) ⟨_, rm_xL10 hA hm ht hd (rm_n D t) 1 (rm_n D t + 1) (by omega) (by omega) (by omega) hp⟩⟩
theorem rm_xE2 (hA : rm_A m P Q U D C B M) (hm : m ≤ 8) {post : Int32 → Prop} : ∀ e i n, i + e = m → e < n → ((∀ j, i ≤ j → j < m → 0 < rm_n P j → rm_L (rm_n P) (rm_n D) (rm_n C) (rm_n B) j ≠ 0) → post 1) → ((∃ j, i ≤ j ∧ j < m ∧ 0 < rm_n P j ∧ rm_L (rm_n P) (rm_n D) (rm_n C) (rm_n B) j = 0) → post 0) → wX_everyTaskHasBound_2 post (nI m) (nI lc) fn fs ti ru un ic pr P D C B O M bo bt rl en ov mi wo la re rt mk lg n (nI i) := by
  intro e
  induction e with
  | zero =>
    intro i n h1 h2 k1 k0
    obtain ⟨n, rfl⟩ : ∃ k, n = k + 1 := ⟨n - 1, by omega⟩
    rw [wX_everyTaskHasBound_2]
    exact br_t (nI_le (by omega) (by omega)) (k1 (fun j hj hj2 => by omega))
  | succ e ih =>
    intro i n h1 h2 k1 k0
    obtain ⟨n, rfl⟩ : ∃ k, n = k + 1 := ⟨n - 1, by omega⟩
    have hL : rm_L (rm_n P) (rm_n D) (rm_n C) (rm_n B) i ≤ 256 := rm_L_le (rm_n255 hA.2.2.1 i)
    have hz : nI (rm_L (rm_n P) (rm_n D) (rm_n C) (rm_n B) i) = 0 ↔ rm_L (rm_n P) (rm_n D) (rm_n C) (rm_n B) i = 0 := by
      rw [← nI_0]
      exact nI_eq (by omega) (by omega)
    have H := ih (i + 1) n (by omega) (by omega)
    rw [wX_everyTaskHasBound_2]
    refine br_f (nI_ge (by omega) (by omega)) (rm_xu hA hm (by omega) (fun hu => br_f (by decide) (rm_xT hA hm (by omega) (rm_xL hA hm (by omega) (ek_if hz (fun z => k0 ⟨i, Nat.le_refl _, by omega, hu, z⟩) (fun z => nm_r (nI_1 i) (H (fun q => k1 (fun j hj hj2 hj3 => ?_)) (fun q => k0 ?_))))))) (fun hu => br_t rfl (nm_r (nI_1 i) (H (fun q => k1 (fun j hj hj2 hj3 => ?_)) (fun q => k0 ?_)))))
    · by_cases ej : j = i
      · subst ej
        exact z
      · exact q j (by omega) hj2 hj3
    · obtain ⟨j, hj, hj2, hj3⟩ := q
      exact ⟨j, by omega, hj2, hj3⟩
    · by_cases ej : j = i
      · subst ej
        omega
      · exact q j (by omega) hj2 hj3
    · obtain ⟨j, hj, hj2, hj3⟩ := q
      exact ⟨j, by omega, hj2, hj3⟩
theorem rm_xE (hA : rm_A m P Q U D C B M) (hm : m ≤ 8) {post : Int32 → Prop} (k1 : (∀ j, 0 < rm_n P j → rm_L (rm_n P) (rm_n D) (rm_n C) (rm_n B) j ≠ 0) → post 1) (k0 : (∃ j, j < m ∧ 0 < rm_n P j ∧ rm_L (rm_n P) (rm_n D) (rm_n C) (rm_n B) j = 0) → post 0) : wpX_everyTaskHasBound post ((nI m), (nI lc), fn, fs, ti, ru, un, ic, pr, P, D, C, B, O, M, bo, bt, rl, en, ov, mi, wo, la, re, rt, mk, lg) :=
  ⟨m + 1, rm_xE2 hA hm m 0 (m + 1) (by omega) (by omega) (fun q => k1 (fun j hj => q j (Nat.zero_le _) (rm_A_used hA hj).2.2.1 hj)) (fun ⟨j, _, h⟩ => k0 ⟨j, h⟩)⟩
end
