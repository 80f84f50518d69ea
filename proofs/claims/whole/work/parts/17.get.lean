/-! getTask, field by field -/
section
variable {m lc : Nat} {fn fs ti ru un fj ic pr : Int32} {P Q U D C B O M bo bt rl en ov mi wo la re rt mk lg : Nat → Int32}
theorem rm_gx0 {post : Int32 → Prop} {j : Nat} (hm : m ≤ 8) (hj : j < m) (hP : 0 < P j) (h : post (P j)) : wpX_getTask post ((nI m), (nI lc), fn, fs, ti, ru, un, ic, pr, P, D, C, B, O, M, bo, bt, rl, en, ov, mi, wo, la, re, rt, mk, lg) (nI j) (nI 0) := by
  have cj : (nI j).toNatClampNeg = j := nI_clamp (by omega)
  have ij : vp_in (nI j) 8 := vp_in_nI (by omega) (by omega)
  unfold wpX_getTask
  dsimp only
  exact rm_xu_t hm hj hP (br_f (by decide) (br_f (by decide) (br_f (by decide) (br_t rfl ⟨ij, by rw [cj]; exact h⟩))))
theorem rm_gy0 (hA : rm_A m P Q U D C B M) {post : Int32 → Prop} {j : Nat} (hm : m ≤ 8) (hj : j < m) (hu : 0 < rm_n P j) (h : post (Q j)) : wpY_getTask post ((nI m), (nI lc), fs, ti, ru, fj, ic, pr, fn, U, Q, D, C, B, O, M, rl, en, ov, mi, wo, la, re, rt, mk, lg) (nI j) (nI 0) := by
  have cj : (nI j).toNatClampNeg = j := nI_clamp (by omega)
  have ij : vp_in (nI j) 8 := vp_in_nI (by omega) (by omega)
  have hU : ¬ U (nI j).toNatClampNeg = 0 := by
    rw [cj, (rm_A_used hA hu).1]
    decide
  unfold wpY_getTask
  dsimp only
  exact br_f (nI_pos (by omega)) (br_f (nI_ge hj (by omega)) ⟨ij, br_f hU (br_f (by decide) (br_t (by decide) (br_f (by decide) (br_f (by decide) (br_t rfl ⟨ij, by rw [cj]; exact h⟩)))))⟩)
theorem rm_gx1 {post : Int32 → Prop} {j : Nat} (hm : m ≤ 8) (hj : j < m) (hP : 0 < P j) (h : post (D j)) : wpX_getTask post ((nI m), (nI lc), fn, fs, ti, ru, un, ic, pr, P, D, C, B, O, M, bo, bt, rl, en, ov, mi, wo, la, re, rt, mk, lg) (nI j) (nI 1) := by
  have cj : (nI j).toNatClampNeg = j := nI_clamp (by omega)
  have ij : vp_in (nI j) 8 := vp_in_nI (by omega) (by omega)
  unfold wpX_getTask
  dsimp only
  exact rm_xu_t hm hj hP (br_f (by decide) (br_f (by decide) (br_f (by decide) (br_f (by decide) (br_t rfl ⟨ij, by rw [cj]; exact h⟩)))))
theorem rm_gy1 (hA : rm_A m P Q U D C B M) {post : Int32 → Prop} {j : Nat} (hm : m ≤ 8) (hj : j < m) (hu : 0 < rm_n P j) (h : post (D j)) : wpY_getTask post ((nI m), (nI lc), fs, ti, ru, fj, ic, pr, fn, U, Q, D, C, B, O, M, rl, en, ov, mi, wo, la, re, rt, mk, lg) (nI j) (nI 1) := by
  have cj : (nI j).toNatClampNeg = j := nI_clamp (by omega)
  have ij : vp_in (nI j) 8 := vp_in_nI (by omega) (by omega)
  have hU : ¬ U (nI j).toNatClampNeg = 0 := by
    rw [cj, (rm_A_used hA hu).1]
    decide
  unfold wpY_getTask
  dsimp only
  exact br_f (nI_pos (by omega)) (br_f (nI_ge hj (by omega)) ⟨ij, br_f hU (br_f (by decide) (br_t (by decide) (br_f (by decide) (br_f (by decide) (br_f (by decide) (br_t rfl ⟨ij, by rw [cj]; exact h⟩))))))⟩)
theorem rm_gx2 {post : Int32 → Prop} {j : Nat} (hm : m ≤ 8) (hj : j < m) (hP : 0 < P j) (h : post (C j)) : wpX_getTask post ((nI m), (nI lc), fn, fs, ti, ru, un, ic, pr, P, D, C, B, O, M, bo, bt, rl, en, ov, mi, wo, la, re, rt, mk, lg) (nI j) (nI 2) := by
  have cj : (nI j).toNatClampNeg = j := nI_clamp (by omega)
  have ij : vp_in (nI j) 8 := vp_in_nI (by omega) (by omega)
  unfold wpX_getTask
  dsimp only
  exact rm_xu_t hm hj hP (br_f (by decide) (br_f (by decide) (br_f (by decide) (br_f (by decide) (br_f (by decide) (br_t rfl ⟨ij, by rw [cj]; exact h⟩))))))
theorem rm_gy2 (hA : rm_A m P Q U D C B M) {post : Int32 → Prop} {j : Nat} (hm : m ≤ 8) (hj : j < m) (hu : 0 < rm_n P j) (h : post (C j)) : wpY_getTask post ((nI m), (nI lc), fs, ti, ru, fj, ic, pr, fn, U, Q, D, C, B, O, M, rl, en, ov, mi, wo, la, re, rt, mk, lg) (nI j) (nI 2) := by
  have cj : (nI j).toNatClampNeg = j := nI_clamp (by omega)
  have ij : vp_in (nI j) 8 := vp_in_nI (by omega) (by omega)
  have hU : ¬ U (nI j).toNatClampNeg = 0 := by
    rw [cj, (rm_A_used hA hu).1]
    decide
  unfold wpY_getTask
  dsimp only
  exact br_f (nI_pos (by omega)) (br_f (nI_ge hj (by omega)) ⟨ij, br_f hU (br_f (by decide) (br_t (by decide) (br_f (by decide) (br_f (by decide) (br_f (by decide) (br_f (by decide) (br_t rfl ⟨ij, by rw [cj]; exact h⟩)))))))⟩)
theorem rm_gx3 {post : Int32 → Prop} {j : Nat} (hm : m ≤ 8) (hj : j < m) (hP : 0 < P j) (h : post (B j)) : wpX_getTask post ((nI m), (nI lc), fn, fs, ti, ru, un, ic, pr, P, D, C, B, O, M, bo, bt, rl, en, ov, mi, wo, la, re, rt, mk, lg) (nI j) (nI 3) := by
  have cj : (nI j).toNatClampNeg = j := nI_clamp (by omega)
  have ij : vp_in (nI j) 8 := vp_in_nI (by omega) (by omega)
  unfold wpX_getTask
  dsimp only
  exact rm_xu_t hm hj hP (br_f (by decide) (br_f (by decide) (br_f (by decide) (br_f (by decide) (br_f (by decide) (br_f (by decide) (br_t rfl ⟨ij, by rw [cj]; exact h⟩)))))))
theorem rm_gy3 (hA : rm_A m P Q U D C B M) {post : Int32 → Prop} {j : Nat} (hm : m ≤ 8) (hj : j < m) (hu : 0 < rm_n P j) (h : post (B j)) : wpY_getTask post ((nI m), (nI lc), fs, ti, ru, fj, ic, pr, fn, U, Q, D, C, B, O, M, rl, en, ov, mi, wo, la, re, rt, mk, lg) (nI j) (nI 3) := by
  have cj : (nI j).toNatClampNeg = j := nI_clamp (by omega)
  have ij : vp_in (nI j) 8 := vp_in_nI (by omega) (by omega)
  have hU : ¬ U (nI j).toNatClampNeg = 0 := by
    rw [cj, (rm_A_used hA hu).1]
    decide
  unfold wpY_getTask
  dsimp only
  exact br_f (nI_pos (by omega)) (br_f (nI_ge hj (by omega)) ⟨ij, br_f hU (br_f (by decide) (br_t (by decide) (br_f (by decide) (br_f (by decide) (br_f (by decide) (br_f (by decide) (br_f (by decide) (br_t rfl ⟨ij, by rw [cj]; exact h⟩))))))))⟩)
theorem rm_gx4 {post : Int32 → Prop} {j : Nat} (hm : m ≤ 8) (hj : j < m) (hP : 0 < P j) (h : post (O j)) : wpX_getTask post ((nI m), (nI lc), fn, fs, ti, ru, un, ic, pr, P, D, C, B, O, M, bo, bt, rl, en, ov, mi, wo, la, re, rt, mk, lg) (nI j) (nI 4) := by
  have cj : (nI j).toNatClampNeg = j := nI_clamp (by omega)
  have ij : vp_in (nI j) 8 := vp_in_nI (by omega) (by omega)
  unfold wpX_getTask
  dsimp only
  exact rm_xu_t hm hj hP (br_f (by decide) (br_f (by decide) (br_f (by decide) (br_f (by decide) (br_f (by decide) (br_f (by decide) (br_f (by decide) (br_t rfl ⟨ij, by rw [cj]; exact h⟩))))))))
theorem rm_gy4 (hA : rm_A m P Q U D C B M) {post : Int32 → Prop} {j : Nat} (hm : m ≤ 8) (hj : j < m) (hu : 0 < rm_n P j) (h : post (O j)) : wpY_getTask post ((nI m), (nI lc), fs, ti, ru, fj, ic, pr, fn, U, Q, D, C, B, O, M, rl, en, ov, mi, wo, la, re, rt, mk, lg) (nI j) (nI 4) := by
  have cj : (nI j).toNatClampNeg = j := nI_clamp (by omega)
  have ij : vp_in (nI j) 8 := vp_in_nI (by omega) (by omega)
  have hU : ¬ U (nI j).toNatClampNeg = 0 := by
    rw [cj, (rm_A_used hA hu).1]
    decide
  unfold wpY_getTask
  dsimp only
  exact br_f (nI_pos (by omega)) (br_f (nI_ge hj (by omega)) ⟨ij, br_f hU (br_f (by decide) (br_t (by decide) (br_f (by decide) (br_f (by decide) (br_f (by decide) (br_f (by decide) (br_f (by decide) (br_f (by decide) (br_t rfl ⟨ij, by rw [cj]; exact h⟩)))))))))⟩)
theorem rm_gx5 {post : Int32 → Prop} {j : Nat} (hm : m ≤ 8) (hj : j < m) (hP : 0 < P j) (h : post (M j)) : wpX_getTask post ((nI m), (nI lc), fn, fs, ti, ru, un, ic, pr, P, D, C, B, O, M, bo, bt, rl, en, ov, mi, wo, la, re, rt, mk, lg) (nI j) (nI 5) := by
  have cj : (nI j).toNatClampNeg = j := nI_clamp (by omega)
  have ij : vp_in (nI j) 8 := vp_in_nI (by omega) (by omega)
  unfold wpX_getTask
  dsimp only
  exact rm_xu_t hm hj hP (br_f (by decide) (br_f (by decide) (br_f (by decide) (br_f (by decide) (br_f (by decide) (br_f (by decide) (br_f (by decide) (br_f (by decide) (br_t rfl ⟨ij, by rw [cj]; exact h⟩)))))))))
theorem rm_gy5 (hA : rm_A m P Q U D C B M) {post : Int32 → Prop} {j : Nat} (hm : m ≤ 8) (hj : j < m) (hu : 0 < rm_n P j) (h : post (M j)) : wpY_getTask post ((nI m), (nI lc), fs, ti, ru, fj, ic, pr, fn, U, Q, D, C, B, O, M, rl, en, ov, mi, wo, la, re, rt, mk, lg) (nI j) (nI 5) := by
  have cj : (nI j).toNatClampNeg = j := nI_clamp (by omega)
  have ij : vp_in (nI j) 8 := vp_in_nI (by omega) (by omega)
  have hU : ¬ U (nI j).toNatClampNeg = 0 := by
    rw [cj, (rm_A_used hA hu).1]
    decide
  unfold wpY_getTask
  dsimp only
  exact br_f (nI_pos (by omega)) (br_f (nI_ge hj (by omega)) ⟨ij, br_f hU (br_f (by decide) (br_t (by decide) (br_f (by decide) (br_f (by decide) (br_f (by decide) (br_f (by decide) (br_f (by decide) (br_f (by decide) (br_f (by decide) (br_t rfl ⟨ij, by rw [cj]; exact h⟩))))))))))⟩)
theorem rm_gx6 {post : Int32 → Prop} {j : Nat} (hm : m ≤ 8) (hj : j < m) (hP : 0 < P j) (h : post (bo j)) : wpX_getTask post ((nI m), (nI lc), fn, fs, ti, ru, un, ic, pr, P, D, C, B, O, M, bo, bt, rl, en, ov, mi, wo, la, re, rt, mk, lg) (nI j) (nI 6) := by
  have cj : (nI j).toNatClampNeg = j := nI_clamp (by omega)
  have ij : vp_in (nI j) 8 := vp_in_nI (by omega) (by omega)
  unfold wpX_getTask
  dsimp only
  exact rm_xu_t hm hj hP (br_f (by decide) (br_f (by decide) (br_f (by decide) (br_f (by decide) (br_f (by decide) (br_f (by decide) (br_f (by decide) (br_f (by decide) (br_f (by decide) (br_t rfl ⟨ij, by rw [cj]; exact h⟩))))))))))
theorem rm_gy6 (hA : rm_A m P Q U D C B M) {post : Int32 → Prop} {j : Nat} (hm : m ≤ 8) (hj : j < m) (hu : 0 < rm_n P j) (h : post (rm_yl (rm_L (rm_n P) (rm_n D) (rm_n C) (rm_n B) j))) : wpY_getTask post ((nI m), (nI lc), fs, ti, ru, fj, ic, pr, fn, U, Q, D, C, B, O, M, rl, en, ov, mi, wo, la, re, rt, mk, lg) (nI j) (nI 6) := by
  have cj : (nI j).toNatClampNeg = j := nI_clamp (by omega)
  have ij : vp_in (nI j) 8 := vp_in_nI (by omega) (by omega)
  have hU : ¬ U (nI j).toNatClampNeg = 0 := by
    rw [cj, (rm_A_used hA hu).1]
    decide
  unfold wpY_getTask
  dsimp only
  exact br_f (nI_pos (by omega)) (br_f (nI_ge hj (by omega)) ⟨ij, br_f hU (br_f (by decide) (br_t (by decide) (br_f (by decide) (br_f (by decide) (br_f (by decide) (br_f (by decide) (br_f (by decide) (br_f (by decide) (br_f (by decide) (br_f (by decide) (br_t rfl (rm_yB hA (by omega) hu h))))))))))))⟩)
theorem rm_gx7 {post : Int32 → Prop} {j : Nat} (hm : m ≤ 8) (hj : j < m) (hP : 0 < P j) (h : post (bt j)) : wpX_getTask post ((nI m), (nI lc), fn, fs, ti, ru, un, ic, pr, P, D, C, B, O, M, bo, bt, rl, en, ov, mi, wo, la, re, rt, mk, lg) (nI j) (nI 7) := by
  have cj : (nI j).toNatClampNeg = j := nI_clamp (by omega)
  have ij : vp_in (nI j) 8 := vp_in_nI (by omega) (by omega)
  unfold wpX_getTask
  dsimp only
  exact rm_xu_t hm hj hP (br_f (by decide) (br_f (by decide) (br_f (by decide) (br_f (by decide) (br_f (by decide) (br_f (by decide) (br_f (by decide) (br_f (by decide) (br_f (by decide) (br_f (by decide) (br_t rfl ⟨ij, by rw [cj]; exact h⟩)))))))))))
theorem rm_gy7 (hA : rm_A m P Q U D C B M) {post : Int32 → Prop} {j : Nat} (hm : m ≤ 8) (hj : j < m) (hu : 0 < rm_n P j) (h : post (nI (rm_T (rm_n P) (rm_n B) j 8))) : wpY_getTask post ((nI m), (nI lc), fs, ti, ru, fj, ic, pr, fn, U, Q, D, C, B, O, M, rl, en, ov, mi, wo, la, re, rt, mk, lg) (nI j) (nI 7) := by
  have cj : (nI j).toNatClampNeg = j := nI_clamp (by omega)
  have ij : vp_in (nI j) 8 := vp_in_nI (by omega) (by omega)
  have hU : ¬ U (nI j).toNatClampNeg = 0 := by
    rw [cj, (rm_A_used hA hu).1]
    decide
  unfold wpY_getTask
  dsimp only
  exact br_f (nI_pos (by omega)) (br_f (nI_ge hj (by omega)) ⟨ij, br_f hU (br_f (by decide) (br_t (by decide) (br_f (by decide) (br_f (by decide) (br_f (by decide) (br_f (by decide) (br_f (by decide) (br_f (by decide) (br_f (by decide) (br_f (by decide) (br_f (by decide) (br_t rfl (rm_yT hA (by omega) hu h)))))))))))))⟩)
theorem rm_gx8 {post : Int32 → Prop} {j : Nat} (hm : m ≤ 8) (hj : j < m) (hP : 0 < P j) (h : post (rl j)) : wpX_getTask post ((nI m), (nI lc), fn, fs, ti, ru, un, ic, pr, P, D, C, B, O, M, bo, bt, rl, en, ov, mi, wo, la, re, rt, mk, lg) (nI j) (nI 8) := by
  have cj : (nI j).toNatClampNeg = j := nI_clamp (by omega)
  have ij : vp_in (nI j) 8 := vp_in_nI (by omega) (by omega)
  unfold wpX_getTask
  dsimp only
  exact rm_xu_t hm hj hP (br_f (by decide) (br_f (by decide) (br_f (by decide) (br_f (by decide) (br_f (by decide) (br_f (by decide) (br_f (by decide) (br_f (by decide) (br_f (by decide) (br_f (by decide) (br_f (by decide) (br_t rfl ⟨ij, by rw [cj]; exact h⟩))))))))))))
theorem rm_gy8 (hA : rm_A m P Q U D C B M) {post : Int32 → Prop} {j : Nat} (hm : m ≤ 8) (hj : j < m) (hu : 0 < rm_n P j) (h : post (rl j)) : wpY_getTask post ((nI m), (nI lc), fs, ti, ru, fj, ic, pr, fn, U, Q, D, C, B, O, M, rl, en, ov, mi, wo, la, re, rt, mk, lg) (nI j) (nI 8) := by
  have cj : (nI j).toNatClampNeg = j := nI_clamp (by omega)
  have ij : vp_in (nI j) 8 := vp_in_nI (by omega) (by omega)
  have hU : ¬ U (nI j).toNatClampNeg = 0 := by
    rw [cj, (rm_A_used hA hu).1]
    decide
  unfold wpY_getTask
  dsimp only
  exact br_f (nI_pos (by omega)) (br_f (nI_ge hj (by omega)) ⟨ij, br_f hU (br_f (by decide) (br_t (by decide) (br_f (by decide) (br_f (by decide) (br_f (by decide) (br_f (by decide) (br_f (by decide) (br_f (by decide) (br_f (by decide) (br_f (by decide) (br_f (by decide) (br_f (by decide) (br_t rfl ⟨ij, by rw [cj]; exact h⟩)))))))))))))⟩)
theorem rm_gx9 {post : Int32 → Prop} {j : Nat} (hm : m ≤ 8) (hj : j < m) (hP : 0 < P j) (h : post (en j)) : wpX_getTask post ((nI m), (nI lc), fn, fs, ti, ru, un, ic, pr, P, D, C, B, O, M, bo, bt, rl, en, ov, mi, wo, la, re, rt, mk, lg) (nI j) (nI 9) := by
  have cj : (nI j).toNatClampNeg = j := nI_clamp (by omega)
  have ij : vp_in (nI j) 8 := vp_in_nI (by omega) (by omega)
  unfold wpX_getTask
  dsimp only
  exact rm_xu_t hm hj hP (br_f (by decide) (br_f (by decide) (br_f (by decide) (br_f (by decide) (br_f (by decide) (br_f (by decide) (br_f (by decide) (br_f (by decide) (br_f (by decide) (br_f (by decide) (br_f (by decide) (br_f (by decide) (br_t rfl ⟨ij, by rw [cj]; exact h⟩)))))))))))))
theorem rm_gy9 (hA : rm_A m P Q U D C B M) {post : Int32 → Prop} {j : Nat} (hm : m ≤ 8) (hj : j < m) (hu : 0 < rm_n P j) (h : post (en j)) : wpY_getTask post ((nI m), (nI lc), fs, ti, ru, fj, ic, pr, fn, U, Q, D, C, B, O, M, rl, en, ov, mi, wo, la, re, rt, mk, lg) (nI j) (nI 9) := by
  have cj : (nI j).toNatClampNeg = j := nI_clamp (by omega)
  have ij : vp_in (nI j) 8 := vp_in_nI (by omega) (by omega)
  have hU : ¬ U (nI j).toNatClampNeg = 0 := by
    rw [cj, (rm_A_used hA hu).1]
    decide
  unfold wpY_getTask
  dsimp only
  exact br_f (nI_pos (by omega)) (br_f (nI_ge hj (by omega)) ⟨ij, br_f hU (br_f (by decide) (br_t (by decide) (br_f (by decide) (br_f (by decide) (br_f (by decide) (br_f (by decide) (br_f (by decide) (br_f (by decide) (br_f (by decide) (br_f (by decide) (br_f (by decide) (br_f (by decide) (br_f (by decide) (br_t rfl ⟨ij, by rw [cj]; exact h⟩))))))))))))))⟩)
theorem rm_gx10 {post : Int32 → Prop} {j : Nat} (hm : m ≤ 8) (hj : j < m) (hP : 0 < P j) (h : post (ov j)) : wpX_getTask post ((nI m), (nI lc), fn, fs, ti, ru, un, ic, pr, P, D, C, B, O, M, bo, bt, rl, en, ov, mi, wo, la, re, rt, mk, lg) (nI j) (nI 10) := by
  have cj : (nI j).toNatClampNeg = j := nI_clamp (by omega)
  have ij : vp_in (nI j) 8 := vp_in_nI (by omega) (by omega)
  unfold wpX_getTask
  dsimp only
  exact rm_xu_t hm hj hP (br_f (by decide) (br_f (by decide) (br_f (by decide) (br_f (by decide) (br_f (by decide) (br_f (by decide) (br_f (by decide) (br_f (by decide) (br_f (by decide) (br_f (by decide) (br_f (by decide) (br_f (by decide) (br_f (by decide) (br_t rfl ⟨ij, by rw [cj]; exact h⟩))))))))))))))
theorem rm_gy10 (hA : rm_A m P Q U D C B M) {post : Int32 → Prop} {j : Nat} (hm : m ≤ 8) (hj : j < m) (hu : 0 < rm_n P j) (h : post (ov j)) : wpY_getTask post ((nI m), (nI lc), fs, ti, ru, fj, ic, pr, fn, U, Q, D, C, B, O, M, rl, en, ov, mi, wo, la, re, rt, mk, lg) (nI j) (nI 10) := by
  have cj : (nI j).toNatClampNeg = j := nI_clamp (by omega)
  have ij : vp_in (nI j) 8 := vp_in_nI (by omega) (by omega)
  have hU : ¬ U (nI j).toNatClampNeg = 0 := by
    rw [cj, (rm_A_used hA hu).1]
    decide
  unfold wpY_getTask
  dsimp only
  exact br_f (nI_pos (by omega)) (br_f (nI_ge hj (by omega)) ⟨ij, br_f hU (br_f (by decide) (br_t (by decide) (br_f (by decide) (br_f (by decide) (br_f (by decide) (br_f (by decide) (br_f (by decide) (br_f (by decide) (br_f (by decide) (br_f (by decide) (br_f (by decide) (br_f (by decide) (br_f (by decide) (br_f (by decide) (br_t rfl ⟨ij, by rw [cj]; exact h⟩)))))))))))))))⟩)
theorem rm_gx11 {post : Int32 → Prop} {j : Nat} (hm : m ≤ 8) (hj : j < m) (hP : 0 < P j) (h : post (mi j)) : wpX_getTask post ((nI m), (nI lc), fn, fs, ti, ru, un, ic, pr, P, D, C, B, O, M, bo, bt, rl, en, ov, mi, wo, la, re, rt, mk, lg) (nI j) (nI 11) := by
  have cj : (nI j).toNatClampNeg = j := nI_clamp (by omega)
  have ij : vp_in (nI j) 8 := vp_in_nI (by omega) (by omega)
  unfold wpX_getTask
  dsimp only
  exact rm_xu_t hm hj hP (br_f (by decide) (br_f (by decide) (br_f (by decide) (br_f (by decide) (br_f (by decide) (br_f (by decide) (br_f (by decide) (br_f (by decide) (br_f (by decide) (br_f (by decide) (br_f (by decide) (br_f (by decide) (br_f (by decide) (br_f (by decide) (br_t rfl ⟨ij, by rw [cj]; exact h⟩)))))))))))))))
theorem rm_gy11 (hA : rm_A m P Q U D C B M) {post : Int32 → Prop} {j : Nat} (hm : m ≤ 8) (hj : j < m) (hu : 0 < rm_n P j) (h : post (mi j)) : wpY_getTask post ((nI m), (nI lc), fs, ti, ru, fj, ic, pr, fn, U, Q, D, C, B, O, M, rl, en, ov, mi, wo, la, re, rt, mk, lg) (nI j) (nI 11) := by
  have cj : (nI j).toNatClampNeg = j := nI_clamp (by omega)
  have ij : vp_in (nI j) 8 := vp_in_nI (by omega) (by omega)
  have hU : ¬ U (nI j).toNatClampNeg = 0 := by
    rw [cj, (rm_A_used hA hu).1]
    decide
  unfold wpY_getTask
  dsimp only
  exact br_f (nI_pos (by omega)) (br_f (nI_ge hj (by omega)) ⟨ij, br_f hU (br_f (by decide) (br_t (by decide) (br_f (by decide) (br_f (by decide) (br_f (by decide) (br_f (by decide) (br_f (by decide) (br_f (by decide) (br_f (by decide) (br_f (by decide) (br_f (by decide) (br_f (by decide) (br_f (by decide) (br_f (by decide) (br_f (by decide) (br_t rfl ⟨ij, by rw [cj]; exact h⟩))))))))))))))))⟩)
theorem rm_gx12 {post : Int32 → Prop} {j : Nat} (hm : m ≤ 8) (hj : j < m) (hP : 0 < P j) (h : post (wo j)) : wpX_getTask post ((nI m), (nI lc), fn, fs, ti, ru, un, ic, pr, P, D, C, B, O, M, bo, bt, rl, en, ov, mi, wo, la, re, rt, mk, lg) (nI j) (nI 12) := by
  have cj : (nI j).toNatClampNeg = j := nI_clamp (by omega)
  have ij : vp_in (nI j) 8 := vp_in_nI (by omega) (by omega)
  unfold wpX_getTask
  dsimp only
  exact rm_xu_t hm hj hP (br_f (by decide) (br_f (by decide) (br_f (by decide) (br_f (by decide) (br_f (by decide) (br_f (by decide) (br_f (by decide) (br_f (by decide) (br_f (by decide) (br_f (by decide) (br_f (by decide) (br_f (by decide) (br_f (by decide) (br_f (by decide) (br_f (by decide) (br_t rfl ⟨ij, by rw [cj]; exact h⟩))))))))))))))))
theorem rm_gy12 (hA : rm_A m P Q U D C B M) {post : Int32 → Prop} {j : Nat} (hm : m ≤ 8) (hj : j < m) (hu : 0 < rm_n P j) (h : post (wo j)) : wpY_getTask post ((nI m), (nI lc), fs, ti, ru, fj, ic, pr, fn, U, Q, D, C, B, O, M, rl, en, ov, mi, wo, la, re, rt, mk, lg) (nI j) (nI 12) := by
  have cj : (nI j).toNatClampNeg = j := nI_clamp (by omega)
  have ij : vp_in (nI j) 8 := vp_in_nI (by omega) (by omega)
  have hU : ¬ U (nI j).toNatClampNeg = 0 := by
    rw [cj, (rm_A_used hA hu).1]
    decide
  unfold wpY_getTask
  dsimp only
  exact br_f (nI_pos (by omega)) (br_f (nI_ge hj (by omega)) ⟨ij, br_f hU (br_f (by decide) (br_t (by decide) (br_f (by decide) (br_f (by decide) (br_f (by decide) (br_f (by decide) (br_f (by decide) (br_f (by decide) (br_f (by decide) (br_f (by decide) (br_f (by decide) (br_f (by decide) (br_f (by decide) (br_f (by decide) (br_f (by decide) (br_f (by decide) (br_t rfl ⟨ij, by rw [cj]; exact h⟩)))))))))))))))))⟩)
theorem rm_gx13 {post : Int32 → Prop} {j : Nat} (hm : m ≤ 8) (hj : j < m) (hP : 0 < P j) (h : post (la j)) : wpX_getTask post ((nI m), (nI lc), fn, fs, ti, ru, un, ic, pr, P, D, C, B, O, M, bo, bt, rl, en, ov, mi, wo, la, re, rt, mk, lg) (nI j) (nI 13) := by
  have cj : (nI j).toNatClampNeg = j := nI_clamp (by omega)
  have ij : vp_in (nI j) 8 := vp_in_nI (by omega) (by omega)
  unfold wpX_getTask
  dsimp only
  exact rm_xu_t hm hj hP (br_f (by decide) (br_f (by decide) (br_f (by decide) (br_f (by decide) (br_f (by decide) (br_f (by decide) (br_f (by decide) (br_f (by decide) (br_f (by decide) (br_f (by decide) (br_f (by decide) (br_f (by decide) (br_f (by decide) (br_f (by decide) (br_f (by decide) (br_f (by decide) (br_t rfl ⟨ij, by rw [cj]; exact h⟩)))))))))))))))))
theorem rm_gy13 (hA : rm_A m P Q U D C B M) {post : Int32 → Prop} {j : Nat} (hm : m ≤ 8) (hj : j < m) (hu : 0 < rm_n P j) (h : post (la j)) : wpY_getTask post ((nI m), (nI lc), fs, ti, ru, fj, ic, pr, fn, U, Q, D, C, B, O, M, rl, en, ov, mi, wo, la, re, rt, mk, lg) (nI j) (nI 13) := by
  have cj : (nI j).toNatClampNeg = j := nI_clamp (by omega)
  have ij : vp_in (nI j) 8 := vp_in_nI (by omega) (by omega)
  have hU : ¬ U (nI j).toNatClampNeg = 0 := by
    rw [cj, (rm_A_used hA hu).1]
    decide
  unfold wpY_getTask
  dsimp only
  exact br_f (nI_pos (by omega)) (br_f (nI_ge hj (by omega)) ⟨ij, br_f hU (br_f (by decide) (br_t (by decide) (br_f (by decide) (br_f (by decide) (br_f (by decide) (br_f (by decide) (br_f (by decide) (br_f (by decide) (br_f (by decide) (br_f (by decide) (br_f (by decide) (br_f (by decide) (br_f (by decide) (br_f (by decide) (br_f (by decide) (br_f (by decide) (br_f (by decide) (br_t rfl ⟨ij, by rw [cj]; exact h⟩))))))))))))))))))⟩)
theorem rm_gx14 {post : Int32 → Prop} {j : Nat} (hm : m ≤ 8) (hj : j < m) (hP : 0 < P j) (h : post (re j)) : wpX_getTask post ((nI m), (nI lc), fn, fs, ti, ru, un, ic, pr, P, D, C, B, O, M, bo, bt, rl, en, ov, mi, wo, la, re, rt, mk, lg) (nI j) (nI 14) := by
  have cj : (nI j).toNatClampNeg = j := nI_clamp (by omega)
  have ij : vp_in (nI j) 8 := vp_in_nI (by omega) (by omega)
  unfold wpX_getTask
  dsimp only
  exact rm_xu_t hm hj hP (br_f (by decide) (br_f (by decide) (br_f (by decide) (br_f (by decide) (br_f (by decide) (br_f (by decide) (br_f (by decide) (br_f (by decide) (br_f (by decide) (br_f (by decide) (br_f (by decide) (br_f (by decide) (br_f (by decide) (br_f (by decide) (br_f (by decide) (br_f (by decide) (br_f (by decide) (br_t rfl ⟨ij, by rw [cj]; exact h⟩))))))))))))))))))
theorem rm_gy14 (hA : rm_A m P Q U D C B M) {post : Int32 → Prop} {j : Nat} (hm : m ≤ 8) (hj : j < m) (hu : 0 < rm_n P j) (h : post (re j)) : wpY_getTask post ((nI m), (nI lc), fs, ti, ru, fj, ic, pr, fn, U, Q, D, C, B, O, M, rl, en, ov, mi, wo, la, re, rt, mk, lg) (nI j) (nI 14) := by
  have cj : (nI j).toNatClampNeg = j := nI_clamp (by omega)
  have ij : vp_in (nI j) 8 := vp_in_nI (by omega) (by omega)
  have hU : ¬ U (nI j).toNatClampNeg = 0 := by
    rw [cj, (rm_A_used hA hu).1]
    decide
  unfold wpY_getTask
  dsimp only
  exact br_f (nI_pos (by omega)) (br_f (nI_ge hj (by omega)) ⟨ij, br_f hU (br_f (by decide) (br_t (by decide) (br_f (by decide) (br_t (by decide) ⟨ij, by rw [cj]; exact h⟩))))⟩)
end
