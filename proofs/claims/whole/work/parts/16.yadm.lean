/-! the reference takes a candidate -/
section
variable {m lc : Nat} {fn fs ti ru fj ic pr : Int32} {P Q U D C B O M rl en ov mi wo la re rt mk lg : Nat → Int32}
theorem rm_ya240 (hA : rm_A m P Q U D C B M) (hm : m ≤ 8) {post : Int32 → SY → Prop} {k : Nat} (hk : k < 8) : ∀ e i n (f : Int32), i + e = 8 → e < n → (f = 0 ∨ f = 1) → ((f = 1 ∧ ∀ j, i ≤ j → 0 < rm_n P j → rm_L (rm_n P) (rm_n D) (rm_n C) (rm_n B) j ≠ 0) → post (nI k) ((nI m), (nI lc), fs, ti, ru, fj, ic, pr, fn, U, Q, D, C, B, O, M, rl, en, ov, mi, wo, la, re, rt, mk, lg)) → ((f = 0 ∨ ∃ j, i ≤ j ∧ 0 < rm_n P j ∧ rm_L (rm_n P) (rm_n D) (rm_n C) (rm_n B) j = 0) → post (-4) ((nI m), (nI lc), fs, ti, ru, fj, ic, pr, fn, upd U k 0, Q, D, C, B, O, M, rl, en, ov, mi, wo, la, re, rt, mk, lg)) → wY_admit_240 post (nI k) (nI m) (nI lc) fs ti ru fj ic pr fn U Q D C B O M rl en ov mi wo la re rt mk lg n f (nI i) := by
  have ck : (nI k).toNatClampNeg = k := nI_clamp (by omega)
  have ik : vp_in (nI k) 8 := vp_in_nI hk (by omega)
  intro e
  induction e with
  | zero =>
    intro i n f h1 h2 hf k1 k0
    obtain ⟨n, rfl⟩ : ∃ j, n = j + 1 := ⟨n - 1, by omega⟩
    have e1 : i = 8 := by omega
    subst e1
    rw [wY_admit_240]
    refine br_t (nI_le (a := 8) (b := 8) (Nat.le_refl _) (by omega)) ?_
    rcases hf with rfl | rfl
    · exact br_t rfl ⟨ik, nm_r (e' := upd U k 0) (by rw [ck]; rfl) (k0 (Or.inl rfl))⟩
    · exact br_f (by decide) (k1 ⟨rfl, fun j hj hj2 => by
        have := rm_A_ge hA (j := j) (by omega)
        omega⟩)
  | succ e ih =>
    intro i n f h1 h2 hf k1 k0
    obtain ⟨n, rfl⟩ : ∃ j, n = j + 1 := ⟨n - 1, by omega⟩
    have H := ih (i + 1) n
    have ci : (nI i).toNatClampNeg = i := nI_clamp (by omega)
    have ii : vp_in (nI i) 8 := vp_in_nI (by omega) (by omega)
    have h8 : ¬ (8 : Int32) ≤ nI i := nI_ge (b := 8) (by omega) (by omega)
    have hU : U (nI i).toNatClampNeg = 0 ↔ rm_n P i = 0 := by
      rw [ci]
      exact rm_A_U0 hA i
    have hL : rm_L (rm_n P) (rm_n D) (rm_n C) (rm_n B) i ≤ 256 := rm_L_le (rm_n255 hA.2.2.1 i)
    have hl := rm_yl_0 (x := rm_L (rm_n P) (rm_n D) (rm_n C) (rm_n B) i) (by omega)
    rw [wY_admit_240]
    refine br_f h8 ⟨ii, ek_if hU (fun hu => nm_r (nI_1 i) (H f (by omega) (by omega) hf (fun q => k1 ⟨q.1, fun j hj hj2 => ?_⟩) (fun q => k0 ?_))) (fun hu => rm_yB hA (by omega) (by omega) (ek_if hl (fun z => nm_r (nI_1 i) (H f (by omega) (by omega) hf (fun q => k1 ⟨q.1, fun j hj hj2 => ?_⟩) (fun q => k0 ?_))) (fun z => nm_r (nI_1 i) (H 0 (by omega) (by omega) (Or.inl rfl) (fun q => absurd q.1 (by decide)) (fun q => k0 ?_)))))⟩
    · by_cases ej : j = i
      · subst ej
        omega
      · exact q.2 j (by omega) hj2
    · rcases q with q | ⟨j, hj, hj2⟩
      · exact Or.inl q
      · exact Or.inr ⟨j, by omega, hj2⟩
    · by_cases ej : j = i
      · subst ej
        exact z
      · exact q.2 j (by omega) hj2
    · rcases q with q | ⟨j, hj, hj2⟩
      · exact Or.inl q
      · exact Or.inr ⟨j, by omega, hj2⟩
    · exact Or.inr ⟨i, Nat.le_refl _, by omega, Decidable.of_not_not z⟩
theorem rm_ya63_k {post : Int32 → SY → Prop} {p d c b : Int32} {k n : Nat} (hk : k < 8) (hm : m ≤ 8) (h : ∃ j, wY_admit_240 post (nI k) (nI m) (nI lc) fs ti ru fj ic pr fn (upd U k 1) (upd Q k p) (upd D k d) (upd C k c) (upd B k b) (upd O k 0) (upd M k c) (upd rl k 0) (upd en k 0) (upd ov k 0) (upd mi k 0) (upd wo k 0) (upd la k 0) (upd re k 0) (upd rt k 0) (upd mk k 0) lg j 1 0) : wY_admit_63 post p d c b (nI m) (nI lc) fs ti ru fj ic pr fn U Q D C B O M rl en ov mi wo la re rt mk lg (n + 1) (nI k) (nI m) := by
  have ck : (nI k).toNatClampNeg = k := nI_clamp (by omega)
  have ik : vp_in (nI k) 8 := vp_in_nI hk (by omega)
  rw [wY_admit_63]
  dsimp only
  rw [ck]
  exact br_t (nI_le (Nat.le_refl _) (by omega)) (br_t (nI_pos' (by omega)) ⟨ik, nm_e ⟨ik, nm_e ⟨ik, nm_e ⟨ik, nm_e ⟨ik, nm_e ⟨ik, nm_e ⟨ik, nm_e ⟨ik, nm_e ⟨ik, nm_e ⟨ik, nm_e ⟨ik, nm_e ⟨ik, nm_e ⟨ik, nm_e ⟨ik, nm_e ⟨ik, nm_r (e' := upd mk k 0) rfl ⟨ik, nm_r (e' := upd U k 1) rfl h⟩⟩⟩⟩⟩⟩⟩⟩⟩⟩⟩⟩⟩⟩⟩⟩)
theorem rm_ya63_0 {post : Int32 → SY → Prop} {p d c b : Int32} {n : Nat} (hm : m ≤ 8) (h : post (-3) ((nI m), (nI lc), fs, ti, ru, fj, ic, pr, fn, U, Q, D, C, B, O, M, rl, en, ov, mi, wo, la, re, rt, mk, lg)) : wY_admit_63 post p d c b (nI m) (nI lc) fs ti ru fj ic pr fn U Q D C B O M rl en ov mi wo la re rt mk lg (n + 1) (-1) (nI m) := by
  rw [wY_admit_63]
  exact br_t (nI_le (Nat.le_refl _) (by omega)) (br_f (by decide) h)
theorem rm_ya63s (hm : m ≤ 8) {post : Int32 → SY → Prop} {p d c b : Int32} {k : Nat} (hk : k < 8) (K : ∀ n, wY_admit_63 post p d c b (nI m) (nI lc) fs ti ru fj ic pr fn U Q D C B O M rl en ov mi wo la re rt mk lg (n + 1) (nI k) (nI m)) : ∀ e i n, i + e = m → e < n → wY_admit_63 post p d c b (nI m) (nI lc) fs ti ru fj ic pr fn U Q D C B O M rl en ov mi wo la re rt mk lg n (nI k) (nI i) := by
  intro e
  induction e with
  | zero =>
    intro i n h1 h2
    obtain ⟨n, rfl⟩ : ∃ j, n = j + 1 := ⟨n - 1, by omega⟩
    have e1 : i = m := by omega
    subst e1
    exact K n
  | succ e ih =>
    intro i n h1 h2
    obtain ⟨n, rfl⟩ : ∃ j, n = j + 1 := ⟨n - 1, by omega⟩
    have H := ih (i + 1) n (by omega) (by omega)
    have ii : vp_in (nI i) 8 := vp_in_nI (by omega) (by omega)
    rw [wY_admit_63]
    exact br_f (nI_ge (by omega) (by omega)) ⟨ii, br_c (fun _ => br_t (nI_pos' (by omega)) (nm_r (nI_1 i) H)) (fun _ => nm_r (nI_1 i) H)⟩
theorem rm_ya63n (hA : rm_A m P Q U D C B M) (hm : m ≤ 8) {post : Int32 → SY → Prop} {p d c b : Int32} : ∀ e i n, i + e = m → e < n → (∀ n, wY_admit_63 post p d c b (nI m) (nI lc) fs ti ru fj ic pr fn U Q D C B O M rl en ov mi wo la re rt mk lg (n + 1) (rm_oi (rm_ff (rm_n P) e i)) (nI m)) → wY_admit_63 post p d c b (nI m) (nI lc) fs ti ru fj ic pr fn U Q D C B O M rl en ov mi wo la re rt mk lg n (-1) (nI i) := by
  intro e
  induction e with
  | zero =>
    intro i n h1 h2 K
    obtain ⟨n, rfl⟩ : ∃ j, n = j + 1 := ⟨n - 1, by omega⟩
    have e1 : i = m := by omega
    subst e1
    exact K n
  | succ e ih =>
    intro i n h1 h2 K
    obtain ⟨n, rfl⟩ : ∃ j, n = j + 1 := ⟨n - 1, by omega⟩
    have ci : (nI i).toNatClampNeg = i := nI_clamp (by omega)
    have ii : vp_in (nI i) 8 := vp_in_nI (by omega) (by omega)
    have hU : U (nI i).toNatClampNeg = 0 ↔ rm_n P i = 0 := by
      rw [ci]
      exact rm_A_U0 hA i
    rw [wY_admit_63]
    refine br_f (nI_ge (by omega) (by omega)) ⟨ii, ek_if hU (fun hu => br_f (by decide) (nm_r (nI_1 i) ?_)) (fun hu => nm_r (nI_1 i) ?_)⟩
    · rw [rm_ff_y hu] at K
      exact rm_ya63s hm (by omega) K e (i + 1) n (by omega) (by omega)
    · rw [rm_ff_n hu] at K
      exact ih (i + 1) n (by omega) (by omega) K
theorem rm_yad_r {post : Int32 → SY → Prop} {p d c b : Int32} (hok : ¬ rm_ok p d c b) (hp : post (-2) ((nI m), (nI lc), 0, ti, ru, fj, ic, pr, fn, U, Q, D, C, B, O, M, rl, en, ov, mi, wo, la, re, rt, mk, lg)) : wpY_admit post ((nI m), (nI lc), 0, ti, ru, fj, ic, pr, fn, U, Q, D, C, B, O, M, rl, en, ov, mi, wo, la, re, rt, mk, lg) p d c b := by
  unfold wpY_admit
  dsimp only
  exact br_t rfl (br_c (fun _ => hp) (fun z1 => br_c (fun _ => hp) (fun z2 => br_c (fun _ => hp) (fun z3 => br_c (fun _ => hp) (fun z4 => br_c (fun _ => hp) (fun z5 => br_c (fun _ => hp) (fun z6 => br_c (fun _ => hp) (fun z7 => br_c (fun z8 => absurd ⟨⟨Int32.not_lt.mp z1, Int32.not_lt.mp z2⟩, ⟨Int32.not_lt.mp z3, Int32.not_lt.mp z4⟩, ⟨Int32.not_lt.mp z5, Int32.not_lt.mp z6⟩, ⟨Int32.not_lt.mp z7, z8⟩⟩ hok) (fun _ => hp)))))))))
theorem rm_yad_ok {post : Int32 → SY → Prop} {p d c b : Int32} (hok : rm_ok p d c b) (hp : ∃ n, wY_admit_63 post p d c b (nI m) (nI lc) 0 ti ru fj ic pr fn U Q D C B O M rl en ov mi wo la re rt mk lg n (-1) 0) : wpY_admit post ((nI m), (nI lc), 0, ti, ru, fj, ic, pr, fn, U, Q, D, C, B, O, M, rl, en, ov, mi, wo, la, re, rt, mk, lg) p d c b := by
  unfold wpY_admit
  dsimp only
  obtain ⟨⟨z1, z2⟩, ⟨z3, z4⟩, ⟨z5, z6⟩, ⟨z7, z8⟩⟩ := hok
  exact br_t rfl (br_f (Int32.not_lt.mpr z1) (br_f (Int32.not_lt.mpr z2) (br_f (Int32.not_lt.mpr z3) (br_f (Int32.not_lt.mpr z4) (br_f (Int32.not_lt.mpr z5) (br_f (Int32.not_lt.mpr z6) (br_f (Int32.not_lt.mpr z7) (br_t z8 hp))))))))
theorem rm_yad_0 (hA : rm_A m P Q U D C B M) (hm : m ≤ 8) {post : Int32 → SY → Prop} {p d c b : Int32} (hok : rm_ok p d c b) (hff : rm_ff (rm_n P) m 0 = none) (hp : post (-3) ((nI m), (nI lc), 0, ti, ru, fj, ic, pr, fn, U, Q, D, C, B, O, M, rl, en, ov, mi, wo, la, re, rt, mk, lg)) : wpY_admit post ((nI m), (nI lc), 0, ti, ru, fj, ic, pr, fn, U, Q, D, C, B, O, M, rl, en, ov, mi, wo, la, re, rt, mk, lg) p d c b :=
  rm_yad_ok hok ⟨m + 1, rm_ya63n hA hm m 0 (m + 1) (by omega) (by omega) (fun n => by rw [hff]; exact rm_ya63_0 hm hp)⟩
theorem rm_yad_k (hA : rm_A m P Q U D C B M) (hm : m ≤ 8) {post : Int32 → SY → Prop} {p d c b : Int32} {k : Nat} (hok : rm_ok p d c b) (hff : rm_ff (rm_n P) m 0 = some k) (hk : k < 8) (hp : ∃ j, wY_admit_240 post (nI k) (nI m) (nI lc) 0 ti ru fj ic pr fn (upd U k 1) (upd Q k p) (upd D k d) (upd C k c) (upd B k b) (upd O k 0) (upd M k c) (upd rl k 0) (upd en k 0) (upd ov k 0) (upd mi k 0) (upd wo k 0) (upd la k 0) (upd re k 0) (upd rt k 0) (upd mk k 0) lg j 1 0) : wpY_admit post ((nI m), (nI lc), 0, ti, ru, fj, ic, pr, fn, U, Q, D, C, B, O, M, rl, en, ov, mi, wo, la, re, rt, mk, lg) p d c b :=
  rm_yad_ok hok ⟨m + 1, rm_ya63n hA hm m 0 (m + 1) (by omega) (by omega) (fun n => by rw [hff]; exact rm_ya63_k hk hm hp)⟩
end
