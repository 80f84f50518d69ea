/-! the reference's analysis, against the same pure picture -/
section
variable {m : Nat} {lc : Nat} {fn fs ti ru fj ic pr : Int32} {P Q U D C B O M rl en ov mi wo la re rt mk lg : Nat → Int32}
theorem rm_yh0 {post : Int32 → Prop} {a b : Nat} (ha : a < 8) (hb : b < 8) (h1 : (Q a < Q b ∨ (Q a = Q b ∧ a < b)) → post 1) (h0 : ¬ (Q a < Q b ∨ (Q a = Q b ∧ a < b)) → post 0) : wpY_higher post ((nI m), (nI lc), fs, ti, ru, fj, ic, pr, fn, U, Q, D, C, B, O, M, rl, en, ov, mi, wo, la, re, rt, mk, lg) (nI a) (nI b) := by
  have ca : (nI a).toNatClampNeg = a := nI_clamp (by omega)
  have cb : (nI b).toNatClampNeg = b := nI_clamp (by omega)
  have ia : vp_in (nI a) 8 := vp_in_nI ha (by omega)
  have ib : vp_in (nI b) 8 := vp_in_nI hb (by omega)
  have hle : nI b ≤ nI a ↔ b ≤ a := nI_leI (by omega) (by omega)
  unfold wpY_higher
  dsimp only
  rw [ca, cb]
  refine ⟨ia, ib, br_c (fun z => h1 (Or.inl z)) (fun z => ⟨ia, ib, br_c (fun y => ek_if hle (fun w => h0 ?_) (fun w => h1 (Or.inr ⟨y, by omega⟩))) (fun y => h0 ?_)⟩)⟩
  · intro q
    rcases q with q | q
    · exact z q
    · have := q.2
      omega
  · intro q
    rcases q with q | q
    · exact z q
    · exact y q.1
theorem rm_yh (hA : rm_A m P Q U D C B M) {post : Int32 → Prop} {a b : Nat} (ua : 0 < rm_n P a) (ub : 0 < rm_n P b) (ha : a < 8) (hb : b < 8) (h1 : rm_hi (rm_n P) a b → post 1) (h0 : ¬ rm_hi (rm_n P) a b → post 0) : wpY_higher post ((nI m), (nI lc), fs, ti, ru, fj, ic, pr, fn, U, Q, D, C, B, O, M, rl, en, ov, mi, wo, la, re, rt, mk, lg) (nI a) (nI b) := by
  have ea := (rm_A_used hA ua).2.1
  have eb := (rm_A_used hA ub).2.1
  have hh := rm_hi_iff hA a b
  rw [ea, eb] at hh
  exact rm_yh0 ha hb (fun z => h1 (hh.mp z)) (fun z => h0 (fun y => z (hh.mpr y)))
theorem rm_yT4 (hA : rm_A m P Q U D C B M) {post : Int32 → Prop} {t : Nat} (ht : t < 8) (ut : 0 < rm_n P t) (hp : post (nI (rm_T (rm_n P) (rm_n B) t 8))) : ∀ e i n, i + e = 8 → e < n → wY_blockTermOf_4 post (nI t) (nI m) (nI lc) fs ti ru fj ic pr fn U Q D C B O M rl en ov mi wo la re rt mk lg n (nI (rm_T (rm_n P) (rm_n B) t i)) (nI i) := by
  intro e
  induction e with
  | zero =>
    intro i n h1 h2
    obtain ⟨n, rfl⟩ : ∃ k, n = k + 1 := ⟨n - 1, by omega⟩
    have e1 : i = 8 := by omega
    subst e1
    rw [wY_blockTermOf_4]
    exact br_t (nI_le (a := 8) (b := 8) (Nat.le_refl _) (by omega)) hp
  | succ e ih =>
    intro i n h1 h2
    obtain ⟨n, rfl⟩ : ∃ k, n = k + 1 := ⟨n - 1, by omega⟩
    have H := ih (i + 1) n (by omega) (by omega)
    have ci : (nI i).toNatClampNeg = i := nI_clamp (by omega)
    have ii : vp_in (nI i) 8 := vp_in_nI (by omega) (by omega)
    have h8 : ¬ (8 : Int32) ≤ nI i := nI_ge (b := 8) (by omega) (by omega)
    have hB := rm_n255 hA.2.2.2.2 i
    have hT := rm_T_255 (p := rm_n P) (fun j => rm_n255 hA.2.2.2.2 j) t i
    have cB : B (nI i).toNatClampNeg = nI (rm_n B i) := by
      rw [ci]
      exact rm_nI hA.2.2.2.2 i
    have hU : U (nI i).toNatClampNeg = 0 ↔ rm_n P i = 0 := by
      rw [ci]
      exact rm_A_U0 hA i
    have heq : nI i = nI t ↔ i = t := nI_eq (by omega) (by omega)
    have hle : B (nI i).toNatClampNeg ≤ nI (rm_T (rm_n P) (rm_n B) t i) ↔ rm_n B i ≤ rm_T (rm_n P) (rm_n B) t i := by
      rw [cB]
      exact nI_leI (by omega) (by omega)
    rw [wY_blockTermOf_4]
    refine br_f h8 ⟨ii, ek_if hU (fun hu => nm_r (nI_1 i) ?_) (fun hu => ek_if heq (fun hq => nm_r (nI_1 i) ?_) (fun hq => rm_yh hA ut (by omega) ht (by omega) (fun hh => br_f (by decide) ⟨ii, ek_if hle (fun z => nm_r (nI_1 i) ?_) (fun z => ⟨ii, nm_r cB (nm_r (nI_1 i) ?_)⟩)⟩) (fun hh => br_t rfl (nm_r (nI_1 i) ?_))))⟩
    · have hf : ¬ ((0 < rm_n P i ∧ rm_hi (rm_n P) t i) ∧ rm_T (rm_n P) (rm_n B) t i < rm_n B i) := fun y => by
        have := y.1.1
        omega
      rw [rm_T_f hf] at H
      exact H
    · have hf : ¬ ((0 < rm_n P i ∧ rm_hi (rm_n P) t i) ∧ rm_T (rm_n P) (rm_n B) t i < rm_n B i) := fun y => by
        subst hq
        rcases y.1.2 with z | z
        · omega
        · omega
      rw [rm_T_f hf] at H
      exact H
    · have hf : ¬ ((0 < rm_n P i ∧ rm_hi (rm_n P) t i) ∧ rm_T (rm_n P) (rm_n B) t i < rm_n B i) := fun y => by
        have := y.2
        omega
      rw [rm_T_f hf] at H
      exact H
    · rw [rm_T_t ⟨⟨by omega, hh⟩, by omega⟩] at H
      exact H
    · have hf : ¬ ((0 < rm_n P i ∧ rm_hi (rm_n P) t i) ∧ rm_T (rm_n P) (rm_n B) t i < rm_n B i) := fun y => hh y.1.2
      rw [rm_T_f hf] at H
      exact H
theorem rm_yT (hA : rm_A m P Q U D C B M) {post : Int32 → Prop} {t : Nat} (ht : t < 8) (ut : 0 < rm_n P t) (hp : post (nI (rm_T (rm_n P) (rm_n B) t 8))) : wpY_blockTermOf post ((nI m), (nI lc), fs, ti, ru, fj, ic, pr, fn, U, Q, D, C, B, O, M, rl, en, ov, mi, wo, la, re, rt, mk, lg) (nI t) :=
  ⟨9, rm_yT4 hA ht ut hp 8 0 9 (by omega) (by omega)⟩
theorem rm_yF13 (hA : rm_A m P Q U D C B M) {post : Int32 → Prop} {t r s : Nat} (ht : t < 8) (ut : 0 < rm_n P t) (hr : r ≤ 255) (hp : post (nI (s + rm_S (rm_n P) (rm_n C) t r 8))) : ∀ e i n, i + e = 8 → e < n → wY_fOf_13 post (nI t) (nI r) (nI m) (nI lc) fs ti ru fj ic pr fn U Q D C B O M rl en ov mi wo la re rt mk lg n (nI (s + rm_S (rm_n P) (rm_n C) t r i)) (nI i) := by
  intro e
  induction e with
  | zero =>
    intro i n h1 h2
    obtain ⟨n, rfl⟩ : ∃ k, n = k + 1 := ⟨n - 1, by omega⟩
    have e1 : i = 8 := by omega
    subst e1
    rw [wY_fOf_13]
    exact br_t (nI_le (a := 8) (b := 8) (Nat.le_refl _) (by omega)) hp
  | succ e ih =>
    intro i n h1 h2
    obtain ⟨n, rfl⟩ : ∃ k, n = k + 1 := ⟨n - 1, by omega⟩
    have H := ih (i + 1) n (by omega) (by omega)
    have ci : (nI i).toNatClampNeg = i := nI_clamp (by omega)
    have ii : vp_in (nI i) 8 := vp_in_nI (by omega) (by omega)
    have h8 : ¬ (8 : Int32) ≤ nI i := nI_ge (b := 8) (by omega) (by omega)
    have hP := rm_n255 hA.2.1 i
    have cC : C (nI i).toNatClampNeg = nI (rm_n C i) := by
      rw [ci]
      exact rm_nI hA.2.2.2.1 i
    have hU : U (nI i).toNatClampNeg = 0 ↔ rm_n P i = 0 := by
      rw [ci]
      exact rm_A_U0 hA i
    have cQ : 0 < rm_n P i → Q (nI i).toNatClampNeg = nI (rm_n P i) := fun hu => by
      rw [ci, ← (rm_A_used hA hu).2.1]
      exact rm_A_P hA i
    have heq : nI i = nI t ↔ i = t := nI_eq (by omega) (by omega)
    rw [wY_fOf_13]
    refine br_f h8 ⟨ii, ek_if hU (fun hu => nm_r (nI_1 i) ?_) (fun hu => ek_if heq (fun hq => nm_r (nI_1 i) ?_) (fun hq => rm_yh hA (by omega) ut (by omega) ht (fun hh => br_f (by decide) ⟨ii, ii, ?_, ii, nm_r (e' := nI (s + rm_S (rm_n P) (rm_n C) t r i + (r + rm_n P i - 1) / rm_n P i * rm_n C i)) ?_ (nm_r (nI_1 i) ?_)⟩) (fun hh => br_t rfl (nm_r (nI_1 i) ?_))))⟩
    · have hf : ¬ (0 < rm_n P i ∧ rm_hi (rm_n P) i t) := fun y => by
        have := y.1
        omega
      rw [rm_S_f hf] at H
      exact H
    · have hf : ¬ (0 < rm_n P i ∧ rm_hi (rm_n P) i t) := fun y => by
        subst hq
        rcases y.2 with z | z
        · omega
        · omega
      rw [rm_S_f hf] at H
      exact H
    · rw [cQ (by omega)]
      exact nI_ne0 (by omega) (by omega)
    · rw [cQ (by omega), cC, rm_quo hr (by omega) hP, pk_mul, nI_add]
    · rw [rm_S_t ⟨by omega, hh⟩, ← Nat.add_assoc] at H
      exact H
    · have hf : ¬ (0 < rm_n P i ∧ rm_hi (rm_n P) i t) := fun y => hh y.2
      rw [rm_S_f hf] at H
      exact H
theorem rm_yF (hA : rm_A m P Q U D C B M) {post : Int32 → Prop} {t r : Nat} (ht : t < 8) (ut : 0 < rm_n P t) (hr : r ≤ 255) (hp : post (nI (rm_F (rm_n P) (rm_n C) (rm_n B) t r))) : wpY_fOf post ((nI m), (nI lc), fs, ti, ru, fj, ic, pr, fn, U, Q, D, C, B, O, M, rl, en, ov, mi, wo, la, re, rt, mk, lg) (nI t) (nI r) (nI (rm_T (rm_n P) (rm_n B) t 8)) := by
  have ct : (nI t).toNatClampNeg = t := nI_clamp (by omega)
  have it : vp_in (nI t) 8 := vp_in_nI ht (by omega)
  have H := rm_yF13 (fn := fn) (fs := fs) (ti := ti) (ru := ru) (fj := fj) (ic := ic) (pr := pr) (lc := lc) (O := O) (rl := rl) (en := en) (ov := ov) (mi := mi) (wo := wo) (la := la) (re := re) (rt := rt) (mk := mk) (lg := lg) hA (post := post) (s := rm_n C t + rm_T (rm_n P) (rm_n B) t 8) ht ut hr hp 8 0 9 (by omega) (by omega)
  exact ⟨it, nm_r (e' := nI (rm_n C t + rm_T (rm_n P) (rm_n B) t 8)) (by rw [ct, rm_nI hA.2.2.2.1 t, nI_add]) ⟨9, H⟩⟩
def rm_yl (x : Nat) : Int32 := if x = 0 then -1 else nI x
theorem rm_yB8 (hA : rm_A m P Q U D C B M) {post : Int32 → Prop} {t : Nat} (ht : t < 8) (ut : 0 < rm_n P t) : ∀ e r n, r + e = rm_n D t + 1 → 1 ≤ r → e < n → post (rm_yl (rm_lb (rm_F (rm_n P) (rm_n C) (rm_n B) t) e r)) → wY_boundOf_8 post (nI t) (nI (rm_T (rm_n P) (rm_n B) t 8)) (nI m) (nI lc) fs ti ru fj ic pr fn U Q D C B O M rl en ov mi wo la re rt mk lg n (nI r) := by
  have ct : (nI t).toNatClampNeg = t := nI_clamp (by omega)
  have it : vp_in (nI t) 8 := vp_in_nI ht (by omega)
  have hD := rm_n255 hA.2.2.1 t
  have cD : D (nI t).toNatClampNeg = nI (rm_n D t) := by
    rw [ct]
    exact rm_nI hA.2.2.1 t
  intro e
  induction e with
  | zero =>
    intro r n h1 h2 h3 hp
    obtain ⟨n, rfl⟩ : ∃ k, n = k + 1 := ⟨n - 1, by omega⟩
    have hlt : D (nI t).toNatClampNeg < nI r := by
      rw [cD]
      exact nI_lt (by omega) (by omega)
    rw [wY_boundOf_8]
    exact ⟨it, br_t hlt hp⟩
  | succ e ih =>
    intro r n h1 h2 h3 hp
    obtain ⟨n, rfl⟩ : ∃ k, n = k + 1 := ⟨n - 1, by omega⟩
    have hlt : ¬ D (nI t).toNatClampNeg < nI r := by
      rw [cD]
      exact nI_nlt (by omega) (by omega)
    have h255 : ¬ (255 : Int32) < nI r := nI_nlt (a := 255) (by omega) (by omega)
    have hF := rm_F_big (fun j => rm_n255 hA.2.1 j) (fun j => rm_n255 hA.2.2.2.1 j) (fun j => rm_n255 hA.2.2.2.2 j) t (r := r) (by omega)
    rw [wY_boundOf_8]
    refine ⟨it, br_f hlt (br_f h255 (rm_yF hA ht ut (by omega) (ek_if (nI_eq (by omega) (by omega)) (fun z => ?_) (fun z => nm_r (nI_1 r) (ih (r + 1) n (by omega) (by omega) (by omega) ?_)))))⟩
    · have hr : ¬ r = 0 := by omega
      rw [rm_lb_y z, rm_yl, if_neg hr] at hp
      exact hp
    · rw [rm_lb_n z] at hp
      exact hp
theorem rm_yB (hA : rm_A m P Q U D C B M) {post : Int32 → Prop} {t : Nat} (ht : t < 8) (ut : 0 < rm_n P t) (hp : post (rm_yl (rm_L (rm_n P) (rm_n D) (rm_n C) (rm_n B) t))) : wpY_boundOf post ((nI m), (nI lc), fs, ti, ru, fj, ic, pr, fn, U, Q, D, C, B, O, M, rl, en, ov, mi, wo, la, re, rt, mk, lg) (nI t) := by
  unfold wpY_boundOf
  dsimp only
  exact rm_yT hA ht ut ⟨rm_n D t + 1, rm_yB8 hA ht ut (rm_n D t) 1 (rm_n D t + 1) (by omega) (by omega) (by omega) hp⟩
theorem rm_yl_0 {x : Nat} (h : x < 2 ^ 31) : 0 ≤ rm_yl x ↔ ¬ x = 0 := by
  unfold rm_yl
  by_cases z : x = 0
  · rw [if_pos z]
    exact ⟨fun y => absurd y (by decide), fun y => absurd z y⟩
  · rw [if_neg z]
    exact ⟨fun _ => z, fun _ => nI_pos' h⟩
theorem rm_yc4 (hA : rm_A m P Q U D C B M) {post : Int32 → Prop} (hp : post (nI (rm_ct (rm_n P) 8))) : ∀ e i n, i + e = 8 → e < n → wY_getTaskCount_4 post (nI m) (nI lc) fs ti ru fj ic pr fn U Q D C B O M rl en ov mi wo la re rt mk lg n (nI (rm_ct (rm_n P) i)) (nI i) := by
  intro e
  induction e with
  | zero =>
    intro i n h1 h2
    obtain ⟨n, rfl⟩ : ∃ k, n = k + 1 := ⟨n - 1, by omega⟩
    have e1 : i = 8 := by omega
    subst e1
    rw [wY_getTaskCount_4]
    exact br_t (nI_le (a := 8) (b := 8) (Nat.le_refl _) (by omega)) hp
  | succ e ih =>
    intro i n h1 h2
    obtain ⟨n, rfl⟩ : ∃ k, n = k + 1 := ⟨n - 1, by omega⟩
    have H := ih (i + 1) n (by omega) (by omega)
    have ci : (nI i).toNatClampNeg = i := nI_clamp (by omega)
    have ii : vp_in (nI i) 8 := vp_in_nI (by omega) (by omega)
    have h8 : ¬ (8 : Int32) ≤ nI i := nI_ge (b := 8) (by omega) (by omega)
    have hU : U (nI i).toNatClampNeg = 0 ↔ rm_n P i = 0 := by
      rw [ci]
      exact rm_A_U0 hA i
    rw [wY_getTaskCount_4]
    refine br_f h8 ⟨ii, ek_if hU (fun hu => nm_r (nI_1 i) ?_) (fun hu => nm_r (nI_1 _) (nm_r (nI_1 i) ?_))⟩
    · have hne : ¬ 0 < rm_n P i := by omega
      rw [rm_ct_n hne] at H
      exact H
    · have hpos : 0 < rm_n P i := by omega
      rw [rm_ct_y hpos] at H
      exact H
theorem rm_yc (hA : rm_A m P Q U D C B M) {post : Int32 → Prop} (hp : post (nI (rm_ct (rm_n P) 8))) : wpY_getTaskCount post ((nI m), (nI lc), fs, ti, ru, fj, ic, pr, fn, U, Q, D, C, B, O, M, rl, en, ov, mi, wo, la, re, rt, mk, lg) :=
  ⟨9, rm_yc4 hA hp 8 0 9 (by omega) (by omega)⟩
end
