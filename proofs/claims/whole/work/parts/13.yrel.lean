/-! the reference's releases and pick -/
section
variable {m lc : Nat} {fn fs ti ru fj ic pr t : Int32} {P Q U D C B O M rl en ov mi wo la re rt mk lg : Nat → Int32}
theorem rm_y137_0 {post : SY → Prop} {J : Int32 → (Nat → Int32) → (Nat → Int32) → (Nat → Int32) → (Nat → Int32) → (Nat → Int32) → (Nat → Int32) → (Nat → Int32) → (Nat → Int32) → (Nat → Int32) → (Nat → Int32) → (Nat → Int32) → (Nat → Int32) → (Nat → Int32) → (Nat → Int32) → (Nat → Int32) → (Nat → Int32) → (Nat → Int32) → Prop} {i : Nat} (hi : i < 8) (h : J (nI (i + 1)) U Q D C B O M (upd rl i (rl i + 1)) en ov mi wo la re rt (upd mk i 0) lg) : wY_tick_137 post J t (nI i) 0 (nI i) (nI m) (nI lc) fs ti ru fj ic pr fn U Q D C B O M rl en ov mi wo la re rt mk lg := by
  have ci : (nI i).toNatClampNeg = i := nI_clamp (by omega)
  have ii : vp_in (nI i) 8 := vp_in_nI hi (by omega)
  unfold wY_tick_137
  rw [ci]
  exact ⟨ii, nm_r (e' := upd mk i 0) rfl ⟨ii, ii, nm_e (nm_r (nI_1 i) h)⟩⟩
theorem rm_y137_1 {post : SY → Prop} {J : Int32 → (Nat → Int32) → (Nat → Int32) → (Nat → Int32) → (Nat → Int32) → (Nat → Int32) → (Nat → Int32) → (Nat → Int32) → (Nat → Int32) → (Nat → Int32) → (Nat → Int32) → (Nat → Int32) → (Nat → Int32) → (Nat → Int32) → (Nat → Int32) → (Nat → Int32) → (Nat → Int32) → (Nat → Int32) → Prop} {i : Nat} (hi : i < 8) (h : J (nI (i + 1)) U Q D C B O M (upd rl i (rl i + 1)) en ov mi wo la re rt (upd mk i 1) lg) : wY_tick_137 post J t (nI i) 1 (nI i) (nI m) (nI lc) fs ti ru fj ic pr fn U Q D C B O M rl en ov mi wo la re rt mk lg := by
  have ci : (nI i).toNatClampNeg = i := nI_clamp (by omega)
  have ii : vp_in (nI i) 8 := vp_in_nI hi (by omega)
  unfold wY_tick_137
  rw [ci]
  exact ⟨ii, nm_r (e' := upd mk i 1) rfl ⟨ii, ii, nm_e (nm_r (nI_1 i) h)⟩⟩
theorem rm_y111 {post : SY → Prop} {J : Int32 → (Nat → Int32) → (Nat → Int32) → (Nat → Int32) → (Nat → Int32) → (Nat → Int32) → (Nat → Int32) → (Nat → Int32) → (Nat → Int32) → (Nat → Int32) → (Nat → Int32) → (Nat → Int32) → (Nat → Int32) → (Nat → Int32) → (Nat → Int32) → (Nat → Int32) → (Nat → Int32) → (Nat → Int32) → Prop} {i : Nat} {z : Int32} (hi : i < 8) (h : J (nI (i + 1)) U Q D C B O M (upd rl i (rl i + 1)) en ov mi wo la (upd re i z) rt (upd mk i (rm_nk C M i)) lg) : wY_tick_111 post J t (nI i) z (nI i) (nI m) (nI lc) fs ti ru fj ic pr fn U Q D C B O M rl en ov mi wo la re rt mk lg := by
  have ci : (nI i).toNatClampNeg = i := nI_clamp (by omega)
  have ii : vp_in (nI i) 8 := vp_in_nI hi (by omega)
  unfold wY_tick_111
  rw [ci]
  by_cases y : C i < M i
  · have e2 : rm_nk C M i = 1 := if_pos y
    rw [e2] at h
    exact ⟨ii, nm_e ⟨ii, ii, br_f (Int32.not_le.mpr y) (rm_y137_1 hi h)⟩⟩
  · have e2 : rm_nk C M i = 0 := if_neg y
    rw [e2] at h
    exact ⟨ii, nm_e ⟨ii, ii, br_t (Int32.not_lt.mp y) (rm_y137_0 hi h)⟩⟩
theorem rm_y69 {post : SY → Prop} {J : Int32 → (Nat → Int32) → (Nat → Int32) → (Nat → Int32) → (Nat → Int32) → (Nat → Int32) → (Nat → Int32) → (Nat → Int32) → (Nat → Int32) → (Nat → Int32) → (Nat → Int32) → (Nat → Int32) → (Nat → Int32) → (Nat → Int32) → (Nat → Int32) → (Nat → Int32) → (Nat → Int32) → (Nat → Int32) → Prop} {i : Nat} (hi : i < 8) (h : J (nI (i + 1)) U Q D C B O M (upd rl i (rl i + 1)) en ov mi wo la (upd re i (rm_nr C M i)) (upd rt i t) (upd mk i (rm_nk C M i)) lg) : wY_tick_69 post J t (nI i) (nI m) (nI lc) fs ti ru fj ic pr fn U Q D C B O M rl en ov mi wo la re rt mk lg := by
  have ci : (nI i).toNatClampNeg = i := nI_clamp (by omega)
  have ii : vp_in (nI i) 8 := vp_in_nI hi (by omega)
  unfold wY_tick_69
  rw [ci]
  by_cases y : M i < C i
  · rw [← rm_nr_y y] at h
    exact ⟨ii, nm_e ⟨ii, ii, br_f (Int32.not_le.mpr y) ⟨ii, rm_y111 hi h⟩⟩⟩
  · rw [← rm_nr_n y] at h
    exact ⟨ii, nm_e ⟨ii, ii, br_t (Int32.not_lt.mp y) ⟨ii, rm_y111 hi h⟩⟩⟩
theorem rm_y7 (hA : rm_A m P Q U D C B M) {post : SY → Prop} (hp : ∃ k, wY_tick_158 post t (nI m) (nI lc) fs ti ru fj ic pr fn U Q D C B O M (rm_rl P O rl t 8) en ov (rm_mi P O re mi t 8) wo la (rm_re P O C M re t 8) (rm_rt P O rt t 8) (rm_mk P O C M mk t 8) lg k (-1) 0) : ∀ e i n, i + e = 8 → e < n → wY_tick_7 post t (nI m) (nI lc) fs ti ru fj ic pr fn n (nI i) U Q D C B O M (rm_rl P O rl t i) en ov (rm_mi P O re mi t i) wo la (rm_re P O C M re t i) (rm_rt P O rt t i) (rm_mk P O C M mk t i) lg := by
  intro e
  induction e with
  | zero =>
    intro i n h1 h2
    obtain ⟨n, rfl⟩ : ∃ k, n = k + 1 := ⟨n - 1, by omega⟩
    have e1 : i = 8 := by omega
    subst e1
    rw [wY_tick_7]
    exact br_t (nI_le (a := 8) (b := 8) (Nat.le_refl _) (by omega)) hp
  | succ e ih =>
    intro i n h1 h2
    obtain ⟨n, rfl⟩ : ∃ k, n = k + 1 := ⟨n - 1, by omega⟩
    have H := ih (i + 1) n (by omega) (by omega)
    have ci : (nI i).toNatClampNeg = i := nI_clamp (by omega)
    have ii : vp_in (nI i) 8 := vp_in_nI (by omega) (by omega)
    have h8 : ¬ (8 : Int32) ≤ nI i := nI_ge (b := 8) (by omega) (by omega)
    have hU : U (nI i).toNatClampNeg = 0 ↔ rm_n P i = 0 := by
      rw [ci]
      exact rm_A_U0 hA i
    have hre : rm_re P O C M re t i (nI i).toNatClampNeg ≤ 0 ↔ ¬ 0 < re i := by
      rw [ci, rm_re_i]
      exact Int32.not_lt.symm
    rw [wY_tick_7]
    refine br_f h8 ⟨ii, ek_if hU (fun hu => nm_r (nI_1 i) ?_) (fun hu => ?_)⟩
    · have hd : rm_due P O t i = false := rm_due_f0 (fun y => by
        have := (rm_A_Ppos hA i).mp y
        omega)
      rw [rm_mi_f (rm_late_f hd), rm_rl_f hd, rm_mk_f hd, rm_re_f hd, rm_rt_f hd] at H
      exact H
    · have hu1 : 0 < rm_n P i := by omega
      have hP : 0 < P i := (rm_A_Ppos hA i).mpr hu1
      have eQ : Q (nI i).toNatClampNeg = P i := by
        rw [ci]
        exact (rm_A_used hA hu1).2.1.symm
      have eO : O (nI i).toNatClampNeg = O i := by rw [ci]
      have hne : ¬ Q (nI i).toNatClampNeg = 0 := fun e => by
        rw [eQ] at e
        rw [e] at hP
        exact Int32.lt_irrefl hP
      have hlt : t < O (nI i).toNatClampNeg ↔ t < O i := by rw [eO]
      have hrem : (t - O (nI i).toNatClampNeg) - (t - O (nI i).toNatClampNeg) / Q (nI i).toNatClampNeg * Q (nI i).toNatClampNeg = 0 ↔ (t - O i) - (t - O i) / P i * P i = 0 := by
        rw [eQ, eO]
      refine ⟨ii, ek_if hlt (fun z => nm_r (nI_1 i) ?_) (fun z => ⟨ii, ii, hne, ek_if hrem (fun y => ⟨ii, ek_if hre (fun w => ?_) (fun w => ⟨ii, ii, nm_r (e' := upd (rm_mi P O re mi t i) i (rm_mi P O re mi t i i + 1)) (by rw [ci]) ?_⟩)⟩) (fun y => nm_r (nI_1 i) ?_)⟩)⟩
      · have hd : rm_due P O t i = false := rm_due_f1 (Int32.not_le.mpr z)
        rw [rm_mi_f (rm_late_f hd), rm_rl_f hd, rm_mk_f hd, rm_re_f hd, rm_rt_f hd] at H
        exact H
      · have hd : rm_due P O t i = true := rm_due_t hP (Int32.not_lt.mp z) y
        refine rm_y69 (by omega) ?_
        rw [rm_mi_f (rm_late_n w), rm_rl_t hd, rm_mk_t hd, rm_re_t hd, rm_rt_t hd] at H
        exact H
      · have hd : rm_due P O t i = true := rm_due_t hP (Int32.not_lt.mp z) y
        have w1 : 0 < re i := Decidable.of_not_not w
        refine rm_y69 (by omega) ?_
        rw [rm_mi_t (rm_late_t hd w1), rm_rl_t hd, rm_mk_t hd, rm_re_t hd, rm_rt_t hd] at H
        exact H
      · have hd : rm_due P O t i = false := rm_due_f2 y
        rw [rm_mi_f (rm_late_f hd), rm_rl_f hd, rm_mk_f hd, rm_re_f hd, rm_rt_f hd] at H
        exact H
theorem rm_ytick (hA : rm_A m P Q U D C B M) {post : SY → Prop} (hp : ∃ k, wY_tick_158 post ti (nI m) (nI lc) fs ti ru fj ic pr fn U Q D C B O M (rm_rl P O rl ti 8) en ov (rm_mi P O re mi ti 8) wo la (rm_re P O C M re ti 8) (rm_rt P O rt ti 8) (rm_mk P O C M mk ti 8) lg k (-1) 0) : wpY_tick post ((nI m), (nI lc), fs, ti, ru, fj, ic, pr, fn, U, Q, D, C, B, O, M, rl, en, ov, mi, wo, la, re, rt, mk, lg) := by
  have H := rm_y7 hA hp 8 0 9 (by omega) (by omega)
  have e1 : rm_rl P O rl ti 0 = rl := rm_mx_0 _ _ _
  have e2 : rm_mi P O re mi ti 0 = mi := rm_mx_0 _ _ _
  have e3 : rm_mk P O C M mk ti 0 = mk := rm_mx_0 _ _ _
  have e4 : rm_re P O C M re ti 0 = re := rm_mx_0 _ _ _
  have e5 : rm_rt P O rt ti 0 = rt := rm_mx_0 _ _ _
  rw [e1, e2, e3, e4, e5] at H
  exact ⟨9, H⟩
theorem rm_y158 (hA : rm_A m P Q U D C B M) (hR : rm_R P re) {post : SY → Prop} (hp : ∀ n, wY_tick_158 post t (nI m) (nI lc) fs ti ru fj ic pr fn U Q D C B O M rl en ov mi wo la re rt mk lg (n + 1) (rm_oi (rm_pk P re 8)) (nI 8)) : ∀ e i n, i + e = 8 → e < n → wY_tick_158 post t (nI m) (nI lc) fs ti ru fj ic pr fn U Q D C B O M rl en ov mi wo la re rt mk lg n (rm_oi (rm_pk P re i)) (nI i) := by
  intro e
  induction e with
  | zero =>
    intro i n h1 h2
    obtain ⟨n, rfl⟩ : ∃ k, n = k + 1 := ⟨n - 1, by omega⟩
    have e1 : i = 8 := by omega
    subst e1
    exact hp n
  | succ e ih =>
    intro i n h1 h2
    obtain ⟨n, rfl⟩ : ∃ k, n = k + 1 := ⟨n - 1, by omega⟩
    have H := ih (i + 1) n (by omega) (by omega)
    have ci : (nI i).toNatClampNeg = i := nI_clamp (by omega)
    have ii : vp_in (nI i) 8 := vp_in_nI (by omega) (by omega)
    have h8 : ¬ (8 : Int32) ≤ nI i := nI_ge (b := 8) (by omega) (by omega)
    have hU : U (nI i).toNatClampNeg = 0 ↔ rm_n P i = 0 := by
      rw [ci]
      exact rm_A_U0 hA i
    have hre : re (nI i).toNatClampNeg ≤ 0 ↔ ¬ 0 < re i := by
      rw [ci]
      exact Int32.not_lt.symm
    have hus : ∀ j, 0 < re j → Q j = P j := fun j hj => by
      rcases hR j with y | y
      · rw [y] at hj
        exact absurd hj Int32.lt_irrefl
      · exact (rm_A_used hA y.2).2.1.symm
    rw [wY_tick_158]
    refine br_f h8 ⟨ii, ek_if hU (fun hu => nm_r (nI_1 i) ?_) (fun hu => ⟨ii, ek_if hre (fun z => nm_r (nI_1 i) ?_) (fun z => ?_)⟩)⟩
    · have z : ¬ 0 < re i := fun y => by
        rcases hR i with w | w
        · rw [w] at y
          exact Int32.lt_irrefl y
        · omega
      rw [rm_pk_z z] at H
      exact H
    · rw [rm_pk_z z] at H
      exact H
    · have z1 : 0 < re i := Decidable.of_not_not z
      cases hq : rm_pk P re i with
      | none =>
        rw [rm_pk_n z1 hq] at H
        exact br_t (show (-1 : Int32) < 0 by decide) (nm_r (nI_1 i) H)
      | some b =>
        have hb := rm_pk_some i b hq
        have eqi := hus i z1
        have eqb := hus b hb.2
        refine br_f (nI_pos (by omega)) (rm_yh0 (by omega) (by omega) (fun hh => br_f (by decide) (nm_r (nI_1 i) ?_)) (fun hh => br_t rfl (nm_r (nI_1 i) ?_)))
        · rw [eqi, eqb] at hh
          rw [rm_pk_t z1 hq hh] at H
          exact H
        · rw [eqi, eqb] at hh
          rw [rm_pk_f hq hh] at H
          exact H
/-- how many preemptions there are when b is picked -/
def rm_pr (un : Int32) (b : Nat) (pr : Int32) : Int32 := if un = -1 then pr else if un = nI b then pr else pr + 1
theorem rm_y278 {post : SY → Prop} {b : Nat} (hp : wY_tick_302 post t (nI b) (nI m) (nI lc) fs ti ru fj ic pr fn U Q D C B O M rl en ov mi wo la re rt mk lg) : wY_tick_278 post t (nI b) (nI m) (nI lc) fs ti ru fj ic pr fn U Q D C B O M rl en ov mi wo la re rt mk lg := by
  unfold wY_tick_278 wY_tick_279
  exact br_t rfl hp
theorem rm_y158_i {post : SY → Prop} {n : Nat} (hp : post ((nI m), (nI lc), fs, t + 1, -1, fj, ic + 1, pr, fn, U, Q, D, C, B, O, M, rl, en, ov, mi, wo, la, re, rt, mk, lg)) : wY_tick_158 post t (nI m) (nI lc) fs ti ru fj ic pr fn U Q D C B O M rl en ov mi wo la re rt mk lg (n + 1) (-1) (nI 8) := by
  rw [wY_tick_158]
  exact br_t (nI_le (a := 8) (b := 8) (Nat.le_refl _) (by omega)) (br_f (by decide) (nm_e (nm_e hp)))
theorem rm_y158_e {un : Int32} {post : SY → Prop} {b n : Nat} (hb : b < 8) (hJ : rm_Jr ru un fj rl re) (hp : wY_tick_302 post t (nI b) (nI m) (nI lc) fs ti ru fj ic (rm_pr un b pr) fn U Q D C B O M rl en ov mi wo la re rt mk lg) : wY_tick_158 post t (nI m) (nI lc) fs ti ru fj ic pr fn U Q D C B O M rl en ov mi wo la re rt mk lg (n + 1) (nI b) (nI 8) := by
  rw [wY_tick_158]
  refine br_t (nI_le (a := 8) (b := 8) (Nat.le_refl _) (by omega)) (br_t (nI_pos' (by omega)) ?_)
  rcases hJ with ⟨h1, h2⟩ | ⟨q, hq, h1, h3⟩
  · have e : rm_pr un b pr = pr := if_pos h2
    rw [e] at hp
    have hlt : ru < 0 := by
      rw [h1]
      decide
    exact br_t hlt (rm_y278 hp)
  · subst h1
    have cq : (nI q).toNatClampNeg = q := nI_clamp (by omega)
    have iq : vp_in (nI q) 8 := vp_in_nI hq (by omega)
    have h8 : ¬ (8 : Int32) ≤ nI q := nI_ge (b := 8) (by omega) (by omega)
    have hre : re (nI q).toNatClampNeg ≤ 0 ↔ ¬ 0 < re q := by
      rw [cq]
      exact Int32.not_lt.symm
    have hrl : rl (nI q).toNatClampNeg = fj ↔ rl q = fj := by rw [cq]
    refine br_f (nI_pos (by omega)) (br_f h8 ⟨iq, ek_if hre (fun z => rm_y278 ?_) (fun z => ⟨iq, ek_if hrl (fun y => ?_) (fun y => rm_y278 ?_)⟩)⟩)
    · rcases h3 with w | w
      · exact absurd w.1 z
      · have e : rm_pr un b pr = pr := if_pos w.2
        rw [e] at hp
        exact hp
    · have z1 : 0 < re q := Decidable.of_not_not z
      rcases h3 with w | w
      · have hun := w.2.2
        unfold wY_tick_279
        refine br_f (by decide) ?_
        have hne : ¬ un = -1 := by
          rw [hun]
          exact rm_ne1 (by omega)
        by_cases x : nI q = nI b
        · have e : rm_pr un b pr = pr := (if_neg hne).trans (if_pos (hun.trans x))
          rw [e] at hp
          exact br_t x hp
        · have e : rm_pr un b pr = pr + 1 := (if_neg hne).trans (if_neg (fun v => x (hun.symm.trans v)))
          rw [e] at hp
          exact br_f x (nm_e hp)
      · exact absurd ⟨z1, y⟩ w.1
    · rcases h3 with w | w
      · exact absurd w.2.1 y
      · have e : rm_pr un b pr = pr := if_pos w.2
        rw [e] at hp
        exact hp
end
