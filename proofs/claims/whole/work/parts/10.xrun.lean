/-! the component's tick -/
section
variable {m lc : Nat} {fn fs ti ru un ic pr : Int32} {P Q U D C B O M bo bt rl en ov mi wo la re rt mk lg : Nat → Int32}
theorem rm_x52 {post : SX → Prop} {i : Nat} (hi : i < 8) {z : Int32} (h : post ((nI m), (nI lc), fn, fs, ti, ru, un, ic, pr, P, D, C, B, O, M, bo, bt, upd rl i (rl i + 1), en, ov, mi, wo, la, upd re i z, upd rt i ti, mk, lg)) : wX_releaseJob_52 post (nI i) z (nI i) (nI m) (nI lc) fn fs ti ru un ic pr P D C B O M bo bt rl en ov mi wo la re rt mk lg := by
  have ci : (nI i).toNatClampNeg = i := nI_clamp (by omega)
  have ii : vp_in (nI i) 8 := vp_in_nI hi (by omega)
  unfold wX_releaseJob_52
  rw [ci]
  exact ⟨ii, nm_e ⟨ii, nm_e ⟨ii, ii, nm_e h⟩⟩⟩
theorem rm_x20_0 {post : SX → Prop} {i : Nat} (hi : i < 8) (h : post ((nI m), (nI lc), fn, fs, ti, ru, un, ic, pr, P, D, C, B, O, M, bo, bt, upd rl i (rl i + 1), en, ov, mi, wo, la, upd re i (M i), upd rt i ti, upd mk i 0, lg)) : wX_releaseJob_20 post (nI i) 0 (nI m) (nI lc) fn fs ti ru un ic pr P D C B O M bo bt rl en ov mi wo la re rt mk lg := by
  have ci : (nI i).toNatClampNeg = i := nI_clamp (by omega)
  have ii : vp_in (nI i) 8 := vp_in_nI hi (by omega)
  unfold wX_releaseJob_20
  rw [ci]
  exact ⟨ii, nm_r (e' := upd mk i 0) rfl (br_t rfl ⟨ii, rm_x52 hi h⟩)⟩
theorem rm_x20_1 {post : SX → Prop} {i : Nat} (hi : i < 8) (h : post ((nI m), (nI lc), fn, fs, ti, ru, un, ic, pr, P, D, C, B, O, M, bo, bt, upd rl i (rl i + 1), en, ov, mi, wo, la, upd re i (C i), upd rt i ti, upd mk i 1, lg)) : wX_releaseJob_20 post (nI i) 1 (nI m) (nI lc) fn fs ti ru un ic pr P D C B O M bo bt rl en ov mi wo la re rt mk lg := by
  have ci : (nI i).toNatClampNeg = i := nI_clamp (by omega)
  have ii : vp_in (nI i) 8 := vp_in_nI hi (by omega)
  unfold wX_releaseJob_20
  rw [ci]
  exact ⟨ii, nm_r (e' := upd mk i 1) rfl (br_f (by decide) ⟨ii, rm_x52 hi h⟩)⟩
theorem rm_xrel {post : SX → Prop} {i : Nat} (hi : i < 8) (h : post ((nI m), (nI lc), fn, fs, ti, ru, un, ic, pr, P, D, C, B, O, M, bo, bt, upd rl i (rl i + 1), en, ov, mi, wo, la, upd re i (rm_nr C M i), upd rt i ti, upd mk i (rm_nk C M i), lg)) : wpX_releaseJob post ((nI m), (nI lc), fn, fs, ti, ru, un, ic, pr, P, D, C, B, O, M, bo, bt, rl, en, ov, mi, wo, la, re, rt, mk, lg) (nI i) := by
  have ci : (nI i).toNatClampNeg = i := nI_clamp (by omega)
  have ii : vp_in (nI i) 8 := vp_in_nI hi (by omega)
  unfold wpX_releaseJob
  dsimp only
  rw [ci]
  by_cases z : C i < M i
  · have e1 : rm_nr C M i = C i := if_pos z
    have e2 : rm_nk C M i = 1 := if_pos z
    rw [e1, e2] at h
    exact ⟨ii, ii, br_f (Int32.not_le.mpr z) (rm_x20_1 hi h)⟩
  · have e1 : rm_nr C M i = M i := if_neg z
    have e2 : rm_nk C M i = 0 := if_neg z
    rw [e1, e2] at h
    exact ⟨ii, ii, br_t (Int32.not_lt.mp z) (rm_x20_0 hi h)⟩
theorem rm_xdrop {post : SX → Prop} {i : Nat} (hi : i < 8) (h : post ((nI m), (nI lc), fn, fs, ti, ru, if un = nI i then -1 else un, ic, pr, P, D, C, B, O, M, bo, bt, rl, en, ov, upd mi i (mi i + 1), wo, la, re, rt, mk, lg)) : wpX_dropJob post ((nI m), (nI lc), fn, fs, ti, ru, un, ic, pr, P, D, C, B, O, M, bo, bt, rl, en, ov, mi, wo, la, re, rt, mk, lg) (nI i) := by
  have ci : (nI i).toNatClampNeg = i := nI_clamp (by omega)
  have ii : vp_in (nI i) 8 := vp_in_nI hi (by omega)
  unfold wpX_dropJob
  dsimp only
  rw [ci]
  by_cases z : un = nI i
  · rw [if_pos z] at h
    exact ⟨ii, ii, nm_e (br_t z h)⟩
  · rw [if_neg z] at h
    exact ⟨ii, ii, nm_e (br_f z h)⟩
theorem rm_xdue {post : Int32 → Prop} {i : Nat} (hi : i < 8) (hP : 0 < P i) (h1 : rm_due P O ti i = true → post 1) (h0 : rm_due P O ti i = false → post 0) : wpX_isReleaseDue post ((nI m), (nI lc), fn, fs, ti, ru, un, ic, pr, P, D, C, B, O, M, bo, bt, rl, en, ov, mi, wo, la, re, rt, mk, lg) (nI i) := by
  have ci : (nI i).toNatClampNeg = i := nI_clamp (by omega)
  have ii : vp_in (nI i) 8 := vp_in_nI hi (by omega)
  have hne : ¬ P i = 0 := fun e => by
    rw [e] at hP
    exact Int32.lt_irrefl hP
  unfold wpX_isReleaseDue
  dsimp only
  rw [ci]
  exact ⟨ii, br_c (fun z => h0 (rm_due_f1 (Int32.not_le.mpr z))) (fun z => ⟨ii, ii, hne, br_c (fun y => h1 (rm_due_t hP (Int32.not_lt.mp z) y)) (fun y => h0 (rm_due_f2 y))⟩)⟩
theorem rm_xdj2 (hA : rm_A m P Q U D C B M) (hm : m ≤ 8) {post : SX → Prop} (hp : post ((nI m), (nI lc), fn, fs, ti, ru, rm_uf P O re ti un m, ic, pr, P, D, C, B, O, M, bo, bt, rm_rl P O rl ti m, en, ov, rm_mi P O re mi ti m, wo, la, rm_re P O C M re ti m, rm_rt P O rt ti m, rm_mk P O C M mk ti m, lg)) : ∀ e i n, i + e = m → e < n → wX_releaseDueJobs_2 post n (nI i) (nI m) (nI lc) fn fs ti ru (rm_uf P O re ti un i) ic pr P D C B O M bo bt (rm_rl P O rl ti i) en ov (rm_mi P O re mi ti i) wo la (rm_re P O C M re ti i) (rm_rt P O rt ti i) (rm_mk P O C M mk ti i) lg := by
  intro e
  induction e with
  | zero =>
    intro i n h1 h2
    obtain ⟨n, rfl⟩ : ∃ k, n = k + 1 := ⟨n - 1, by omega⟩
    have e1 : i = m := by omega
    subst e1
    rw [wX_releaseDueJobs_2]
    exact br_t (nI_le (Nat.le_refl _) (by omega)) hp
  | succ e ih =>
    intro i n h1 h2
    obtain ⟨n, rfl⟩ : ∃ k, n = k + 1 := ⟨n - 1, by omega⟩
    have H := ih (i + 1) n (by omega) (by omega)
    have ci : (nI i).toNatClampNeg = i := nI_clamp (by omega)
    have ii : vp_in (nI i) 8 := vp_in_nI (by omega) (by omega)
    have hre : rm_re P O C M re ti i (nI i).toNatClampNeg ≤ 0 ↔ ¬ 0 < re i := by
      rw [ci, rm_re_i]
      exact Int32.not_lt.symm
    rw [wX_releaseDueJobs_2]
    refine br_f (nI_ge (by omega) (by omega)) (rm_xu hA hm (by omega) (fun hu => br_f (by decide) (rm_xdue (by omega) ((rm_A_Ppos hA i).mpr hu) (fun hd => br_f (by decide) ⟨ii, ek_if hre (fun z => ?_) (fun z => ?_)⟩) (fun hd => br_t rfl (nm_r (nI_1 i) ?_)))) (fun hu => br_t rfl (nm_r (nI_1 i) ?_)))
    · unfold wX_releaseDueJobs_40
      refine rm_xrel (by omega) (nm_r (nI_1 i) ?_)
      rw [rm_uf_f (rm_late_n z), rm_mi_f (rm_late_n z), rm_rl_t hd, rm_mk_t hd, rm_re_t hd, rm_rt_t hd] at H
      exact H
    · have z1 : 0 < re i := Decidable.of_not_not z
      refine rm_xdrop (by omega) ?_
      dsimp only
      unfold wX_releaseDueJobs_40
      refine rm_xrel (by omega) (nm_r (nI_1 i) ?_)
      rw [rm_uf_t (rm_late_t hd z1), rm_mi_t (rm_late_t hd z1), rm_rl_t hd, rm_mk_t hd, rm_re_t hd, rm_rt_t hd] at H
      exact H
    · rw [rm_uf_f (rm_late_f hd), rm_mi_f (rm_late_f hd), rm_rl_f hd, rm_mk_f hd, rm_re_f hd, rm_rt_f hd] at H
      exact H
    · have hd : rm_due P O ti i = false := rm_due_f0 (fun y => by
        have := (rm_A_Ppos hA i).mp y
        omega)
      rw [rm_uf_f (rm_late_f hd), rm_mi_f (rm_late_f hd), rm_rl_f hd, rm_mk_f hd, rm_re_f hd, rm_rt_f hd] at H
      exact H
theorem rm_xdj (hA : rm_A m P Q U D C B M) (hm : m ≤ 8) {post : SX → Prop} (hp : post ((nI m), (nI lc), fn, fs, ti, ru, rm_uf P O re ti un 8, ic, pr, P, D, C, B, O, M, bo, bt, rm_rl P O rl ti 8, en, ov, rm_mi P O re mi ti 8, wo, la, rm_re P O C M re ti 8, rm_rt P O rt ti 8, rm_mk P O C M mk ti 8, lg)) : wpX_releaseDueJobs post ((nI m), (nI lc), fn, fs, ti, ru, un, ic, pr, P, D, C, B, O, M, bo, bt, rl, en, ov, mi, wo, la, re, rt, mk, lg) := by
  rw [← rm_uf_8 hA hm, ← rm_rl_8 hA hm, ← rm_mi_8 hA hm, ← rm_mk_8 hA hm, ← rm_re_8 hA hm, ← rm_rt_8 hA hm] at hp
  have H := rm_xdj2 hA hm hp m 0 (m + 1) (by omega) (by omega)
  have e1 : rm_rl P O rl ti 0 = rl := rm_mx_0 _ _ _
  have e2 : rm_mi P O re mi ti 0 = mi := rm_mx_0 _ _ _
  have e3 : rm_mk P O C M mk ti 0 = mk := rm_mx_0 _ _ _
  have e4 : rm_re P O C M re ti 0 = re := rm_mx_0 _ _ _
  have e5 : rm_rt P O rt ti 0 = rt := rm_mx_0 _ _ _
  have e6 : rm_uf P O re ti un 0 = un := rfl
  rw [e1, e2, e3, e4, e5, e6] at H
  exact ⟨m + 1, H⟩
theorem rm_xpk4 (hm : m ≤ 8) {post : Int32 → Prop} (hp : post (rm_oi (rm_pk P re m))) : ∀ e i n, i + e = m → e < n → wX_highestPendingSlot_4 post (nI m) (nI lc) fn fs ti ru un ic pr P D C B O M bo bt rl en ov mi wo la re rt mk lg n (rm_oi (rm_pk P re i)) (nI i) := by
  intro e
  induction e with
  | zero =>
    intro i n h1 h2
    obtain ⟨n, rfl⟩ : ∃ k, n = k + 1 := ⟨n - 1, by omega⟩
    have e1 : i = m := by omega
    subst e1
    rw [wX_highestPendingSlot_4]
    exact br_t (nI_le (Nat.le_refl _) (by omega)) hp
  | succ e ih =>
    intro i n h1 h2
    obtain ⟨n, rfl⟩ : ∃ k, n = k + 1 := ⟨n - 1, by omega⟩
    have H := ih (i + 1) n (by omega) (by omega)
    have ci : (nI i).toNatClampNeg = i := nI_clamp (by omega)
    have ii : vp_in (nI i) 8 := vp_in_nI (by omega) (by omega)
    have hre : re (nI i).toNatClampNeg ≤ 0 ↔ ¬ 0 < re i := by
      rw [ci]
      exact Int32.not_lt.symm
    rw [wX_highestPendingSlot_4]
    refine br_f (nI_ge (by omega) (by omega)) ⟨ii, ek_if hre (fun z => nm_r (nI_1 i) ?_) (fun z => ?_)⟩
    · rw [rm_pk_z z] at H
      exact H
    · have z1 : 0 < re i := Decidable.of_not_not z
      cases hq : rm_pk P re i with
      | none =>
        rw [rm_pk_n z1 hq] at H
        exact br_t rfl (nm_r (nI_1 i) H)
      | some b =>
        have hb := (rm_pk_some i b hq).1
        refine br_f (rm_ne1 (by omega)) (rm_xh0 (by omega) (by omega) (fun hh => br_f (by decide) (nm_r (nI_1 i) ?_)) (fun hh => br_t rfl (nm_r (nI_1 i) ?_)))
        · rw [rm_pk_t z1 hq hh] at H
          exact H
        · rw [rm_pk_f hq hh] at H
          exact H
theorem rm_xpk (hm : m ≤ 8) {post : Int32 → Prop} (hp : post (rm_oi (rm_pk P re m))) : wpX_highestPendingSlot post ((nI m), (nI lc), fn, fs, ti, ru, un, ic, pr, P, D, C, B, O, M, bo, bt, rl, en, ov, mi, wo, la, re, rt, mk, lg) :=
  ⟨m + 1, rm_xpk4 hm hp m 0 (m + 1) (by omega) (by omega)⟩
theorem rm_xdo2 {post : SX → Prop} {q : Nat} (hq : q ≤ 32) (hp : post ((nI m), (nI lc), nI (q - 1), fs, ti, ru, un, ic, pr, P, D, C, B, O, M, bo, bt, rl, en, ov, mi, wo, la, re, rt, mk, rm_sh lg (q - 1))) : ∀ e s n, s + e + 1 = q → e < n → wX_discardOldestEntry_2 post (nI m) (nI lc) (nI q) fs ti ru un ic pr n (nI (s + 1)) P D C B O M bo bt rl en ov mi wo la re rt mk (rm_sh lg s) := by
  intro e
  induction e with
  | zero =>
    intro s n h1 h2
    obtain ⟨n, rfl⟩ : ∃ k, n = k + 1 := ⟨n - 1, by omega⟩
    have e1 : q = s + 1 := by omega
    subst e1
    rw [wX_discardOldestEntry_2]
    exact br_t (nI_le (Nat.le_refl _) (by omega)) (nm_r (nI_pred s) hp)
  | succ e ih =>
    intro s n h1 h2
    obtain ⟨n, rfl⟩ : ∃ k, n = k + 1 := ⟨n - 1, by omega⟩
    have c1 : (nI (s + 1)).toNatClampNeg = s + 1 := nI_clamp (by omega)
    have c2 : (nI (s + 1) - 1).toNatClampNeg = s := by
      rw [nI_pred]
      exact nI_clamp (by omega)
    have i1 : vp_in (nI (s + 1)) 32 := vp_in_nI (by omega) (by omega)
    have i2 : vp_in (nI (s + 1) - 1) 32 := by
      rw [nI_pred]
      exact vp_in_nI (by omega) (by omega)
    rw [wX_discardOldestEntry_2]
    exact br_f (nI_ge (by omega) (by omega)) ⟨i1, i2, nm_r (e' := rm_sh lg (s + 1)) (by rw [c1, c2]; exact rm_sh_s lg s) (nm_r (nI_1 (s + 1)) (ih (s + 1) n (by omega) (by omega)))⟩
theorem rm_xap15 {post : SX → Prop} {q : Nat} {x : Int32} (hq : q < 32) (hp : post ((nI m), (nI lc), nI (q + 1), fs, ti, ru, un, ic, pr, P, D, C, B, O, M, bo, bt, rl, en, ov, mi, wo, la, re, rt, mk, upd lg q x)) : wX_appendToLog_15 post x (nI m) (nI lc) (nI q) fs ti ru un ic pr P D C B O M bo bt rl en ov mi wo la re rt mk lg := by
  have cq : (nI q).toNatClampNeg = q := nI_clamp (by omega)
  unfold wX_appendToLog_15
  rw [cq]
  exact ⟨vp_in_nI hq (by omega), nm_e (nm_r (nI_1 q) hp)⟩
theorem rm_xap {post : SX → Prop} {q : Nat} {x : Int32} (hl : 8 ≤ lc) (hl2 : lc ≤ 32) (hq : q ≤ lc) (hp : post ((nI m), (nI lc), nI (rm_ln lc q), fs, ti, ru, un, ic, pr, P, D, C, B, O, M, bo, bt, rl, en, ov, mi, wo, la, re, rt, mk, rm_lg lg lc q x)) : wpX_appendToLog post ((nI m), (nI lc), nI q, fs, ti, ru, un, ic, pr, P, D, C, B, O, M, bo, bt, rl, en, ov, mi, wo, la, re, rt, mk, lg) x := by
  unfold wpX_appendToLog
  dsimp only
  by_cases z : q < lc
  · have e1 : rm_ln lc q = q + 1 := if_pos z
    have e2 : rm_lg lg lc q x = upd lg q x := if_pos z
    rw [e1, e2] at hp
    exact br_t (nI_lt z (by omega)) (rm_xap15 (by omega) hp)
  · have e0 : q = lc := by omega
    have e1 : rm_ln lc q = lc - 1 + 1 := (if_neg z).trans (by omega)
    have e2 : rm_lg lg lc q x = upd (rm_sh lg (lc - 1)) (lc - 1) x := if_neg z
    rw [e1, e2] at hp
    subst e0
    have H := rm_xdo2 (lc := q) (lg := lg) (fs := fs) (ti := ti) (ru := ru) (un := un) (ic := ic) (pr := pr) (m := m) (P := P) (D := D) (C := C) (B := B) (O := O) (M := M) (bo := bo) (bt := bt) (rl := rl) (en := en) (ov := ov) (mi := mi) (wo := wo) (la := la) (re := re) (rt := rt) (mk := mk) (q := q) hl2 (post := fun u => match u with | (a1, a2, a3, a4, a5, a6, a7, a8, a9, b1, b2, b3, b4, b5, b6, b7, b8, b9, c1, c2, c3, c4, c5, c6, c7, c8, c9) => wX_appendToLog_15 post x a1 a2 a3 a4 a5 a6 a7 a8 a9 b1 b2 b3 b4 b5 b6 b7 b8 b9 c1 c2 c3 c4 c5 c6 c7 c8 c9) (rm_xap15 (by omega) hp) (q - 1) 0 q (by omega) (by omega)
    rw [rm_sh_0] at H
    exact br_f (nI_nlt (Nat.le_refl _) (by omega)) ⟨q, H⟩
end
