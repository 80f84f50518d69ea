/-! the reference's tick -/
section
variable {m lc q : Nat} {fn fs ti ru fj ic pr : Int32} {P Q U D C B O M rl en ov mi wo la re rt mk lg : Nat → Int32}
theorem rm_yap61 {post : SY → Prop} {x : Int32} (hq : q < 32) (hp : post ((nI m), (nI lc), fs, ti, ru, fj, ic, pr, nI (q + 1), U, Q, D, C, B, O, M, rl, en, ov, mi, wo, la, re, rt, mk, upd lg q x)) : wY_appendLog_61 post x (nI m) (nI lc) fs ti ru fj ic pr (nI q) U Q D C B O M rl en ov mi wo la re rt mk lg := by
  have cq : (nI q).toNatClampNeg = q := nI_clamp (by omega)
  have h32 : ¬ (32 : Int32) ≤ nI q := nI_ge (b := 32) hq (by omega)
  unfold wY_appendLog_61
  rw [cq]
  exact br_f (nI_pos (by omega)) (br_f h32 ⟨vp_in_nI hq (by omega), nm_e (nm_r (nI_1 q) hp)⟩)
theorem rm_yap13 {post : SY → Prop} {x : Int32} (hl : 8 ≤ lc) (hl2 : lc ≤ 32) (hp : post ((nI m), (nI lc), fs, ti, ru, fj, ic, pr, nI lc, U, Q, D, C, B, O, M, rl, en, ov, mi, wo, la, re, rt, mk, upd (rm_sh lg (lc - 1)) (lc - 1) x)) : ∀ e s n, s + e + 1 = lc → e < n → wY_appendLog_13 post x (nI m) (nI lc) fs ti ru fj ic pr fn n (nI s) U Q D C B O M rl en ov mi wo la re rt mk (rm_sh lg s) := by
  intro e
  induction e with
  | zero =>
    intro s n h1 h2
    obtain ⟨n, rfl⟩ : ∃ k, n = k + 1 := ⟨n - 1, by omega⟩
    have e1 : lc = s + 1 := by omega
    subst e1
    have hc : nI (s + 1) ≤ nI s + 1 := by
      rw [nI_1]
      exact nI_le (Nat.le_refl _) (by omega)
    rw [wY_appendLog_13]
    refine br_t hc ?_
    unfold wY_appendLog_51
    exact nm_r (nI_pred s) (rm_yap61 (by omega) hp)
  | succ e ih =>
    intro s n h1 h2
    obtain ⟨n, rfl⟩ : ∃ k, n = k + 1 := ⟨n - 1, by omega⟩
    have c0 : (nI s).toNatClampNeg = s := nI_clamp (by omega)
    have c1 : (nI s + 1).toNatClampNeg = s + 1 := by
      rw [nI_1]
      exact nI_clamp (by omega)
    have i0 : vp_in (nI s) 32 := vp_in_nI (by omega) (by omega)
    have i1 : vp_in (nI s + 1) 32 := by
      rw [nI_1]
      exact vp_in_nI (by omega) (by omega)
    have hc : ¬ nI lc ≤ nI s + 1 := by
      rw [nI_1]
      exact nI_ge (by omega) (by omega)
    have h32 : ¬ (32 : Int32) ≤ nI s + 1 := by
      rw [nI_1]
      exact nI_ge (b := 32) (by omega) (by omega)
    rw [wY_appendLog_13]
    exact br_f hc (br_f h32 ⟨i1, i0, nm_r (e' := rm_sh lg (s + 1)) (by rw [c0, c1]; exact rm_sh_s lg s) (nm_r (nI_1 s) (ih (s + 1) n (by omega) (by omega)))⟩)
theorem rm_yap {post : SY → Prop} {x : Int32} (hl : 8 ≤ lc) (hl2 : lc ≤ 32) (hq : q ≤ lc) (hp : post ((nI m), (nI lc), fs, ti, ru, fj, ic, pr, nI (rm_ln lc q), U, Q, D, C, B, O, M, rl, en, ov, mi, wo, la, re, rt, mk, rm_lg lg lc q x)) : wpY_appendLog post ((nI m), (nI lc), fs, ti, ru, fj, ic, pr, nI q, U, Q, D, C, B, O, M, rl, en, ov, mi, wo, la, re, rt, mk, lg) x := by
  unfold wpY_appendLog
  dsimp only
  by_cases z : q < lc
  · have e1 : rm_ln lc q = q + 1 := if_pos z
    have e2 : rm_lg lg lc q x = upd lg q x := if_pos z
    rw [e1, e2] at hp
    exact br_t (nI_lt z (by omega)) (rm_yap61 (by omega) hp)
  · have e0 : q = lc := by omega
    have e1 : rm_ln lc q = lc := if_neg z
    have e2 : rm_lg lg lc q x = upd (rm_sh lg (lc - 1)) (lc - 1) x := if_neg z
    rw [e1, e2] at hp
    have H := rm_yap13 (fn := nI q) hl hl2 hp (lc - 1) 0 lc (by omega) (by omega)
    rw [rm_sh_0] at H
    exact br_f (nI_nlt (by omega) (by omega)) ⟨lc, H⟩
theorem rm_y455 {post : SY → Prop} {r z0 z1 : Int32} (hl : 8 ≤ lc) (hl2 : lc ≤ 32) (hq : q ≤ lc) (hp : post ((nI m), (nI lc), fs, ti, ru, fj, ic, pr, nI (rm_ln lc q), U, Q, D, C, B, O, M, rl, en, ov, mi, wo, la, re, rt, mk, rm_lg lg lc q (z1 + z0 + r))) : wY_tick_455 post r z0 z1 (nI m) (nI lc) fs ti ru fj ic pr (nI q) U Q D C B O M rl en ov mi wo la re rt mk lg := by
  unfold wY_tick_455
  exact rm_yap hl hl2 hq hp
theorem rm_ent_0 {b : Nat} {r : Int32} (z : mk b = 0) : nI b * 1024 + 0 + r = rm_ent mk b r := by
  have e : rm_ent mk b r = nI b * 1024 + r := if_pos z
  rw [e, Int32.add_zero]
theorem rm_ent_1 {b : Nat} {r : Int32} (z : ¬ mk b = 0) : nI b * 1024 + 512 + r = rm_ent mk b r := by
  have e : rm_ent mk b r = nI b * 1024 + r + 512 := if_neg z
  rw [e, Int32.add_assoc, Int32.add_comm 512 r, ← Int32.add_assoc]
theorem rm_y433 {post : SY → Prop} {b : Nat} {r : Int32} (hb : b < 8) (hl : 8 ≤ lc) (hl2 : lc ≤ 32) (hq : q ≤ lc) (hp : post ((nI m), (nI lc), fs, ti, ru, fj, ic, pr, nI (rm_ln lc q), U, Q, D, C, B, O, M, rl, en, ov, mi, wo, la, re, rt, mk, rm_lg lg lc q (rm_ent mk b r))) : wY_tick_433 post (nI b) r (nI m) (nI lc) fs ti ru fj ic pr (nI q) U Q D C B O M rl en ov mi wo la re rt mk lg := by
  have cb : (nI b).toNatClampNeg = b := nI_clamp (by omega)
  have ib : vp_in (nI b) 8 := vp_in_nI hb (by omega)
  unfold wY_tick_433
  rw [cb]
  by_cases z : mk b = 0
  · rw [← rm_ent_0 z] at hp
    exact ⟨ib, br_t z (rm_y455 hl hl2 hq hp)⟩
  · rw [← rm_ent_1 z] at hp
    exact ⟨ib, br_f z (rm_y455 hl hl2 hq hp)⟩
theorem rm_y406 {post : SY → Prop} {b : Nat} {r : Int32} (hb : b < 8) (hl : 8 ≤ lc) (hl2 : lc ≤ 32) (hq : q ≤ lc) (hp : post ((nI m), (nI lc), fs, ti, ru, fj, ic, pr, nI (rm_ln lc q), U, Q, D, C, B, O, M, rl, en, ov, mi, rm_wo wo b r, upd la b r, re, rt, mk, rm_lg lg lc q (rm_ent mk b r))) : wY_tick_406 post (nI b) r (nI m) (nI lc) fs ti ru fj ic pr (nI q) U Q D C B O M rl en ov mi wo la re rt mk lg := by
  have cb : (nI b).toNatClampNeg = b := nI_clamp (by omega)
  have ib : vp_in (nI b) 8 := vp_in_nI hb (by omega)
  unfold wY_tick_406
  rw [cb]
  by_cases z : r ≤ wo b
  · have e1 : rm_wo wo b r = wo := if_pos z
    rw [e1] at hp
    exact ⟨ib, nm_e ⟨ib, br_t z (rm_y433 hb hl hl2 hq hp)⟩⟩
  · have e1 : rm_wo wo b r = upd wo b r := if_neg z
    rw [e1] at hp
    exact ⟨ib, nm_e ⟨ib, br_f z ⟨ib, nm_e (rm_y433 hb hl hl2 hq hp)⟩⟩⟩
theorem rm_y385 {post : SY → Prop} {b : Nat} {r : Int32} (hb : b < 8) (hl : 8 ≤ lc) (hl2 : lc ≤ 32) (hq : q ≤ lc) (hp : post ((nI m), (nI lc), fs, ti, ru, fj, ic, pr, nI (rm_ln lc q), U, Q, D, C, B, O, M, rl, en, ov, rm_ms D mi b r, rm_wo wo b r, upd la b r, re, rt, mk, rm_lg lg lc q (rm_ent mk b r))) : wY_tick_385 post (nI b) r (nI m) (nI lc) fs ti ru fj ic pr (nI q) U Q D C B O M rl en ov mi wo la re rt mk lg := by
  have cb : (nI b).toNatClampNeg = b := nI_clamp (by omega)
  have ib : vp_in (nI b) 8 := vp_in_nI hb (by omega)
  unfold wY_tick_385
  rw [cb]
  by_cases z : r ≤ D b
  · have e1 : rm_ms D mi b r = mi := if_pos z
    rw [e1] at hp
    exact ⟨ib, br_t z (rm_y406 hb hl hl2 hq hp)⟩
  · have e1 : rm_ms D mi b r = upd mi b (mi b + 1) := if_neg z
    rw [e1] at hp
    exact ⟨ib, br_f z ⟨ib, ib, nm_e (rm_y406 hb hl hl2 hq hp)⟩⟩
theorem rm_y302_e {post : SY → Prop} {b : Nat} {t : Int32} (hb : b < 8) (hl : 8 ≤ lc) (hl2 : lc ≤ 32) (hq : q ≤ lc) (hz : re b - 1 = 0) (hp : post ((nI m), (nI lc), fs, t + 1, nI b, rl b, ic, pr, nI (rm_ln lc q), U, Q, D, C, B, O, M, rl, upd en b (en b + 1), rm_ov mk ov b, rm_ms D mi b (t + 1 - rt b), rm_wo wo b (t + 1 - rt b), upd la b (t + 1 - rt b), upd re b (re b - 1), rt, mk, rm_lg lg lc q (rm_ent mk b (t + 1 - rt b)))) : wY_tick_302 post t (nI b) (nI m) (nI lc) fs ti ru fj ic pr (nI q) U Q D C B O M rl en ov mi wo la re rt mk lg := by
  have cb : (nI b).toNatClampNeg = b := nI_clamp (by omega)
  have ib : vp_in (nI b) 8 := vp_in_nI hb (by omega)
  unfold wY_tick_302
  rw [cb]
  by_cases z : mk b = 0
  · have e1 : rm_ov mk ov b = ov := if_pos z
    rw [e1] at hp
    exact ⟨ib, ib, nm_e ⟨ib, nm_e (nm_e ⟨ib, br_t (pk_us.trans hz) ⟨ib, nm_e ⟨ib, ib, nm_e ⟨ib, br_t z (rm_y385 hb hl hl2 hq hp)⟩⟩⟩⟩)⟩⟩
  · have e1 : rm_ov mk ov b = upd ov b (ov b + 1) := if_neg z
    rw [e1] at hp
    exact ⟨ib, ib, nm_e ⟨ib, nm_e (nm_e ⟨ib, br_t (pk_us.trans hz) ⟨ib, nm_e ⟨ib, ib, nm_e ⟨ib, br_f z ⟨ib, ib, nm_e (rm_y385 hb hl hl2 hq hp)⟩⟩⟩⟩⟩)⟩⟩
theorem rm_y302_c {post : SY → Prop} {b : Nat} {t : Int32} (hb : b < 8) (hz : ¬ re b - 1 = 0) (hp : post ((nI m), (nI lc), fs, t + 1, nI b, rl b, ic, pr, fn, U, Q, D, C, B, O, M, rl, en, ov, mi, wo, la, upd re b (re b - 1), rt, mk, lg)) : wY_tick_302 post t (nI b) (nI m) (nI lc) fs ti ru fj ic pr fn U Q D C B O M rl en ov mi wo la re rt mk lg := by
  have cb : (nI b).toNatClampNeg = b := nI_clamp (by omega)
  have ib : vp_in (nI b) 8 := vp_in_nI hb (by omega)
  unfold wY_tick_302
  rw [cb]
  exact ⟨ib, ib, nm_e ⟨ib, nm_e (nm_e ⟨ib, br_f (fun z => hz (pk_us.symm.trans z)) hp⟩)⟩⟩
end
