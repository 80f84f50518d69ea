/-! one tick on both sides -/
section
variable {m lc n : Nat} {fn fs ti ru un ic pr : Int32} {P Q U D C B O M bo bt rl en ov mi wo la re rt mk lg : Nat → Int32}
theorem rm_xt_i (hA : rm_A m P Q U D C B M) (hm : m ≤ 8) (hR : rm_R P re) {post : SX → Prop} (hn : rm_pk P (rm_re P O C M re ti 8) 8 = none) (hp : post ((nI m), (nI lc), fn, fs, ti + 1, -1, rm_uf P O re ti un 8, ic + 1, pr, P, D, C, B, O, M, bo, bt, rm_rl P O rl ti 8, en, ov, rm_mi P O re mi ti 8, wo, la, rm_re P O C M re ti 8, rm_rt P O rt ti 8, rm_mk P O C M mk ti 8, lg)) : wpX_runOneTick post ((nI m), (nI lc), fn, fs, ti, ru, un, ic, pr, P, D, C, B, O, M, bo, bt, rl, en, ov, mi, wo, la, re, rt, mk, lg) := by
  have hR' : rm_R P (rm_re P O C M re ti 8) := rm_R_rel hA hR
  unfold wpX_runOneTick
  dsimp only
  refine rm_xdj hA hm ?_
  dsimp only
  refine rm_xpk hm ?_
  rw [rm_pk_8 hA hm hR', hn]
  exact br_t rfl (nm_e (nm_e hp))
theorem rm_xt_s (hA : rm_A m P Q U D C B M) (hm : m ≤ 8) (hR : rm_R P re) {post : SX → Prop} {b : Nat} (hn : rm_pk P (rm_re P O C M re ti 8) 8 = some b) (hb : b < 8) (hp : wpX_executeJob post ((nI m), (nI lc), fn, fs, ti, nI b, rm_uf P O re ti un 8, ic, rm_pr (rm_uf P O re ti un 8) b pr, P, D, C, B, O, M, bo, bt, rm_rl P O rl ti 8, en, ov, rm_mi P O re mi ti 8, wo, la, rm_re P O C M re ti 8, rm_rt P O rt ti 8, rm_mk P O C M mk ti 8, lg) (nI b)) : wpX_runOneTick post ((nI m), (nI lc), fn, fs, ti, ru, un, ic, pr, P, D, C, B, O, M, bo, bt, rl, en, ov, mi, wo, la, re, rt, mk, lg) := by
  have hR' : rm_R P (rm_re P O C M re ti 8) := rm_R_rel hA hR
  unfold wpX_runOneTick
  dsimp only
  refine rm_xdj hA hm ?_
  dsimp only
  refine rm_xpk hm ?_
  rw [rm_pk_8 hA hm hR', hn]
  refine br_f (rm_ne1 (by omega)) ?_
  by_cases z : (rm_uf P O re ti un 8) = -1
  · have e : rm_pr (rm_uf P O re ti un 8) b pr = pr := if_pos z
    rw [e] at hp
    exact br_t z hp
  · refine br_f z ?_
    by_cases y : (rm_uf P O re ti un 8) = nI b
    · have e : rm_pr (rm_uf P O re ti un 8) b pr = pr := (if_neg z).trans (if_pos y)
      rw [e] at hp
      exact br_t y hp
    · have e : rm_pr (rm_uf P O re ti un 8) b pr = pr + 1 := (if_neg z).trans (if_neg y)
      rw [e] at hp
      exact br_f y (nm_e hp)
end
theorem rm_ln_le {lc n : Nat} (h : n ≤ lc) : rm_ln lc n ≤ lc := by
  unfold rm_ln
  by_cases z : n < lc
  · rw [if_pos z]
    omega
  · rw [if_neg z]
    omega
theorem rm_tick {u : SX} {v : SY} (I : rm_Rel u v) (hs : u.2.2.2.1 = 1) : ∃ u' v', rm_Rel u' v' ∧ u'.2.2.2.1 = 1 ∧ (∀ post, post u' → wpX_runOneTick post u) ∧ (∀ post, post v' → wpY_tick post v) := by
  obtain ⟨m, lc, n, fs, ti, ru, un, fj, ic, pr, P, Q, U, D, C, B, O, M, bo, bt, rl, en, ov, mi, wo, la, re, rt, mk, lg, rfl, rfl, hN, hfs, hA, hSt, hR, hJ, hZ⟩ := I
  have hs' : fs = 1 := hs
  subst hs'
  have hm : m ≤ 8 := hN.2.1
  have hR' : rm_R P (rm_re P O C M re ti 8) := rm_R_rel hA hR
  have hJ' : rm_Jr ru (rm_uf P O re ti un 8) fj (rm_rl P O rl ti 8) (rm_re P O C M re ti 8) := rm_J_rel hJ
  cases hpk : rm_pk P (rm_re P O C M re ti 8) 8 with
  | none =>
    refine ⟨((nI m), (nI lc), nI n, 1, ti + 1, -1, rm_uf P O re ti un 8, ic + 1, pr, P, D, C, B, O, M, bo, bt, rm_rl P O rl ti 8, en, ov, rm_mi P O re mi ti 8, wo, la, rm_re P O C M re ti 8, rm_rt P O rt ti 8, rm_mk P O C M mk ti 8, lg), ((nI m), (nI lc), 1, ti + 1, -1, fj, ic + 1, pr, nI n, U, Q, D, C, B, O, M, rm_rl P O rl ti 8, en, ov, rm_mi P O re mi ti 8, wo, la, rm_re P O C M re ti 8, rm_rt P O rt ti 8, rm_mk P O C M mk ti 8, lg), ⟨m, lc, n, 1, (ti + 1), (-1), (rm_uf P O re ti un 8), fj, (ic + 1), pr, P, Q, U, D, C, B, O, M, bo, bt, (rm_rl P O rl ti 8), en, ov, (rm_mi P O re mi ti 8), wo, la, (rm_re P O C M re ti 8), (rm_rt P O rt ti 8), (rm_mk P O C M mk ti 8), lg, rfl, rfl, hN, Or.inr rfl, hA, hSt, hR', Or.inl ⟨rfl, rm_Jr_idle hJ' (rm_pk_none 8 hpk)⟩, fun z => absurd z (by decide)⟩, rfl, fun post hp => rm_xt_i hA hm hR hpk hp, fun post hp => rm_ytick hA ⟨9, rm_y158 hA hR' (fun k => ?_) 8 0 9 (by omega) (by omega)⟩⟩
    rw [hpk]
    exact rm_y158_i hp
  | some b =>
    have hb := rm_pk_some 8 b hpk
    have hJ2 := rm_J_ex (re := (rm_re P O C M re ti 8)) (rl := (rm_rl P O rl ti 8)) hb.1 hb.2
    have hR2 := rm_R_ex hR' hb.2
    by_cases hz : (rm_re P O C M re ti 8) b - 1 = 0
    · rw [if_pos hz] at hJ2
      refine ⟨((nI m), (nI lc), nI (rm_ln lc n), 1, ti + 1, nI b, -1, ic, rm_pr (rm_uf P O re ti un 8) b pr, P, D, C, B, O, M, bo, bt, (rm_rl P O rl ti 8), upd en b (en b + 1), rm_ov (rm_mk P O C M mk ti 8) ov b, rm_ms D (rm_mi P O re mi ti 8) b (ti + 1 - (rm_rt P O rt ti 8) b), rm_wo wo b (ti + 1 - (rm_rt P O rt ti 8) b), upd la b (ti + 1 - (rm_rt P O rt ti 8) b), upd (rm_re P O C M re ti 8) b ((rm_re P O C M re ti 8) b - 1), (rm_rt P O rt ti 8), (rm_mk P O C M mk ti 8), rm_lg lg lc n (rm_ent (rm_mk P O C M mk ti 8) b (ti + 1 - (rm_rt P O rt ti 8) b))), ((nI m), (nI lc), 1, ti + 1, nI b, (rm_rl P O rl ti 8) b, ic, rm_pr (rm_uf P O re ti un 8) b pr, nI (rm_ln lc n), U, Q, D, C, B, O, M, (rm_rl P O rl ti 8), upd en b (en b + 1), rm_ov (rm_mk P O C M mk ti 8) ov b, rm_ms D (rm_mi P O re mi ti 8) b (ti + 1 - (rm_rt P O rt ti 8) b), rm_wo wo b (ti + 1 - (rm_rt P O rt ti 8) b), upd la b (ti + 1 - (rm_rt P O rt ti 8) b), upd (rm_re P O C M re ti 8) b ((rm_re P O C M re ti 8) b - 1), (rm_rt P O rt ti 8), (rm_mk P O C M mk ti 8), rm_lg lg lc n (rm_ent (rm_mk P O C M mk ti 8) b (ti + 1 - (rm_rt P O rt ti 8) b))), ⟨m, lc, (rm_ln lc n), 1, (ti + 1), (nI b), (-1), (rm_rl P O rl ti 8) b, ic, (rm_pr (rm_uf P O re ti un 8) b pr), P, Q, U, D, C, B, O, M, bo, bt, (rm_rl P O rl ti 8), (upd en b (en b + 1)), (rm_ov (rm_mk P O C M mk ti 8) ov b), (rm_ms D (rm_mi P O re mi ti 8) b (ti + 1 - (rm_rt P O rt ti 8) b)), (rm_wo wo b (ti + 1 - (rm_rt P O rt ti 8) b)), (upd la b (ti + 1 - (rm_rt P O rt ti 8) b)), (upd (rm_re P O C M re ti 8) b ((rm_re P O C M re ti 8) b - 1)), (rm_rt P O rt ti 8), (rm_mk P O C M mk ti 8), (rm_lg lg lc n (rm_ent (rm_mk P O C M mk ti 8) b (ti + 1 - (rm_rt P O rt ti 8) b))), rfl, rfl, ⟨hN.1, hm, hN.2.2.1, hN.2.2.2.1, rm_ln_le hN.2.2.2.2⟩, Or.inr rfl, hA, hSt, hR2, hJ2, fun z => absurd z (by decide)⟩, rfl, fun post hp => rm_xt_s hA hm hR hpk hb.1 (rm_xexe_e hb.1 hN.2.2.1 hN.2.2.2.1 hN.2.2.2.2 hz hp), fun post hp => rm_ytick hA ⟨9, rm_y158 hA hR' (fun k => ?_) 8 0 9 (by omega) (by omega)⟩⟩
      rw [hpk]
      exact rm_y158_e hb.1 hJ' (rm_y302_e hb.1 hN.2.2.1 hN.2.2.2.1 hN.2.2.2.2 hz hp)
    · rw [if_neg hz] at hJ2
      refine ⟨((nI m), (nI lc), nI n, 1, ti + 1, nI b, nI b, ic, rm_pr (rm_uf P O re ti un 8) b pr, P, D, C, B, O, M, bo, bt, (rm_rl P O rl ti 8), en, ov, (rm_mi P O re mi ti 8), wo, la, upd (rm_re P O C M re ti 8) b ((rm_re P O C M re ti 8) b - 1), (rm_rt P O rt ti 8), (rm_mk P O C M mk ti 8), lg), ((nI m), (nI lc), 1, ti + 1, nI b, (rm_rl P O rl ti 8) b, ic, rm_pr (rm_uf P O re ti un 8) b pr, nI n, U, Q, D, C, B, O, M, (rm_rl P O rl ti 8), en, ov, (rm_mi P O re mi ti 8), wo, la, upd (rm_re P O C M re ti 8) b ((rm_re P O C M re ti 8) b - 1), (rm_rt P O rt ti 8), (rm_mk P O C M mk ti 8), lg), ⟨m, lc, n, 1, (ti + 1), (nI b), (nI b), (rm_rl P O rl ti 8) b, ic, (rm_pr (rm_uf P O re ti un 8) b pr), P, Q, U, D, C, B, O, M, bo, bt, (rm_rl P O rl ti 8), en, ov, (rm_mi P O re mi ti 8), wo, la, (upd (rm_re P O C M re ti 8) b ((rm_re P O C M re ti 8) b - 1)), (rm_rt P O rt ti 8), (rm_mk P O C M mk ti 8), lg, rfl, rfl, hN, Or.inr rfl, hA, hSt, hR2, hJ2, fun z => absurd z (by decide)⟩, rfl, fun post hp => rm_xt_s hA hm hR hpk hb.1 (rm_xexe_c hb.1 hz hp), fun post hp => rm_ytick hA ⟨9, rm_y158 hA hR' (fun k => ?_) 8 0 9 (by omega) (by omega)⟩⟩
      rw [hpk]
      exact rm_y158_e hb.1 hJ' (rm_y302_c hb.1 hz hp)
