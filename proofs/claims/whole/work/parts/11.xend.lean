/-! the component's tick, its end -/
section
variable {m lc q : Nat} {fs ti ru un ic pr : Int32} {P Q U D C B O M bo bt rl en ov mi wo la re rt mk lg : Nat → Int32}
theorem rm_x99 {post : SX → Prop} {x : Int32} (hl : 8 ≤ lc) (hl2 : lc ≤ 32) (hq : q ≤ lc) (hp : post ((nI m), (nI lc), nI (rm_ln lc q), fs, ti, ru, un, ic, pr, P, D, C, B, O, M, bo, bt, rl, en, ov, mi, wo, la, re, rt, mk, rm_lg lg lc q x)) : wX_endJob_99 post x (nI m) (nI lc) (nI q) fs ti ru un ic pr P D C B O M bo bt rl en ov mi wo la re rt mk lg := by
  unfold wX_endJob_99
  exact rm_xap hl hl2 hq hp
theorem rm_x75 {post : SX → Prop} {b : Nat} {r x : Int32} (hb : b < 8) (hl : 8 ≤ lc) (hl2 : lc ≤ 32) (hq : q ≤ lc) (hp : post ((nI m), (nI lc), nI (rm_ln lc q), fs, ti, ru, un, ic, pr, P, D, C, B, O, M, bo, bt, rl, en, ov, mi, rm_wo wo b r, upd la b r, re, rt, mk, rm_lg lg lc q x)) : wX_endJob_75 post (nI b) r x (nI m) (nI lc) (nI q) fs ti ru un ic pr P D C B O M bo bt rl en ov mi wo la re rt mk lg := by
  have cb : (nI b).toNatClampNeg = b := nI_clamp (by omega)
  have ib : vp_in (nI b) 8 := vp_in_nI hb (by omega)
  unfold wX_endJob_75
  rw [cb]
  by_cases z : r ≤ wo b
  · have e1 : rm_wo wo b r = wo := if_pos z
    rw [e1] at hp
    exact ⟨ib, nm_e ⟨ib, br_t z (rm_x99 hl hl2 hq hp)⟩⟩
  · have e1 : rm_wo wo b r = upd wo b r := if_neg z
    rw [e1] at hp
    exact ⟨ib, nm_e ⟨ib, br_f z ⟨ib, nm_e (rm_x99 hl hl2 hq hp)⟩⟩⟩
theorem rm_x55 {post : SX → Prop} {b : Nat} {r x : Int32} (hb : b < 8) (hl : 8 ≤ lc) (hl2 : lc ≤ 32) (hq : q ≤ lc) (hp : post ((nI m), (nI lc), nI (rm_ln lc q), fs, ti, ru, un, ic, pr, P, D, C, B, O, M, bo, bt, rl, en, ov, rm_ms D mi b r, rm_wo wo b r, upd la b r, re, rt, mk, rm_lg lg lc q x)) : wX_endJob_55 post (nI b) r x (nI m) (nI lc) (nI q) fs ti ru un ic pr P D C B O M bo bt rl en ov mi wo la re rt mk lg := by
  have cb : (nI b).toNatClampNeg = b := nI_clamp (by omega)
  have ib : vp_in (nI b) 8 := vp_in_nI hb (by omega)
  unfold wX_endJob_55
  rw [cb]
  by_cases z : r ≤ D b
  · have e1 : rm_ms D mi b r = mi := if_pos z
    rw [e1] at hp
    exact ⟨ib, br_t z (rm_x75 hb hl hl2 hq hp)⟩
  · have e1 : rm_ms D mi b r = upd mi b (mi b + 1) := if_neg z
    rw [e1] at hp
    exact ⟨ib, br_f z ⟨ib, ib, nm_e (rm_x75 hb hl hl2 hq hp)⟩⟩
theorem rm_xend {post : SX → Prop} {b : Nat} (hb : b < 8) (hl : 8 ≤ lc) (hl2 : lc ≤ 32) (hq : q ≤ lc) (hp : post ((nI m), (nI lc), nI (rm_ln lc q), fs, ti, ru, un, ic, pr, P, D, C, B, O, M, bo, bt, rl, upd en b (en b + 1), rm_ov mk ov b, rm_ms D mi b (ti - rt b), rm_wo wo b (ti - rt b), upd la b (ti - rt b), re, rt, mk, rm_lg lg lc q (rm_ent mk b (ti - rt b)))) : wpX_endJob post ((nI m), (nI lc), nI q, fs, ti, ru, un, ic, pr, P, D, C, B, O, M, bo, bt, rl, en, ov, mi, wo, la, re, rt, mk, lg) (nI b) := by
  have cb : (nI b).toNatClampNeg = b := nI_clamp (by omega)
  have ib : vp_in (nI b) 8 := vp_in_nI hb (by omega)
  unfold wpX_endJob
  dsimp only
  rw [cb]
  by_cases z : mk b = 0
  · have e1 : rm_ov mk ov b = ov := if_pos z
    have e2 : rm_ent mk b (ti - rt b) = nI b * 1024 + (ti - rt b) := if_pos z
    rw [e1, e2] at hp
    exact ⟨ib, nm_e (nm_e ⟨ib, ib, nm_e ⟨ib, br_t z (rm_x55 hb hl hl2 hq hp)⟩⟩)⟩
  · have e1 : rm_ov mk ov b = upd ov b (ov b + 1) := if_neg z
    have e2 : rm_ent mk b (ti - rt b) = nI b * 1024 + (ti - rt b) + 512 := if_neg z
    rw [e1, e2] at hp
    exact ⟨ib, nm_e (nm_e ⟨ib, ib, nm_e ⟨ib, br_f z ⟨ib, ib, nm_e (nm_e (rm_x55 hb hl hl2 hq hp))⟩⟩⟩)⟩
theorem rm_xexe_e {post : SX → Prop} {b : Nat} (hb : b < 8) (hl : 8 ≤ lc) (hl2 : lc ≤ 32) (hq : q ≤ lc) (hz : re b - 1 = 0) (hp : post ((nI m), (nI lc), nI (rm_ln lc q), fs, ti + 1, ru, -1, ic, pr, P, D, C, B, O, M, bo, bt, rl, upd en b (en b + 1), rm_ov mk ov b, rm_ms D mi b (ti + 1 - rt b), rm_wo wo b (ti + 1 - rt b), upd la b (ti + 1 - rt b), upd re b (re b - 1), rt, mk, rm_lg lg lc q (rm_ent mk b (ti + 1 - rt b)))) : wpX_executeJob post ((nI m), (nI lc), nI q, fs, ti, ru, un, ic, pr, P, D, C, B, O, M, bo, bt, rl, en, ov, mi, wo, la, re, rt, mk, lg) (nI b) := by
  have cb : (nI b).toNatClampNeg = b := nI_clamp (by omega)
  have ib : vp_in (nI b) 8 := vp_in_nI hb (by omega)
  unfold wpX_executeJob
  dsimp only
  rw [cb]
  exact ⟨ib, ib, nm_e (nm_e ⟨ib, br_t (pk_us.trans hz) (rm_xend hb hl hl2 hq hp)⟩)⟩
theorem rm_xexe_c {post : SX → Prop} {b : Nat} (hb : b < 8) (hz : ¬ re b - 1 = 0) (hp : post ((nI m), (nI lc), nI q, fs, ti + 1, ru, nI b, ic, pr, P, D, C, B, O, M, bo, bt, rl, en, ov, mi, wo, la, upd re b (re b - 1), rt, mk, lg)) : wpX_executeJob post ((nI m), (nI lc), nI q, fs, ti, ru, un, ic, pr, P, D, C, B, O, M, bo, bt, rl, en, ov, mi, wo, la, re, rt, mk, lg) (nI b) := by
  have cb : (nI b).toNatClampNeg = b := nI_clamp (by omega)
  have ib : vp_in (nI b) 8 := vp_in_nI hb (by omega)
  unfold wpX_executeJob
  dsimp only
  rw [cb]
  exact ⟨ib, ib, nm_e (nm_e ⟨ib, br_f (fun z => hz (pk_us.symm.trans z)) hp⟩)⟩
end
