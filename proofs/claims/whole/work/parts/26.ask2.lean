theorem i_vc_quote {k : Nat} {u : SX} {v : SY} (I : i_Rel k u v) (hk : k + 4 ≤ 2048) (v1 : Int32) (v2 : Int32) : wpX_quote (fun r u' => wpY_quote (fun r' v' => r' = r ∧ i_Rel (k + 4) u' v') v v1 v2) u v1 v2 := by
  have R := i_up I
  obtain ⟨now, cc, bc, nc, fr, tt, st, en, ra, de, so, ta, sz, hc, oc, ob, CA, TA, li, RT, HI, HX, HB, wn, wr, wx, wc, wb, bC, bB, SK, HY, HZ, tr, tb, no, ti, ne, bO, bE, bl, ba, be, bA, e1, e2, h1, I⟩ := I
  subst e1 e2
  have hnow := I.1
  unfold wpX_quote wpY_quote
  dsimp only
  rcases cn_ends (now := now) (cc := cc) (bc := bc) (be := be) (bA := bA) (fr := fr) (tt := tt) (st := st) (en := en) (ra := ra) (de := de) (so := so) (ta := ta) (sz := sz) (hc := hc) (CA := CA) (li := li) (SK := SK) (HY := HY) (HZ := HZ) (tr := tr) (tb := tb) (no := no) (ti := ti) (ne := ne) (bO := bO) (bE := bE) v1 with ⟨e, he, hne, rfl, fx, fy⟩ | ⟨fx, fy⟩
  · have d1 : nI e / 6 = nI (e / 6) := cn_d6 (by omega)
    have d2 : nI e - nI e / 6 * 6 = nI (e % 6) := cn_r6 (by omega)
    rcases cn_size (now := now) (cc := cc) (bc := bc) (be := be) (bA := bA) (fr := fr) (tt := tt) (st := st) (en := en) (ra := ra) (de := de) (so := so) (ta := ta) (sz := sz) (hc := hc) (CA := CA) (li := li) (SK := SK) (HY := HY) (HZ := HZ) (tr := tr) (tb := tb) (no := no) (ti := ti) (ne := ne) (bO := bO) (bE := bE) v2 with ⟨z, hz1, hz2, rfl, sx, sy⟩ | ⟨sx, sy⟩
    · obtain ⟨wn1, wr1, wx1, wc1, wb1, bl1, ba1, bC1, bB1, tr1, tb1, no1, ti1, ne1, be1, bA1, bO1, bE1, f, g⟩ := cn_findXY (li := li) (HI := HI) I (node := e / 6) (goal := e % 6) (z := z) (time := now) (by omega) (by omega) hne hz1 hz2 (by omega) wn wr wx wc wb bl ba bC bB tr tb no ti ne be bA bO bE
      rcases g with ⟨g1, g2⟩ | ⟨g1, ga, g2⟩
      · exact fx _ (br_f (by decide) (sx _ (br_f (by decide) ⟨cn_n6, cn_n6, f _ _ _ _ _ d1 d2 rfl rfl (br_t g1 (fy _ (br_t rfl (sy _ (br_t rfl ⟨cn_n6, cn_n6, g2 _ _ _ _ _ d1 rfl d2 rfl (br_t rfl ⟨rfl, cn_mk (by omega) I⟩)⟩)))))⟩)))
      · exact fx _ (br_f (by decide) (sx _ (br_f (by decide) ⟨cn_n6, cn_n6, f _ _ _ _ _ d1 d2 rfl rfl (br_f g1 (fy _ (br_t rfl (sy _ (br_t rfl ⟨cn_n6, cn_n6, g2 _ _ _ _ _ d1 rfl d2 rfl (br_f (by decide) ⟨ga, cn_mk (by omega) I⟩)⟩)))))⟩)))
    · exact fx _ (br_f (by decide) (sx _ (br_t rfl (fy _ (br_t rfl (sy _ (br_f (by decide) ⟨rfl, R⟩)))))))
  · exact fx _ (br_t rfl (fy _ (br_f (by decide) ⟨rfl, R⟩)))
theorem i_vc_reach {k : Nat} {u : SX} {v : SY} (I : i_Rel k u v) (hk : k + 4 ≤ 2048) (v1 : Int32) (v2 : Int32) (v3 : Int32) : wpX_reach (fun r u' => wpY_reach (fun r' v' => r' = r ∧ i_Rel (k + 4) u' v') v v1 v2 v3) u v1 v2 v3 := by
  have R := i_up I
  obtain ⟨now, cc, bc, nc, fr, tt, st, en, ra, de, so, ta, sz, hc, oc, ob, CA, TA, li, RT, HI, HX, HB, wn, wr, wx, wc, wb, bC, bB, SK, HY, HZ, tr, tb, no, ti, ne, bO, bE, bl, ba, be, bA, e1, e2, h1, I⟩ := I
  subst e1 e2
  rcases pk_ix v1 (n := 6) (by omega) with h | h | ⟨node, hn, rfl⟩
  · exact br_t h (br_t h ⟨rfl, R⟩)
  · obtain ⟨q1, q2, q3⟩ := cn_geN (b := 5) (by omega) (by omega) (by omega) h
    exact br_f q1 (br_t h (br_f q1 (br_t q2 ⟨rfl, R⟩)))
  · have q0 : ¬ nI node < 0 := nI_pos (by omega)
    have q1 : ¬ (6 : Int32) ≤ nI node := nI_ge (b := 6) hn (by decide)
    have q2 : ¬ (5 : Int32) < nI node := nI_nlt (a := 5) (by omega) (by omega)
    rcases cn_size (now := now) (cc := cc) (bc := bc) (be := be) (bA := bA) (fr := fr) (tt := tt) (st := st) (en := en) (ra := ra) (de := de) (so := so) (ta := ta) (sz := sz) (hc := hc) (CA := CA) (li := li) (SK := SK) (HY := HY) (HZ := HZ) (tr := tr) (tb := tb) (no := no) (ti := ti) (ne := ne) (bO := bO) (bE := bE) v2 with ⟨z, hz1, hz2, rfl, sx, sy⟩ | ⟨sx, sy⟩
    · obtain ⟨set', wn', wr', wx', wc', wb', bl', ba', bC', bB', tr', tb', no', ti', ne', be', bA', bO', bE', f, g⟩ := cn_reach (li := li) (HI := HI) I hn hz1 hz2 v3 6 0 ((1 : Int32) <<< (nI node &&& 31)) wn wr wx wc wb bl ba bC bB tr tb no ti ne be bA bO bE (by omega)
      exact br_f q0 (br_f q1 (sx _ (br_f (by decide) (nm_e ⟨7, f _ (br_f q0 (br_f q2 (sy _ (br_t rfl (nm_e ⟨7, g _ ⟨rfl, cn_mk (by omega) I⟩⟩)))))⟩))))
    · exact br_f q0 (br_f q1 (sx _ (br_t rfl (br_f q0 (br_f q2 (sy _ (br_f (by decide) ⟨rfl, R⟩)))))))
theorem i_vc_latest {k : Nat} {u : SX} {v : SY} (I : i_Rel k u v) (hk : k + 4 ≤ 2048) (v1 : Int32) (v2 : Int32) (v3 : Int32) : wpX_latest (fun r u' => wpY_latest (fun r' v' => r' = r ∧ i_Rel (k + 4) u' v') v v1 v2 v3) u v1 v2 v3 := by
  have R := i_up I
  obtain ⟨now, cc, bc, nc, fr, tt, st, en, ra, de, so, ta, sz, hc, oc, ob, CA, TA, li, RT, HI, HX, HB, wn, wr, wx, wc, wb, bC, bB, SK, HY, HZ, tr, tb, no, ti, ne, bO, bE, bl, ba, be, bA, e1, e2, h1, I⟩ := I
  subst e1 e2
  unfold wpX_latest wpY_latest
  dsimp only
  rcases cn_ends (now := now) (cc := cc) (bc := bc) (be := be) (bA := bA) (fr := fr) (tt := tt) (st := st) (en := en) (ra := ra) (de := de) (so := so) (ta := ta) (sz := sz) (hc := hc) (CA := CA) (li := li) (SK := SK) (HY := HY) (HZ := HZ) (tr := tr) (tb := tb) (no := no) (ti := ti) (ne := ne) (bO := bO) (bE := bE) v1 with ⟨e, he, hne, rfl, fx, fy⟩ | ⟨fx, fy⟩
  · rcases cn_size (now := now) (cc := cc) (bc := bc) (be := be) (bA := bA) (fr := fr) (tt := tt) (st := st) (en := en) (ra := ra) (de := de) (so := so) (ta := ta) (sz := sz) (hc := hc) (CA := CA) (li := li) (SK := SK) (HY := HY) (HZ := HZ) (tr := tr) (tb := tb) (no := no) (ti := ti) (ne := ne) (bO := bO) (bE := bE) v2 with ⟨z, hz1, hz2, rfl, sx, sy⟩ | ⟨sx, sy⟩
    · obtain ⟨res, wn', wr', wx', wc', wb', bl', ba', bC', bB', tr', tb', no', ti', ne', be', bA', bO', bE', f, g⟩ := cn_late (li := li) (HI := HI) I he hne hz1 hz2 v3 101 100 wn wr wx wc wb bl ba bC bB tr tb no ti ne be bA bO bE (by omega) (fun h => by omega) (fun _ => rfl)
      exact fx _ (br_f (by decide) (sx _ (br_f (by decide) ⟨102, f _ (fy _ (br_t rfl (sy _ (br_t rfl ⟨102, g _ ⟨rfl, cn_mk (by omega) I⟩⟩))))⟩)))
    · exact fx _ (br_f (by decide) (sx _ (br_t rfl (fy _ (br_t rfl (sy _ (br_f (by decide) ⟨rfl, R⟩)))))))
  · exact fx _ (br_t rfl (fy _ (br_f (by decide) ⟨rfl, R⟩)))
