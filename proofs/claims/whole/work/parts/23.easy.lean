section
variable {k now cc bc nc : Nat} {fr tt st en ra de so ta sz hc : Nat → Nat} {oc ob : Nat → Nat → Nat} {CA TA li RT HI HX HB wn wr wx wc wb bC bB SK HY HZ tr tb no ti ne bO bE : Nat → Int32} {bl ba be bA : Int32}
/-- a bundle's number: both sides take it alike -/
theorem cn_bun (hbc : bc ≤ 10) (x : Int32) : (∃ b, b < bc ∧ x = nI b ∧ (∀ post : Int32 → Prop, post 1 → wpX_isBundle post ((nI now), (nI cc), (nI bc), bl, ba, (cn_n fr), (cn_n tt), (cn_n st), (cn_n en), (cn_n ra), (cn_n de), CA, TA, (cn_n so), (cn_n ta), (cn_n sz), li, RT, HI, (cn_n hc), HX, HB, wn, wr, wx, wc, wb, bC, bB) x) ∧ (∀ post : Int32 → Prop, post 0 → wpY_badBundle post ((nI now), (nI cc), (nI bc), be, bA, (cn_n fr), (cn_n tt), (cn_n st), (cn_n en), (cn_n ra), (cn_n de), CA, (cn_n so), (cn_n ta), (cn_n sz), li, SK, (cn_n hc), HY, HZ, tr, tb, no, ti, ne, bO, bE) x)) ∨ ((∀ post : Int32 → Prop, post 0 → wpX_isBundle post ((nI now), (nI cc), (nI bc), bl, ba, (cn_n fr), (cn_n tt), (cn_n st), (cn_n en), (cn_n ra), (cn_n de), CA, TA, (cn_n so), (cn_n ta), (cn_n sz), li, RT, HI, (cn_n hc), HX, HB, wn, wr, wx, wc, wb, bC, bB) x) ∧ (∀ post : Int32 → Prop, post 1 → wpY_badBundle post ((nI now), (nI cc), (nI bc), be, bA, (cn_n fr), (cn_n tt), (cn_n st), (cn_n en), (cn_n ra), (cn_n de), CA, (cn_n so), (cn_n ta), (cn_n sz), li, SK, (cn_n hc), HY, HZ, tr, tb, no, ti, ne, bO, bE) x)) := by
  rcases pk_ix x (n := bc) (by omega) with h | h | ⟨b, hb, rfl⟩
  · exact Or.inr ⟨fun post p => br_t h p, fun post p => br_t h p⟩
  · have h0 : ¬ x < 0 := by
      have h1 := cn_leT (by omega) h
      have e0 : (0 : Int32).toInt = 0 := by decide
      rw [Int32.lt_iff_toInt_lt, e0]; omega
    exact Or.inr ⟨fun post p => br_f h0 (br_t h p), fun post p => br_f h0 (br_f (Int32.not_lt.mpr h) p)⟩
  · have h0 : ¬ nI b < 0 := nI_pos (by omega)
    exact Or.inl ⟨b, hb, rfl, fun post p => br_f h0 (br_f (nI_ge hb (by omega)) p), fun post p => br_f h0 (br_t (nI_lt hb (by omega)) p)⟩
end
theorem i_vc_time {k : Nat} {u : SX} {v : SY} (I : i_Rel k u v) (hk : k + 4 ≤ 2048) : wpX_time (fun r => wpY_time (fun r' => r' = r ∧ i_Rel (k + 4) u v) v) u := by
  have R := i_up I
  obtain ⟨now, cc, bc, nc, fr, tt, st, en, ra, de, so, ta, sz, hc, oc, ob, CA, TA, li, RT, HI, HX, HB, wn, wr, wx, wc, wb, bC, bB, SK, HY, HZ, tr, tb, no, ti, ne, bO, bE, bl, ba, be, bA, e1, e2, h1, I⟩ := I
  subst e1 e2
  exact ⟨rfl, R⟩
theorem i_vc_pass {k : Nat} {u : SX} {v : SY} (I : i_Rel k u v) (hk : k + 4 ≤ 2048) (v1 : Int32) : wpX_pass (fun r u' => wpY_pass (fun r' v' => r' = r ∧ i_Rel (k + 4) u' v') v v1) u v1 := by
  have R := i_up I
  obtain ⟨now, cc, bc, nc, fr, tt, st, en, ra, de, so, ta, sz, hc, oc, ob, CA, TA, li, RT, HI, HX, HB, wn, wr, wx, wc, wb, bC, bB, SK, HY, HZ, tr, tb, no, ti, ne, bO, bE, bl, ba, be, bA, e1, e2, h1, I⟩ := I
  subst e1 e2
  rcases pk_ix v1 (n := 201) (by omega) with h | h | ⟨e, he, rfl⟩
  · exact br_t h (br_t h ⟨rfl, R⟩)
  · obtain ⟨q1, q2, q3⟩ := cn_geN (b := 200) (by omega) (by omega) (by omega) h
    exact br_f q1 (br_f q3 (br_f q1 (br_f q3 ⟨rfl, R⟩)))
  · have q1 : ¬ nI e < 0 := nI_pos (by omega)
    have q2 : nI e ≤ 200 := nI_le (b := 200) (by omega) (by omega)
    obtain ⟨i1, i2⟩ := I
    exact br_f q1 (br_t q2 (nm_r (nI_add now e) (br_f q1 (br_t q2 (nm_r (nI_add now e) ⟨rfl, cn_mk (by omega) ⟨by omega, i2⟩⟩)))))
theorem i_vc_state {k : Nat} {u : SX} {v : SY} (I : i_Rel k u v) (hk : k + 4 ≤ 2048) (v1 : Int32) : wpX_state (fun r => wpY_state (fun r' => r' = r ∧ i_Rel (k + 4) u v) v v1) u v1 := by
  have R := i_up I
  obtain ⟨now, cc, bc, nc, fr, tt, st, en, ra, de, so, ta, sz, hc, oc, ob, CA, TA, li, RT, HI, HX, HB, wn, wr, wx, wc, wb, bC, bB, SK, HY, HZ, tr, tb, no, ti, ne, bO, bE, bl, ba, be, bA, e1, e2, h1, I⟩ := I
  subst e1 e2
  obtain ⟨i1, i2, i3, i4, i5, i6, i7, i8⟩ := I
  unfold wpX_state wpY_state
  dsimp only
  rcases cn_bun (now := now) (cc := cc) (fr := fr) (tt := tt) (st := st) (en := en) (ra := ra) (de := de) (so := so) (ta := ta) (sz := sz) (hc := hc) (CA := CA) (TA := TA) (li := li) (RT := RT) (HI := HI) (HX := HX) (HB := HB) (wn := wn) (wr := wr) (wx := wx) (wc := wc) (wb := wb) (bC := bC) (bB := bB) (SK := SK) (HY := HY) (HZ := HZ) (tr := tr) (tb := tb) (no := no) (ti := ti) (ne := ne) (bO := bO) (bE := bE) (bl := bl) (ba := ba) (be := be) (bA := bA) i3 v1 with ⟨b, hb, rfl, fx, fy⟩ | ⟨fx, fy⟩
  · have hvb : vp_in (nI b) 10 := vp_in_nI (by omega) (by omega)
    have cb : (nI b).toNatClampNeg = b := nI_clamp (by omega)
    obtain ⟨g1, g2, g3, g4, g5, g6, g7, g8⟩ := i6 b hb
    have hcm := cn_cm_le i2 i5 hb
    rcases i8 b hb trivial with ⟨z1, z2⟩ | ⟨z1, z2⟩
    · have hp : 0 < hc b := (g7 z2).2
      refine fx _ (br_f (by decide) ⟨hvb, br_f (by rw [cb, z2]; decide) (cx_lastC i2 i5 i3 hb g4 (fun h => by omega) (fun _ => ?_))⟩)
      by_cases hle : cn_cm ra de sz hc oc ob b ≤ now
      · refine br_t (nI_le hle (by omega)) (fy _ (br_t rfl ⟨hvb, br_t (by rw [cb, z1]) (cy_lastT i2 i5 i3 hb g4 (br_f (nI_nlt hle (by omega)) ⟨rfl, R⟩))⟩))
      · refine br_f (nI_ge (by omega) (by omega)) (fy _ (br_t rfl ⟨hvb, br_t (by rw [cb, z1]) (cy_lastT i2 i5 i3 hb g4 (br_t (nI_lt (by omega) (by omega)) ⟨rfl, R⟩))⟩))
    · exact fx _ (br_f (by decide) ⟨hvb, br_t (by rw [cb, z2]) (fy _ (br_t rfl ⟨hvb, br_f (by rw [cb, z1]; decide) ⟨rfl, R⟩⟩))⟩)
  · exact fx _ (br_t rfl (fy _ (br_f (by decide) ⟨rfl, R⟩)))
theorem i_vc_arrival {k : Nat} {u : SX} {v : SY} (I : i_Rel k u v) (hk : k + 4 ≤ 2048) (v1 : Int32) : wpX_arrival (fun r => wpY_arrival (fun r' => r' = r ∧ i_Rel (k + 4) u v) v v1) u v1 := by
  have R := i_up I
  obtain ⟨now, cc, bc, nc, fr, tt, st, en, ra, de, so, ta, sz, hc, oc, ob, CA, TA, li, RT, HI, HX, HB, wn, wr, wx, wc, wb, bC, bB, SK, HY, HZ, tr, tb, no, ti, ne, bO, bE, bl, ba, be, bA, e1, e2, h1, I⟩ := I
  subst e1 e2
  obtain ⟨i1, i2, i3, i4, i5, i6, i7, i8⟩ := I
  unfold wpX_arrival wpY_arrival
  dsimp only
  rcases cn_bun (now := now) (cc := cc) (fr := fr) (tt := tt) (st := st) (en := en) (ra := ra) (de := de) (so := so) (ta := ta) (sz := sz) (hc := hc) (CA := CA) (TA := TA) (li := li) (RT := RT) (HI := HI) (HX := HX) (HB := HB) (wn := wn) (wr := wr) (wx := wx) (wc := wc) (wb := wb) (bC := bC) (bB := bB) (SK := SK) (HY := HY) (HZ := HZ) (tr := tr) (tb := tb) (no := no) (ti := ti) (ne := ne) (bO := bO) (bE := bE) (bl := bl) (ba := ba) (be := be) (bA := bA) i3 v1 with ⟨b, hb, rfl, fx, fy⟩ | ⟨fx, fy⟩
  · have hvb : vp_in (nI b) 10 := vp_in_nI (by omega) (by omega)
    have cb : (nI b).toNatClampNeg = b := nI_clamp (by omega)
    obtain ⟨g1, g2, g3, g4, g5, g6, g7, g8⟩ := i6 b hb
    rcases i8 b hb trivial with ⟨z1, z2⟩ | ⟨z1, z2⟩
    · have hp : 0 < hc b := (g7 z2).2
      exact fx _ (br_f (by decide) ⟨hvb, br_f (by rw [cb, z2]; decide) (cx_lastC i2 i5 i3 hb g4 (fun h => by omega) (fun _ => fy _ (br_t rfl ⟨hvb, br_t (by rw [cb, z1]) (cy_lastT i2 i5 i3 hb g4 ⟨rfl, R⟩)⟩)))⟩)
    · exact fx _ (br_f (by decide) ⟨hvb, br_t (by rw [cb, z2]) (fy _ (br_t rfl ⟨hvb, br_f (by rw [cb, z1]; decide) ⟨rfl, R⟩⟩))⟩)
  · exact fx _ (br_t rfl (fy _ (br_f (by decide) ⟨rfl, R⟩)))
theorem i_vc_hops {k : Nat} {u : SX} {v : SY} (I : i_Rel k u v) (hk : k + 4 ≤ 2048) (v1 : Int32) : wpX_hops (fun r => wpY_hops (fun r' => r' = r ∧ i_Rel (k + 4) u v) v v1) u v1 := by
  have R := i_up I
  obtain ⟨now, cc, bc, nc, fr, tt, st, en, ra, de, so, ta, sz, hc, oc, ob, CA, TA, li, RT, HI, HX, HB, wn, wr, wx, wc, wb, bC, bB, SK, HY, HZ, tr, tb, no, ti, ne, bO, bE, bl, ba, be, bA, e1, e2, h1, I⟩ := I
  subst e1 e2
  obtain ⟨i1, i2, i3, i4, i5, i6, i7, i8⟩ := I
  unfold wpX_hops wpY_hops
  dsimp only
  rcases cn_bun (now := now) (cc := cc) (fr := fr) (tt := tt) (st := st) (en := en) (ra := ra) (de := de) (so := so) (ta := ta) (sz := sz) (hc := hc) (CA := CA) (TA := TA) (li := li) (RT := RT) (HI := HI) (HX := HX) (HB := HB) (wn := wn) (wr := wr) (wx := wx) (wc := wc) (wb := wb) (bC := bC) (bB := bB) (SK := SK) (HY := HY) (HZ := HZ) (tr := tr) (tb := tb) (no := no) (ti := ti) (ne := ne) (bO := bO) (bE := bE) (bl := bl) (ba := ba) (be := be) (bA := bA) i3 v1 with ⟨b, hb, rfl, fx, fy⟩ | ⟨fx, fy⟩
  · have hvb : vp_in (nI b) 10 := vp_in_nI (by omega) (by omega)
    exact fx _ (br_f (by decide) ⟨hvb, fy _ (br_t rfl ⟨hvb, rfl, R⟩)⟩)
  · exact fx _ (br_t rfl (fy _ (br_f (by decide) ⟨rfl, R⟩)))
theorem i_vc_hop {k : Nat} {u : SX} {v : SY} (I : i_Rel k u v) (hk : k + 4 ≤ 2048) (v1 : Int32) (v2 : Int32) : wpX_hop (fun r => wpY_hop (fun r' => r' = r ∧ i_Rel (k + 4) u v) v v1 v2) u v1 v2 := by
  have R := i_up I
  obtain ⟨now, cc, bc, nc, fr, tt, st, en, ra, de, so, ta, sz, hc, oc, ob, CA, TA, li, RT, HI, HX, HB, wn, wr, wx, wc, wb, bC, bB, SK, HY, HZ, tr, tb, no, ti, ne, bO, bE, bl, ba, be, bA, e1, e2, h1, I⟩ := I
  subst e1 e2
  obtain ⟨i1, i2, i3, i4, i5, i6, i7, i8⟩ := I
  obtain ⟨H1, H2, H3, H4, H5, H6⟩ := cn_IvU i5
  unfold wpX_hop wpY_hop
  dsimp only
  rcases cn_bun (now := now) (cc := cc) (fr := fr) (tt := tt) (st := st) (en := en) (ra := ra) (de := de) (so := so) (ta := ta) (sz := sz) (hc := hc) (CA := CA) (TA := TA) (li := li) (RT := RT) (HI := HI) (HX := HX) (HB := HB) (wn := wn) (wr := wr) (wx := wx) (wc := wc) (wb := wb) (bC := bC) (bB := bB) (SK := SK) (HY := HY) (HZ := HZ) (tr := tr) (tb := tb) (no := no) (ti := ti) (ne := ne) (bO := bO) (bE := bE) (bl := bl) (ba := ba) (be := be) (bA := bA) i3 v1 with ⟨b, hb, rfl, fx, fy⟩ | ⟨fx, fy⟩
  · have hvb : vp_in (nI b) 10 := vp_in_nI (by omega) (by omega)
    have cb : (nI b).toNatClampNeg = b := nI_clamp (by omega)
    have hh := H6 b (by omega)
    by_cases h0 : v2 < 0
    · exact fx _ (br_f (by decide) (br_t h0 (fy _ (br_t rfl (br_t h0 ⟨rfl, R⟩)))))
    · obtain ⟨i, hi, rfl⟩ := nI_of h0
      by_cases hlt : i < hc b
      · have q : nI i < cn_n hc (nI b).toNatClampNeg := by rw [cb, cn_n_at]; exact nI_lt hlt (by omega)
        have hvx : vp_in (nI (b * 100 + i)) 1000 := vp_in_nI (by omega) (by omega)
        have hvy : vp_in (64 * nI b + nI i) 640 := by rw [cy_ix]; exact vp_in_nI (by omega) (by omega)
        have cx : (nI (b * 100 + i)).toNatClampNeg = b * 100 + i := nI_clamp (by omega)
        have cy : (64 * nI b + nI i).toNatClampNeg = 64 * b + i := by rw [cy_ix]; exact nI_clamp (by omega)
        refine fx _ (br_f (by decide) (br_f h0 ⟨hvb, br_t q (nm_r (cx_ix b i) ⟨hvx, hvx, fy _ (br_t rfl (br_f h0 ⟨hvb, br_t q ⟨hvy, hvy, ?_, R⟩⟩))⟩)⟩))
        rw [cx, cy, H2 b i (by omega) hlt, H3 b i (by omega) hlt, H4 b i (by omega) hlt, H5 b i (by omega) hlt]
      · have q : ¬ nI i < cn_n hc (nI b).toNatClampNeg := by rw [cb, cn_n_at]; exact nI_nlt (by omega) hi
        exact fx _ (br_f (by decide) (br_f h0 ⟨hvb, br_f q (fy _ (br_t rfl (br_f h0 ⟨hvb, br_f q ⟨rfl, R⟩⟩)))⟩))
  · exact fx _ (br_t rfl (fy _ (br_f (by decide) ⟨rfl, R⟩)))
