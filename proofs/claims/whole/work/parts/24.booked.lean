section
variable {k now cc bc nc : Nat} {fr tt st en ra de so ta sz hc : Nat → Nat} {oc ob : Nat → Nat → Nat} {CA TA li RT HI HX HB wn wr wx wc wb bC bB SK HY HZ tr tb no ti ne bO bE : Nat → Int32} {bl ba be bA : Int32}
theorem cx_bk26 {post : Int32 → Prop} {c : Nat} (hc10 : c < 10) (hT : ∀ t, t < 100 → TA (c * 100 + t) = 0 ∨ TA (c * 100 + t) = 1) (h : post (nI (cn_ct (fun t => TA (c * 100 + t) = 1) 100))) :
    ∀ (m i : Nat), i + m = 100 → wX_booked_26 post (nI c) (nI now) (nI cc) (nI bc) bl ba (cn_n fr) (cn_n tt) (cn_n st) (cn_n en) (cn_n ra) (cn_n de) CA TA (cn_n so) (cn_n ta) (cn_n sz) li RT HI (cn_n hc) HX HB wn wr wx wc wb bC bB (m + 1) (nI (cn_ct (fun t => TA (c * 100 + t) = 1) i)) (nI i) := by
  intro m
  induction m with
  | zero =>
    intro i hi
    have e : i = 100 := by omega
    rw [e]
    exact br_t (nI_le (a := 100) (Nat.le_refl _) (by omega)) h
  | succ m ih =>
    intro i hi
    have hvi : vp_in (nI c * 100 + nI i) 1000 := by rw [cx_ix]; exact vp_in_nI (by omega) (by omega)
    have ci : (nI c * 100 + nI i).toNatClampNeg = c * 100 + i := by rw [cx_ix]; exact nI_clamp (by omega)
    have hge : ¬ (100 : Int32) ≤ nI i := nI_ge (b := 100) (by omega) (by decide)
    have IH := ih (i + 1) (by omega)
    rcases hT i (by omega) with z | z
    · rw [cn_ct_f (P := fun t => TA (c * 100 + t) = 1) (n := i) (by show ¬ TA (c * 100 + i) = 1; rw [z]; decide)] at IH
      exact br_f hge ⟨hvi, br_t (by rw [ci, z]) (nm_r (nI_1 i) IH)⟩
    · rw [cn_ct_t (P := fun t => TA (c * 100 + t) = 1) (n := i) z] at IH
      exact br_f hge ⟨hvi, br_f (by rw [ci, z]; decide) (nm_r (nI_1 _) (nm_r (nI_1 i) IH))⟩
theorem cy_bk44 {post : Int32 → Prop} {J30 : Int32 → Int32 → Prop} (N : cn_Net cc fr tt st en ra de) (H : cn_Iv cc bc fr tt st en ra so sz (hc, oc, ob, TA, HX, HB, HY, HZ)) (hbc : bc ≤ 10) {c b : Nat} (hcc : c < cc) (hb : b < bc) (hs : sz b ≤ 30) (hJ : J30 (nI (cn_ct (cn_P bc ra sz hc oc ob c b (hc b)) 100)) (nI (b + 1))) :
    ∀ (m i : Nat), i + m = hc b → wY_booked_44 post J30 (nI c) (nI b) (nI now) (nI cc) (nI bc) be bA (cn_n fr) (cn_n tt) (cn_n st) (cn_n en) (cn_n ra) (cn_n de) CA (cn_n so) (cn_n ta) (cn_n sz) li SK (cn_n hc) HY HZ tr tb no ti ne bO bE (m + 1) (nI (cn_ct (cn_P bc ra sz hc oc ob c b i) 100)) (nI (64 * b + i)) := by
  obtain ⟨H1, H2, H3, H4, H5, H6⟩ := cn_IvU H
  have N1 := N.1
  obtain ⟨n1, n2, n3, n4, n5, n6, n7, n8⟩ := N.2 c hcc
  have hvb : vp_in (nI b) 10 := vp_in_nI (by omega) (by omega)
  have cb : (nI b).toNatClampNeg = b := nI_clamp (by omega)
  have hh := H6 b (by omega)
  intro m
  induction m with
  | zero =>
    intro i hi
    have e : i = hc b := by omega
    rw [e]
    exact ⟨hvb, br_t (by rw [cb, cn_n_at, cy_ix]; exact nI_le (Nat.le_refl _) (by omega)) (nm_r (nI_1 b) hJ)⟩
  | succ m ih =>
    intro i hi
    obtain ⟨g1, g2, g3, g4⟩ := H1.1 b i hb (by omega)
    have y1 := H4 b i (by omega) (by omega)
    have hvi : vp_in (nI (64 * b + i)) 640 := vp_in_nI (by omega) (by omega)
    have ci : (nI (64 * b + i)).toNatClampNeg = 64 * b + i := nI_clamp (by omega)
    have hge : ¬ (64 * nI b + cn_n hc (nI b).toNatClampNeg ≤ nI (64 * b + i)) := by
      rw [cb, cn_n_at, cy_ix]; exact nI_ge (by omega) (by omega)
    have IH := ih (i + 1) (by omega)
    by_cases c1 : oc b i = c
    · rw [cn_P_in N H1 hb (by omega) c1] at IH
      exact ⟨hvb, br_f hge ⟨hvi, br_t (by rw [ci, y1, c1]) ⟨hvb, cy_ticksE (z := sz b) rfl (by rw [cb]; rfl) (by omega) n6 n7 hs (nm_r (nI_add _ _) (nm_r (nI_1 _) IH))⟩⟩⟩
    · rw [cn_P_out c1] at IH
      exact ⟨hvb, br_f hge ⟨hvi, br_f (by rw [ci, y1, nI_eq (by omega) (by omega)]; exact c1) (nm_r (nI_1 _) IH)⟩⟩
theorem cy_bk30 {post : Int32 → Prop} (N : cn_Net cc fr tt st en ra de) (H : cn_Iv cc bc fr tt st en ra so sz (hc, oc, ob, TA, HX, HB, HY, HZ)) (hbc : bc ≤ 10) {c : Nat} (hcc : c < cc) (hs : ∀ b, b < bc → sz b ≤ 30) (h : post (nI (cn_ct (cn_P bc ra sz hc oc ob c bc 0) 100))) :
    ∀ (m b : Nat), b + m = bc → wY_booked_30 post (nI c) (nI now) (nI cc) (nI bc) be bA (cn_n fr) (cn_n tt) (cn_n st) (cn_n en) (cn_n ra) (cn_n de) CA (cn_n so) (cn_n ta) (cn_n sz) li SK (cn_n hc) HY HZ tr tb no ti ne bO bE (m + 1) (nI (cn_ct (cn_P bc ra sz hc oc ob c b 0) 100)) (nI b) := by
  intro m
  induction m with
  | zero =>
    intro b hb
    have e : b = bc := by omega
    rw [e]
    exact br_t (nI_le (Nat.le_refl _) (by omega)) h
  | succ m ih =>
    intro b hb
    have IH := ih (b + 1) (by omega)
    rw [cn_P_next] at IH
    exact br_f (nI_ge (by omega) (by omega)) (nm_r (cy_i0 b) ⟨hc b + 1, cy_bk44 N H hbc hcc (by omega) (hs b (by omega)) IH (hc b) 0 (by omega)⟩)
/-- where a bundle is -/
theorem cn_place (N : cn_Net cc fr tt st en ra de) (H : cn_Iv cc bc fr tt st en ra so sz (hc, oc, ob, TA, HX, HB, HY, HZ)) (hbc : bc ≤ 10) (hnow : now ≤ 102400) {b : Nat} (hb : b < bc) (hs : sz b ≤ 30) :
    ∀ (m i : Nat), i + m = hc b → ∃ r : Int32, (∀ post : Int32 → Prop, post r → wX_place_12 post (nI b) (nI now) (nI cc) (nI bc) bl ba (cn_n fr) (cn_n tt) (cn_n st) (cn_n en) (cn_n ra) (cn_n de) CA TA (cn_n so) (cn_n ta) (cn_n sz) li RT HI (cn_n hc) HX HB wn wr wx wc wb bC bB (m + 1) (nI i)) ∧ (∀ post : Int32 → Prop, post r → wY_place_22 post (nI b) (nI now) (nI cc) (nI bc) be bA (cn_n fr) (cn_n tt) (cn_n st) (cn_n en) (cn_n ra) (cn_n de) CA (cn_n so) (cn_n ta) (cn_n sz) li SK (cn_n hc) HY HZ tr tb no ti ne bO bE (m + 1) (nI (cn_nd so tt oc b i)) (nI (64 * b + i))) := by
  obtain ⟨H1, H2, H3, H4, H5, H6⟩ := cn_IvU H
  have N1 := N.1
  have hvb : vp_in (nI b) 10 := vp_in_nI (by omega) (by omega)
  have cb : (nI b).toNatClampNeg = b := nI_clamp (by omega)
  have hh := H6 b (by omega)
  intro m
  induction m with
  | zero =>
    intro i hi
    have e : i = hc b := by omega
    rw [e]
    refine ⟨nI (cn_nd so tt oc b (hc b)), fun post h => ?_, fun post h => ?_⟩
    · exact ⟨hvb, br_t (by rw [cb, cn_n_at]; exact nI_le (Nat.le_refl _) (by omega)) (cx_lastN N H hbc hb h)⟩
    · exact ⟨hvb, br_t (by rw [cb, cn_n_at, cy_ix]; exact nI_le (Nat.le_refl _) (by omega)) h⟩
  | succ m ih =>
    intro i hi
    obtain ⟨g1, g2, g3, g4⟩ := H1.1 b i hb (by omega)
    obtain ⟨n1, n2, n3, n4, n5, n6, n7, n8⟩ := N.2 (oc b i) g1
    have x1 := H2 b i (by omega) (by omega)
    have x2 := H3 b i (by omega) (by omega)
    have y1 := H4 b i (by omega) (by omega)
    have y2 := H5 b i (by omega) (by omega)
    have hvx : vp_in (nI (b * 100 + i)) 1000 := vp_in_nI (by omega) (by omega)
    have cx : (nI (b * 100 + i)).toNatClampNeg = b * 100 + i := nI_clamp (by omega)
    have hvy : vp_in (nI (64 * b + i)) 640 := vp_in_nI (by omega) (by omega)
    have cy : (nI (64 * b + i)).toNatClampNeg = 64 * b + i := nI_clamp (by omega)
    have ck : (nI (oc b i)).toNatClampNeg = oc b i := nI_clamp (by omega)
    have hvk : vp_in (nI (oc b i)) 10 := vp_in_nI (by omega) (by omega)
    have hgx : ¬ cn_n hc (nI b).toNatClampNeg ≤ nI i := by rw [cb, cn_n_at]; exact nI_ge (by omega) (by omega)
    have hgy : ¬ (64 * nI b + cn_n hc (nI b).toNatClampNeg ≤ nI (64 * b + i)) := by rw [cb, cn_n_at, cy_ix]; exact nI_ge (by omega) (by omega)
    by_cases c1 : ob b i + cn_tk ra (oc b i) (sz b) + de (oc b i) ≤ now
    · obtain ⟨r, fx, fy⟩ := ih (i + 1) (by omega)
      refine ⟨r, fun post h => ?_, fun post h => ?_⟩
      · exact ⟨hvb, br_f hgx (cx_comes (by omega) (by omega) x1 x2 (by omega) n6 n7 hs (br_t (nI_le c1 (by omega)) (nm_r (nI_1 i) (fx post h))))⟩
      · refine ⟨hvb, br_f hgy ⟨hvy, hvb, hvy, cy_comesE (k := oc b i) (z := sz b) (t := ob b i) (by rw [cy]; exact y1) (by rw [cb]; rfl) (by rw [cy]; exact y2) (by omega) n6 n7 hs (br_t (nI_le c1 (by omega)) ⟨hvy, by rw [cy, y1]; exact hvk, nm_r (e' := nI (cn_nd so tt oc b (i + 1))) (by rw [cy, y1, ck]; rfl) (nm_r (nI_1 _) (fy post h))⟩)⟩⟩
    · by_cases c2 : now ≤ ob b i
      · refine ⟨nI (cn_nd so tt oc b i), fun post h => ?_, fun post h => ?_⟩
        · refine ⟨hvb, br_f hgx (cx_comes (by omega) (by omega) x1 x2 (by omega) n6 n7 hs (br_f (nI_ge (by omega) (by omega)) (nm_r (cx_ix b i) ⟨hvx, nm_r (e' := nI (oc b i)) (by rw [cx]; exact x1) ⟨hvx, br_t (by rw [cx, x2]; exact nI_le c2 (by omega)) ⟨hvk, ?_⟩⟩⟩)))⟩
          rw [ck, cn_n_at, g4]; exact h
        · exact ⟨hvb, br_f hgy ⟨hvy, hvb, hvy, cy_comesE (k := oc b i) (z := sz b) (t := ob b i) (by rw [cy]; exact y1) (by rw [cb]; rfl) (by rw [cy]; exact y2) (by omega) n6 n7 hs (br_f (nI_ge (by omega) (by omega)) ⟨hvy, br_t (by rw [cy, y2]; exact nI_le c2 (by omega)) h⟩)⟩⟩
      · refine ⟨10 + nI (oc b i), fun post h => ?_, fun post h => ?_⟩
        · exact ⟨hvb, br_f hgx (cx_comes (by omega) (by omega) x1 x2 (by omega) n6 n7 hs (br_f (nI_ge (by omega) (by omega)) (nm_r (cx_ix b i) ⟨hvx, nm_r (e' := nI (oc b i)) (by rw [cx]; exact x1) ⟨hvx, br_f (by rw [cx, x2]; exact nI_ge (by omega) (by omega)) h⟩⟩)))⟩
        · refine ⟨hvb, br_f hgy ⟨hvy, hvb, hvy, cy_comesE (k := oc b i) (z := sz b) (t := ob b i) (by rw [cy]; exact y1) (by rw [cb]; rfl) (by rw [cy]; exact y2) (by omega) n6 n7 hs (br_f (nI_ge (by omega) (by omega)) ⟨hvy, br_f (by rw [cy, y2]; exact nI_ge (by omega) (by omega)) ⟨hvy, ?_⟩⟩)⟩⟩
          rw [cy, y1]; exact h
theorem cn_con (hcc : cc ≤ 10) (x : Int32) : (∃ c, c < cc ∧ x = nI c) ∨ (x < 0) ∨ (¬ x < 0 ∧ nI cc ≤ x) := by
  rcases pk_ix x (n := cc) (by omega) with h | h | ⟨b, hb, rfl⟩
  · exact Or.inr (Or.inl h)
  · have h0 : ¬ x < 0 := by
      have h1 := cn_leT (by omega) h
      have e0 : (0 : Int32).toInt = 0 := by decide
      rw [Int32.lt_iff_toInt_lt, e0]; omega
    exact Or.inr (Or.inr ⟨h0, h⟩)
  · exact Or.inl ⟨b, hb, rfl⟩
end
theorem i_vc_booked {k : Nat} {u : SX} {v : SY} (I : i_Rel k u v) (hk : k + 4 ≤ 2048) (v1 : Int32) : wpX_booked (fun r => wpY_booked (fun r' => r' = r ∧ i_Rel (k + 4) u v) v v1) u v1 := by
  have R := i_up I
  obtain ⟨now, cc, bc, nc, fr, tt, st, en, ra, de, so, ta, sz, hc, oc, ob, CA, TA, li, RT, HI, HX, HB, wn, wr, wx, wc, wb, bC, bB, SK, HY, HZ, tr, tb, no, ti, ne, bO, bE, bl, ba, be, bA, e1, e2, h1, I⟩ := I
  subst e1 e2
  obtain ⟨i1, i2, i3, i4, i5, i6, i7, i8⟩ := I
  obtain ⟨H1, H2, H3, H4, H5, H6⟩ := cn_IvU i5
  have N1 := i2.1
  rcases cn_con N1 v1 with ⟨c, hc1, rfl⟩ | h | ⟨h0, h⟩
  · have h0 : ¬ nI c < 0 := nI_pos (by omega)
    have hvc : vp_in (nI c) 10 := vp_in_nI (by omega) (by omega)
    have cl : (nI c).toNatClampNeg = c := nI_clamp (by omega)
    by_cases hca : CA c = 0
    · have q : CA (nI c).toNatClampNeg = 0 := by rw [cl]; exact hca
      have Y0 := cy_bk30 (post := fun r' => r' = nI (cn_ct (fun t => TA (c * 100 + t) = 1) 100) ∧ i_Rel (k + 4) ((nI now), (nI cc), (nI bc), bl, ba, (cn_n fr), (cn_n tt), (cn_n st), (cn_n en), (cn_n ra), (cn_n de), CA, TA, (cn_n so), (cn_n ta), (cn_n sz), li, RT, HI, (cn_n hc), HX, HB, wn, wr, wx, wc, wb, bC, bB) ((nI now), (nI cc), (nI bc), be, bA, (cn_n fr), (cn_n tt), (cn_n st), (cn_n en), (cn_n ra), (cn_n de), CA, (cn_n so), (cn_n ta), (cn_n sz), li, SK, (cn_n hc), HY, HZ, tr, tb, no, ti, ne, bO, bE)) (now := now) (be := be) (bA := bA) (ta := ta) (CA := CA) (li := li) (SK := SK) (tr := tr) (tb := tb) (no := no) (ti := ti) (ne := ne) (bO := bO) (bE := bE) i2 i5 i3 hc1 (fun b hb => (i6 b hb).2.2.2.1) ⟨by rw [cn_P_all H1 (by omega)], R⟩ bc 0 (by omega)
      rw [cn_P_0] at Y0
      exact br_f h0 (br_f (nI_ge hc1 (by omega)) (br_f (by decide) ⟨hvc, br_t q ⟨101, cx_bk26 (by omega) (fun t ht => (H1.2.2 c t (by omega) ht).1) (br_f h0 (br_t (nI_lt hc1 (by omega)) ⟨hvc, br_t q ⟨bc + 1, Y0⟩⟩)) 100 0 (by omega)⟩⟩))
    · have q : ¬ CA (nI c).toNatClampNeg = 0 := by rw [cl]; exact hca
      exact br_f h0 (br_f (nI_ge hc1 (by omega)) (br_f (by decide) ⟨hvc, br_f q (br_f h0 (br_t (nI_lt hc1 (by omega)) ⟨hvc, br_f q ⟨rfl, R⟩⟩))⟩))
  · exact br_t h (br_t rfl (br_t h ⟨rfl, R⟩))
  · exact br_f h0 (br_t h (br_t rfl (br_f h0 (br_f (Int32.not_lt.mpr h) ⟨rfl, R⟩))))
theorem i_vc_place {k : Nat} {u : SX} {v : SY} (I : i_Rel k u v) (hk : k + 4 ≤ 2048) (v1 : Int32) : wpX_place (fun r => wpY_place (fun r' => r' = r ∧ i_Rel (k + 4) u v) v v1) u v1 := by
  have R := i_up I
  obtain ⟨now, cc, bc, nc, fr, tt, st, en, ra, de, so, ta, sz, hc, oc, ob, CA, TA, li, RT, HI, HX, HB, wn, wr, wx, wc, wb, bC, bB, SK, HY, HZ, tr, tb, no, ti, ne, bO, bE, bl, ba, be, bA, e1, e2, h1, I⟩ := I
  subst e1 e2
  obtain ⟨i1, i2, i3, i4, i5, i6, i7, i8⟩ := I
  unfold wpX_place wpY_place
  dsimp only
  rcases cn_bun (now := now) (cc := cc) (fr := fr) (tt := tt) (st := st) (en := en) (ra := ra) (de := de) (so := so) (ta := ta) (sz := sz) (hc := hc) (CA := CA) (TA := TA) (li := li) (RT := RT) (HI := HI) (HX := HX) (HB := HB) (wn := wn) (wr := wr) (wx := wx) (wc := wc) (wb := wb) (bC := bC) (bB := bB) (SK := SK) (HY := HY) (HZ := HZ) (tr := tr) (tb := tb) (no := no) (ti := ti) (ne := ne) (bO := bO) (bE := bE) (bl := bl) (ba := ba) (be := be) (bA := bA) i3 v1 with ⟨b, hb, rfl, fx, fy⟩ | ⟨fx, fy⟩
  · have hvb : vp_in (nI b) 10 := vp_in_nI (by omega) (by omega)
    have cb : (nI b).toNatClampNeg = b := nI_clamp (by omega)
    obtain ⟨r, px, py⟩ := cn_place (now := now) (ta := ta) (CA := CA) (li := li) (RT := RT) (HI := HI) (wn := wn) (wr := wr) (wx := wx) (wc := wc) (wb := wb) (bC := bC) (bB := bB) (SK := SK) (tr := tr) (tb := tb) (no := no) (ti := ti) (ne := ne) (bO := bO) (bE := bE) (bl := bl) (ba := ba) (be := be) (bA := bA) i2 i5 i3 i1 hb (i6 b hb).2.2.2.1 (hc b) 0 (by omega)
    exact fx _ (br_f (by decide) ⟨hc b + 1, px _ (fy _ (br_t rfl ⟨hvb, nm_r (e' := nI (so b)) (by rw [cb]; rfl) (nm_r (cy_i0 b) ⟨hc b + 1, py _ ⟨rfl, R⟩⟩)⟩))⟩)
  · exact fx _ (br_t rfl (fy _ (br_f (by decide) ⟨rfl, R⟩)))
