section
variable {k now cc bc nc : Nat} {fr tt st en ra de so ta sz hc : Nat → Nat} {oc ob : Nat → Nat → Nat} {CA TA li RT HI HX HB SK HY HZ : Nat → Int32} {Q : Nat → Prop}
/-- both searches from one node at one time -/
theorem cn_findXY (I : cn_In now cc bc nc fr tt st en ra de so ta sz CA RT SK (hc, oc, ob, TA, HX, HB, HY, HZ) Q) {node goal z time : Nat} (hn : node < 6) (hg : goal < 6) (hng : node ≠ goal) (hz1 : 1 ≤ z) (hz2 : z ≤ 30) (ht : time ≤ 200000)
    (wn wr wx wc wb : cn_A) (bl ba : Int32) (bC bB tr tb no ti ne : cn_A) (be bA : Int32) (bO bE : cn_A) :
    ∃ (wn' wr' wx' wc' wb' : cn_A) (bl' ba' : Int32) (bC' bB' tr' tb' no' ti' ne' : cn_A) (be' bA' : Int32) (bO' bE' : cn_A),
      (∀ (post : SX → Prop) (p0 p1 p2 p3 : Int32), p0 = nI node → p1 = nI goal → p2 = nI z → p3 = nI time → post ((nI now), (nI cc), (nI bc), bl', ba', (cn_n fr), (cn_n tt), (cn_n st), (cn_n en), (cn_n ra), (cn_n de), CA, TA, (cn_n so), (cn_n ta), (cn_n sz), li, RT, HI, (cn_n hc), HX, HB, wn', wr', wx', wc', wb', bC', bB') → wpX_findBest post ((nI now), (nI cc), (nI bc), bl, ba, (cn_n fr), (cn_n tt), (cn_n st), (cn_n en), (cn_n ra), (cn_n de), CA, TA, (cn_n so), (cn_n ta), (cn_n sz), li, RT, HI, (cn_n hc), HX, HB, wn, wr, wx, wc, wb, bC, bB) p0 p1 p2 p3) ∧
      ((bl' ≤ 0 ∧ ∀ (post : Int32 → SY → Prop) (p0 p1 p2 p3 : Int32), p0 = nI node → p1 = nI time → p2 = nI goal → p3 = nI z → post 0 ((nI now), (nI cc), (nI bc), be', bA', (cn_n fr), (cn_n tt), (cn_n st), (cn_n en), (cn_n ra), (cn_n de), CA, (cn_n so), (cn_n ta), (cn_n sz), li, SK, (cn_n hc), HY, HZ, tr', tb', no', ti', ne', bO', bE') → wpY_findBest post ((nI now), (nI cc), (nI bc), be, bA, (cn_n fr), (cn_n tt), (cn_n st), (cn_n en), (cn_n ra), (cn_n de), CA, (cn_n so), (cn_n ta), (cn_n sz), li, SK, (cn_n hc), HY, HZ, tr, tb, no, ti, ne, bO, bE) p0 p1 p2 p3) ∨
       (¬ bl' ≤ 0 ∧ bA' = ba' ∧ ∀ (post : Int32 → SY → Prop) (p0 p1 p2 p3 : Int32), p0 = nI node → p1 = nI time → p2 = nI goal → p3 = nI z → post 1 ((nI now), (nI cc), (nI bc), be', bA', (cn_n fr), (cn_n tt), (cn_n st), (cn_n en), (cn_n ra), (cn_n de), CA, (cn_n so), (cn_n ta), (cn_n sz), li, SK, (cn_n hc), HY, HZ, tr', tb', no', ti', ne', bO', bE') → wpY_findBest post ((nI now), (nI cc), (nI bc), be, bA, (cn_n fr), (cn_n tt), (cn_n st), (cn_n en), (cn_n ra), (cn_n de), CA, (cn_n so), (cn_n ta), (cn_n sz), li, SK, (cn_n hc), HY, HZ, tr, tb, no, ti, ne, bO, bE) p0 p1 p2 p3)) := by
  obtain ⟨i1, i2, i3, i4, i5, i6, i7, i8⟩ := I
  have hsz : ∀ b, b < bc → 1 ≤ sz b ∧ sz b ≤ 30 := fun b hb => ⟨(i6 b hb).2.2.1, (i6 b hb).2.2.2.1⟩
  obtain ⟨wn', wr', wx', wc', wb', bl', ba', bC', bB', f1, f2⟩ := cx_find (now := now) (bc := bc) (bl := bl) (ba := ba) (so := so) (ta := ta) (sz := sz) (hc := hc) (CA := CA) (TA := TA) (li := li) (RT := RT) (HI := HI) (HX := HX) (HB := HB) (wn := wn) (wr := wr) (wx := wx) (wc := wc) (wb := wb) (bC := bC) (bB := bB) i2 hz1 hz2 hg hn ht
  obtain ⟨tr', tb', no', ti', ne', be', bA', bO', bE', g1, g2⟩ := cy_find (now := now) (be := be) (bA := bA) (ta := ta) (CA := CA) (li := li) (SK := SK) (tr := tr) (tb := tb) (no := no) (ti := ti) (ne := ne) (bO := bO) (bE := bE) i2 i5 i3 hsz hz1 hz2 hg hn ht hng
  refine ⟨wn', wr', wx', wc', wb', bl', ba', bC', bB', tr', tb', no', ti', ne', be', bA', bO', bE', f2, ?_⟩
  cases hr : cn_bst cc fr tt st en ra de CA TA goal z node time with
  | none =>
    rw [hr] at f1
    have hb0 : bl' = 0 := f1
    exact Or.inl ⟨by rw [hb0]; decide, fun post p0 p1 p2 p3 e0 e1 e2 e3 h => g2 post p0 p1 p2 p3 e0 e1 e2 e3 (fun _ => h) (fun r h2 => absurd (hr.symm.trans h2) (by simp))⟩
  | some r =>
    rw [hr] at f1 g1
    obtain ⟨b1, b2, b3, b4, b5, b6⟩ := f1
    obtain ⟨d1, d2, d3, d4, d5, d6⟩ := g1
    exact Or.inr ⟨by rw [b4]; exact nI_nle (List.length_pos_iff.mpr b1) (by omega), d5.trans b5.symm, fun post p0 p1 p2 p3 e0 e1 e2 e3 h => g2 post p0 p1 p2 p3 e0 e1 e2 e3 (fun h2 => absurd (hr.symm.trans h2) (by simp)) (fun _ _ => h)⟩
theorem cn_reach (I : cn_In now cc bc nc fr tt st en ra de so ta sz CA RT SK (hc, oc, ob, TA, HX, HB, HY, HZ) Q) {node z : Nat} (hn : node < 6) (hz1 : 1 ≤ z) (hz2 : z ≤ 30) (by_ : Int32) :
    ∀ (m i : Nat) (set : Int32) (wn wr wx wc wb : cn_A) (bl ba : Int32) (bC bB tr tb no ti ne : cn_A) (be bA : Int32) (bO bE : cn_A), i + m = 6 →
    ∃ (set' : Int32) (wn' wr' wx' wc' wb' : cn_A) (bl' ba' : Int32) (bC' bB' tr' tb' no' ti' ne' : cn_A) (be' bA' : Int32) (bO' bE' : cn_A),
      (∀ (post : Int32 → SX → Prop), post set' ((nI now), (nI cc), (nI bc), bl', ba', (cn_n fr), (cn_n tt), (cn_n st), (cn_n en), (cn_n ra), (cn_n de), CA, TA, (cn_n so), (cn_n ta), (cn_n sz), li, RT, HI, (cn_n hc), HX, HB, wn', wr', wx', wc', wb', bC', bB') → wX_reach_27 post (nI node) (nI z) by_ (m + 1) set (nI i) (nI now) (nI cc) (nI bc) bl ba (cn_n fr) (cn_n tt) (cn_n st) (cn_n en) (cn_n ra) (cn_n de) CA TA (cn_n so) (cn_n ta) (cn_n sz) li RT HI (cn_n hc) HX HB wn wr wx wc wb bC bB) ∧
      (∀ (post : Int32 → SY → Prop), post set' ((nI now), (nI cc), (nI bc), be', bA', (cn_n fr), (cn_n tt), (cn_n st), (cn_n en), (cn_n ra), (cn_n de), CA, (cn_n so), (cn_n ta), (cn_n sz), li, SK, (cn_n hc), HY, HZ, tr', tb', no', ti', ne', bO', bE') → wY_reach_27 post (nI node) (nI z) by_ (m + 1) set (nI i) (nI now) (nI cc) (nI bc) be bA (cn_n fr) (cn_n tt) (cn_n st) (cn_n en) (cn_n ra) (cn_n de) CA (cn_n so) (cn_n ta) (cn_n sz) li SK (cn_n hc) HY HZ tr tb no ti ne bO bE) := by
  have hnow := I.1
  intro m
  induction m with
  | zero =>
    intro i set wn wr wx wc wb bl ba bC bB tr tb no ti ne be bA bO bE hi
    have q : (6 : Int32) ≤ nI i := nI_le (a := 6) (by omega) (by omega)
    exact ⟨set, wn, wr, wx, wc, wb, bl, ba, bC, bB, tr, tb, no, ti, ne, be, bA, bO, bE, fun post h => br_t q h, fun post h => br_t q h⟩
  | succ m ih =>
    intro i set wn wr wx wc wb bl ba bC bB tr tb no ti ne be bA bO bE hi
    have q : ¬ (6 : Int32) ≤ nI i := nI_ge (b := 6) (by omega) (by decide)
    by_cases ei : i = node
    · have qe : nI i = nI node := by rw [ei]
      obtain ⟨set', wn', wr', wx', wc', wb', bl', ba', bC', bB', tr', tb', no', ti', ne', be', bA', bO', bE', fx, fy⟩ := ih (i + 1) set wn wr wx wc wb bl ba bC bB tr tb no ti ne be bA bO bE (by omega)
      exact ⟨set', wn', wr', wx', wc', wb', bl', ba', bC', bB', tr', tb', no', ti', ne', be', bA', bO', bE', fun post h => br_f q (br_t qe (nm_r (nI_1 i) (fx post h))), fun post h => br_f q (br_t qe (nm_r (nI_1 i) (fy post h)))⟩
    · have qe : ¬ nI i = nI node := by rw [nI_eq (by omega) (by omega)]; exact ei
      have ee : nI node * 6 + nI i = nI (node * 6 + i) := by rw [cn_i6, pk_mul, nI_add]
      have d1 : (nI node * 6 + nI i) / 6 = nI node := by rw [ee, cn_d6 (by omega)]; congr 1; omega
      have d2 : (nI node * 6 + nI i) - (nI node * 6 + nI i) / 6 * 6 = nI i := by rw [ee, cn_r6 (by omega)]; congr 1; omega
      obtain ⟨wn1, wr1, wx1, wc1, wb1, bl1, ba1, bC1, bB1, tr1, tb1, no1, ti1, ne1, be1, bA1, bO1, bE1, f, g⟩ := cn_findXY (li := li) (HI := HI) I (node := node) (goal := i) (z := z) (time := now) hn (by omega) (fun h => ei h.symm) hz1 hz2 (by omega) wn wr wx wc wb bl ba bC bB tr tb no ti ne be bA bO bE
      rcases g with ⟨g1, g2⟩ | ⟨g1, ga, g2⟩
      · obtain ⟨set', wn', wr', wx', wc', wb', bl', ba', bC', bB', tr', tb', no', ti', ne', be', bA', bO', bE', fx, fy⟩ := ih (i + 1) set wn1 wr1 wx1 wc1 wb1 bl1 ba1 bC1 bB1 tr1 tb1 no1 ti1 ne1 be1 bA1 bO1 bE1 (by omega)
        exact ⟨set', wn', wr', wx', wc', wb', bl', ba', bC', bB', tr', tb', no', ti', ne', be', bA', bO', bE',
          fun post h => br_f q (br_f qe ⟨cn_n6, cn_n6, f _ _ _ _ _ d1 d2 rfl rfl (br_t g1 (br_t rfl (nm_r (nI_1 i) (fx post h))))⟩),
          fun post h => br_f q (br_f qe (g2 _ _ _ _ _ rfl rfl rfl rfl (br_t rfl (nm_r (nI_1 i) (fy post h)))))⟩
      · by_cases hb : by_ < ba1
        · obtain ⟨set', wn', wr', wx', wc', wb', bl', ba', bC', bB', tr', tb', no', ti', ne', be', bA', bO', bE', fx, fy⟩ := ih (i + 1) set wn1 wr1 wx1 wc1 wb1 bl1 ba1 bC1 bB1 tr1 tb1 no1 ti1 ne1 be1 bA1 bO1 bE1 (by omega)
          exact ⟨set', wn', wr', wx', wc', wb', bl', ba', bC', bB', tr', tb', no', ti', ne', be', bA', bO', bE',
            fun post h => br_f q (br_f qe ⟨cn_n6, cn_n6, f _ _ _ _ _ d1 d2 rfl rfl (br_f g1 (br_t hb (br_t rfl (nm_r (nI_1 i) (fx post h)))))⟩),
            fun post h => br_f q (br_f qe (g2 _ _ _ _ _ rfl rfl rfl rfl (br_f (by decide) (br_t (by rw [ga]; exact hb) (nm_r (nI_1 i) (fy post h))))))⟩
        · obtain ⟨set', wn', wr', wx', wc', wb', bl', ba', bC', bB', tr', tb', no', ti', ne', be', bA', bO', bE', fx, fy⟩ := ih (i + 1) (set ||| ((1 : Int32) <<< (nI i &&& 31))) wn1 wr1 wx1 wc1 wb1 bl1 ba1 bC1 bB1 tr1 tb1 no1 ti1 ne1 be1 bA1 bO1 bE1 (by omega)
          exact ⟨set', wn', wr', wx', wc', wb', bl', ba', bC', bB', tr', tb', no', ti', ne', be', bA', bO', bE',
            fun post h => br_f q (br_f qe ⟨cn_n6, cn_n6, f _ _ _ _ _ d1 d2 rfl rfl (br_f g1 (br_f hb (br_f (by decide) (nm_e (nm_r (nI_1 i) (fx post h))))))⟩),
            fun post h => br_f q (br_f qe (g2 _ _ _ _ _ rfl rfl rfl rfl (br_f (by decide) (br_f (by rw [ga]; exact hb) (nm_e (nm_r (nI_1 i) (fy post h)))))))⟩
theorem cn_late (I : cn_In now cc bc nc fr tt st en ra de so ta sz CA RT SK (hc, oc, ob, TA, HX, HB, HY, HZ) Q) {e z : Nat} (he : e < 36) (hne : e / 6 ≠ e % 6) (hz1 : 1 ≤ z) (hz2 : z ≤ 30) (by_ : Int32) :
    ∀ (m : Nat) (x4 : Int32) (wn wr wx wc wb : cn_A) (bl ba : Int32) (bC bB tr tb no ti ne : cn_A) (be bA : Int32) (bO bE : cn_A), m ≤ 101 → (m = 0 → x4 = -1) → (0 < m → x4 = nI (m - 1)) →
    ∃ (res : Int32) (wn' wr' wx' wc' wb' : cn_A) (bl' ba' : Int32) (bC' bB' tr' tb' no' ti' ne' : cn_A) (be' bA' : Int32) (bO' bE' : cn_A),
      (∀ (post : Int32 → SX → Prop), post res ((nI now), (nI cc), (nI bc), bl', ba', (cn_n fr), (cn_n tt), (cn_n st), (cn_n en), (cn_n ra), (cn_n de), CA, TA, (cn_n so), (cn_n ta), (cn_n sz), li, RT, HI, (cn_n hc), HX, HB, wn', wr', wx', wc', wb', bC', bB') → wX_latest_20 post (nI e) (nI z) by_ (m + 1) x4 (nI now) (nI cc) (nI bc) bl ba (cn_n fr) (cn_n tt) (cn_n st) (cn_n en) (cn_n ra) (cn_n de) CA TA (cn_n so) (cn_n ta) (cn_n sz) li RT HI (cn_n hc) HX HB wn wr wx wc wb bC bB) ∧
      (∀ (post : Int32 → SY → Prop), post res ((nI now), (nI cc), (nI bc), be', bA', (cn_n fr), (cn_n tt), (cn_n st), (cn_n en), (cn_n ra), (cn_n de), CA, (cn_n so), (cn_n ta), (cn_n sz), li, SK, (cn_n hc), HY, HZ, tr', tb', no', ti', ne', bO', bE') → wY_latest_22 post (nI e) (nI z) by_ (m + 1) x4 (nI now) (nI cc) (nI bc) be bA (cn_n fr) (cn_n tt) (cn_n st) (cn_n en) (cn_n ra) (cn_n de) CA (cn_n so) (cn_n ta) (cn_n sz) li SK (cn_n hc) HY HZ tr tb no ti ne bO bE) := by
  have hnow := I.1
  have d1 : nI e / 6 = nI (e / 6) := cn_d6 (by omega)
  have d2 : nI e - nI e / 6 * 6 = nI (e % 6) := cn_r6 (by omega)
  intro m
  induction m with
  | zero =>
    intro x4 wn wr wx wc wb bl ba bC bB tr tb no ti ne be bA bO bE _ h0 _
    rw [h0 rfl]
    have q : (-1 : Int32) < nI now := Int32.lt_of_lt_of_le (show (-1 : Int32) < 0 by decide) (nI_pos' (by omega))
    exact ⟨-4, wn, wr, wx, wc, wb, bl, ba, bC, bB, tr, tb, no, ti, ne, be, bA, bO, bE, fun post h => br_t (by decide) h, fun post h => br_t q h⟩
  | succ m ih =>
    intro x4 wn wr wx wc wb bl ba bC bB tr tb no ti ne be bA bO bE hm _ h1
    have hx : x4 = nI m := h1 (by omega)
    rw [hx]
    have q0 : ¬ nI m < 0 := nI_pos (by omega)
    by_cases hlt : m < now
    · exact ⟨-4, wn, wr, wx, wc, wb, bl, ba, bC, bB, tr, tb, no, ti, ne, be, bA, bO, bE, fun post h => br_f q0 (br_f (nI_ge hlt (by omega)) h), fun post h => br_t (nI_lt hlt (by omega)) h⟩
    · have qx : nI now ≤ nI m := nI_le (by omega) (by omega)
      have qy : ¬ nI m < nI now := nI_nlt (by omega) (by omega)
      have hn0 : m = 0 → nI m + (-1) = -1 := fun h => by rw [h]; decide
      have hn1 : 0 < m → nI m + (-1) = nI (m - 1) := fun h => by
        obtain ⟨j, rfl⟩ : ∃ j, m = j + 1 := ⟨m - 1, by omega⟩
        rw [pk_m1]; rfl
      obtain ⟨wn1, wr1, wx1, wc1, wb1, bl1, ba1, bC1, bB1, tr1, tb1, no1, ti1, ne1, be1, bA1, bO1, bE1, f, g⟩ := cn_findXY (li := li) (HI := HI) I (node := e / 6) (goal := e % 6) (z := z) (time := m) (by omega) (by omega) hne hz1 hz2 (by omega) wn wr wx wc wb bl ba bC bB tr tb no ti ne be bA bO bE
      obtain ⟨res, wn', wr', wx', wc', wb', bl', ba', bC', bB', tr', tb', no', ti', ne', be', bA', bO', bE', fx, fy⟩ := ih (nI m + (-1)) wn1 wr1 wx1 wc1 wb1 bl1 ba1 bC1 bB1 tr1 tb1 no1 ti1 ne1 be1 bA1 bO1 bE1 (by omega) hn0 hn1
      rcases g with ⟨g1, g2⟩ | ⟨g1, ga, g2⟩
      · exact ⟨res, wn', wr', wx', wc', wb', bl', ba', bC', bB', tr', tb', no', ti', ne', be', bA', bO', bE',
          fun post h => br_f q0 (br_t qx ⟨cn_n6, cn_n6, f _ _ _ _ _ d1 d2 rfl rfl (br_t g1 (br_t rfl (nm_e (fx post h))))⟩),
          fun post h => br_f qy ⟨cn_n6, cn_n6, g2 _ _ _ _ _ d1 rfl d2 rfl (br_t rfl (nm_e (fy post h)))⟩⟩
      · by_cases hb : by_ < ba1
        · exact ⟨res, wn', wr', wx', wc', wb', bl', ba', bC', bB', tr', tb', no', ti', ne', be', bA', bO', bE',
            fun post h => br_f q0 (br_t qx ⟨cn_n6, cn_n6, f _ _ _ _ _ d1 d2 rfl rfl (br_f g1 (br_t hb (br_t rfl (nm_e (fx post h)))))⟩),
            fun post h => br_f qy ⟨cn_n6, cn_n6, g2 _ _ _ _ _ d1 rfl d2 rfl (br_f (by decide) (br_t (by rw [ga]; exact hb) (nm_e (fy post h))))⟩⟩
        · exact ⟨nI m, wn1, wr1, wx1, wc1, wb1, bl1, ba1, bC1, bB1, tr1, tb1, no1, ti1, ne1, be1, bA1, bO1, bE1,
            fun post h => br_f q0 (br_t qx ⟨cn_n6, cn_n6, f _ _ _ _ _ d1 d2 rfl rfl (br_f g1 (br_f hb (br_f (by decide) h)))⟩),
            fun post h => br_f qy ⟨cn_n6, cn_n6, g2 _ _ _ _ _ d1 rfl d2 rfl (br_f (by decide) (br_f (by rw [ga]; exact hb) h))⟩⟩
end
