/-- what holds of both sides' states; Q: the bundles whose being stuck is told by both -/
def cn_In (now cc bc nc : Nat) (fr tt st en ra de so ta sz : Nat → Nat) (CA RT SK : Nat → Int32) (s : cn_St) (Q : Nat → Prop) : Prop :=
  now ≤ 102400 ∧ cn_Net cc fr tt st en ra de ∧ bc ≤ 10 ∧ cn_Ca cc nc CA ∧ cn_Iv cc bc fr tt st en ra so sz s ∧ cn_Bn bc nc tt so ta sz s.1 s.2.1 RT ∧
  (∀ b, bc ≤ b → b < 10 → s.1 b = 0 ∧ RT b = 0) ∧ (∀ b, b < bc → Q b → (SK b = 0 ∧ RT b = 1) ∨ (SK b = 1 ∧ RT b = 0))
section
variable {now cc bc nc : Nat} {fr tt st en ra de so ta sz hc : Nat → Nat} {oc ob : Nat → Nat → Nat} {CA TA li RT HX HB SK HY HZ : Nat → Int32} {Q : Nat → Prop}
theorem cn_In_Q {Q' : Nat → Prop} {s : cn_St} (h : cn_In now cc bc nc fr tt st en ra de so ta sz CA RT SK s Q) (hq : ∀ b, b < bc → Q' b → Q b) : cn_In now cc bc nc fr tt st en ra de so ta sz CA RT SK s Q' :=
  ⟨h.1, h.2.1, h.2.2.1, h.2.2.2.1, h.2.2.2.2.1, h.2.2.2.2.2.1, h.2.2.2.2.2.2.1, fun b hb q => h.2.2.2.2.2.2.2 b hb (hq b hb q)⟩
theorem cn_pl_i {s : cn_St} {b : Nat} {l : List (Nat × Nat)} (h : cn_pl now cc fr tt st en ra de so ta sz CA li s b = some l) : ∃ r, cn_bst cc fr tt st en ra de CA s.2.2.2.1 (ta b) (sz b) (cn_nd so tt s.2.1 b (s.1 b)) (cn_mx (cn_cm ra de sz s.1 s.2.1 s.2.2.1 b) now) = some r ∧ r.1 = l := by
  unfold cn_pl at h
  cases hr : cn_bst cc fr tt st en ra de CA s.2.2.2.1 (ta b) (sz b) (cn_nd so tt s.2.1 b (s.1 b)) (cn_mx (cn_cm ra de sz s.1 s.2.1 s.2.2.1 b) now) with
  | none => rw [hr] at h; exact absurd h (by simp)
  | some r =>
    rw [hr] at h
    dsimp only at h
    by_cases hc : nI r.2 ≤ li b
    · rw [if_pos hc] at h
      exact ⟨r, rfl, Option.some.inj h⟩
    · rw [if_neg hc] at h
      exact absurd h (by simp)
theorem cn_In_none {s : cn_St} (I : cn_In now cc bc nc fr tt st en ra de so ta sz CA RT SK s Q) {b : Nat} (hR : RT b = 0) : cn_In now cc bc nc fr tt st en ra de so ta sz CA RT (upd SK b 1) s (fun j => Q j ∨ j = b) := by
  obtain ⟨i1, i2, i3, i4, i5, i6, i7, i8⟩ := I
  refine ⟨i1, i2, i3, i4, i5, i6, i7, ?_⟩
  intro j hj hq
  by_cases e : j = b
  · rw [e, pk_us]; exact Or.inr ⟨rfl, hR⟩
  · rw [pk_un e]; exact i8 j hj (hq.resolve_right e)
theorem cn_In_some {s : cn_St} (I : cn_In now cc bc nc fr tt st en ra de so ta sz CA RT SK s Q) {b : Nat} (hb : b < bc) (hR : RT b = 0) {l : List (Nat × Nat)} (h : cn_pl now cc fr tt st en ra de so ta sz CA li s b = some l) :
    cn_In now cc bc nc fr tt st en ra de so ta sz CA (upd RT b 1) (upd SK b 0) (l.foldl (cn_ap ra sz b) s) (fun j => Q j ∨ j = b) := by
  obtain ⟨i1, i2, i3, i4, i5, i6, i7, i8⟩ := I
  obtain ⟨r, hr, er⟩ := cn_pl_i h
  obtain ⟨m1, m2, m3, m4, m5, m6⟩ := cn_mayOf i2 hr
  rw [er] at m1 m2 m3 m4 m5 m6
  obtain ⟨g1, g2, g3, g4, g5, g6, g7, g8⟩ := i6 b hb
  have hnc := cn_Ca_le i4
  have hh := (g6 hR).1
  obtain ⟨a1, a2, a3, a4⟩ := cn_bookAll i2 i3 hb g3 l s i5 m3 m5 m4 (by omega)
  refine ⟨i1, i2, i3, i4, a1, cn_Bn_book i6 hR hb m1 m2 a2 a3 a4 m6, ?_, ?_⟩
  · intro j h1 h2
    have e : j ≠ b := by omega
    rw [pk_un e, (a2.1 j e).1]
    exact i7 j h1 h2
  · intro j hj hq
    by_cases e : j = b
    · rw [e, pk_us, pk_us]; exact Or.inl ⟨rfl, rfl⟩
    · rw [pk_un e, pk_un e]; exact i8 j hj (hq.resolve_right e)
theorem cn_planXY (I : cn_In now cc bc nc fr tt st en ra de so ta sz CA RT SK (hc, oc, ob, TA, HX, HB, HY, HZ) Q) {b : Nat} (hb : b < bc) (hR : RT b = 0) :
    ∃ (hc' : Nat → Nat) (oc' ob' : Nat → Nat → Nat) (TA' HX' HB' HY' HZ' RT' SK' : Nat → Int32), cn_In now cc bc nc fr tt st en ra de so ta sz CA RT' SK' (hc', oc', ob', TA', HX', HB', HY', HZ') (fun j => Q j ∨ j = b) ∧ (∀ j, j ≠ b → RT' j = RT j) ∧
      (∀ (HI wn wr wx wc wb : cn_A) (bl ba : Int32) (bC bB : cn_A), ∃ (wn' wr' wx' wc' wb' : cn_A) (bl' ba' : Int32) (bC' bB' : cn_A), ∀ (post : SX → Prop),
        post ((nI now), (nI cc), (nI bc), bl', ba', (cn_n fr), (cn_n tt), (cn_n st), (cn_n en), (cn_n ra), (cn_n de), CA, TA', (cn_n so), (cn_n ta), (cn_n sz), li, RT', HI, (cn_n hc'), HX', HB', wn', wr', wx', wc', wb', bC', bB') → wpX_plan post ((nI now), (nI cc), (nI bc), bl, ba, (cn_n fr), (cn_n tt), (cn_n st), (cn_n en), (cn_n ra), (cn_n de), CA, TA, (cn_n so), (cn_n ta), (cn_n sz), li, RT, HI, (cn_n hc), HX, HB, wn, wr, wx, wc, wb, bC, bB) (nI b)) ∧
      (∀ (tr tb no ti ne : cn_A) (be bA : Int32) (bO bE : cn_A), ∃ (tr' tb' no' ti' ne' : cn_A) (be' bA' : Int32) (bO' bE' : cn_A), ∀ (post : SY → Prop),
        post ((nI now), (nI cc), (nI bc), be', bA', (cn_n fr), (cn_n tt), (cn_n st), (cn_n en), (cn_n ra), (cn_n de), CA, (cn_n so), (cn_n ta), (cn_n sz), li, SK', (cn_n hc'), HY', HZ', tr', tb', no', ti', ne', bO', bE') → wpY_plan post ((nI now), (nI cc), (nI bc), be, bA, (cn_n fr), (cn_n tt), (cn_n st), (cn_n en), (cn_n ra), (cn_n de), CA, (cn_n so), (cn_n ta), (cn_n sz), li, SK, (cn_n hc), HY, HZ, tr, tb, no, ti, ne, bO, bE) (nI b)) := by
  have I' := I
  obtain ⟨i1, i2, i3, i4, i5, i6, i7, i8⟩ := I'
  obtain ⟨g1, g2, g3, g4, g5, g6, g7, g8⟩ := i6 b hb
  have hnc := cn_Ca_le i4
  obtain ⟨hh, hng⟩ := g6 hR
  have hh' : hc b ≤ 5 * nc := hh
  have hng' : cn_nd so tt oc b (hc b) ≠ ta b := hng
  have hsz : ∀ b, b < bc → 1 ≤ sz b ∧ sz b ≤ 30 := fun b hb => ⟨(i6 b hb).2.2.1, (i6 b hb).2.2.2.1⟩
  cases hp : cn_pl now cc fr tt st en ra de so ta sz CA li (hc, oc, ob, TA, HX, HB, HY, HZ) b with
  | none =>
    refine ⟨hc, oc, ob, TA, HX, HB, HY, HZ, RT, upd SK b 1, cn_In_none I hR, fun _ _ => rfl, ?_, ?_⟩
    · intro HI wn wr wx wc wb bl ba bC bB
      obtain ⟨wn', wr', wx', wc', wb', bl', ba', bC', bB', f⟩ := cx_plan (now := now) (bl := bl) (ba := ba) (CA := CA) (li := li) (RT := RT) (HI := HI) (wn := wn) (wr := wr) (wx := wx) (wc := wc) (wb := wb) (bC := bC) (bB := bB) i2 i5 i3 hb g1 g2 g3 g4 (by omega) i1
      exact ⟨wn', wr', wx', wc', wb', bl', ba', bC', bB', fun post h => f post (fun _ => h) (fun l hl => absurd (hp.symm.trans hl) (by simp))⟩
    · intro tr tb no ti ne be bA bO bE
      obtain ⟨tr', tb', no', ti', ne', be', bA', bO', bE', f⟩ := cy_plan (now := now) (be := be) (bA := bA) (CA := CA) (li := li) (SK := SK) (tr := tr) (tb := tb) (no := no) (ti := ti) (ne := ne) (bO := bO) (bE := bE) i2 i5 i3 hsz hb g1 g2 hng' (by omega) i1
      exact ⟨tr', tb', no', ti', ne', be', bA', bO', bE', fun post h => f post (fun _ => h) (fun l hl => absurd (hp.symm.trans hl) (by simp))⟩
  | some l =>
    refine ⟨(l.foldl (cn_ap ra sz b) (hc, oc, ob, TA, HX, HB, HY, HZ)).1, (l.foldl (cn_ap ra sz b) (hc, oc, ob, TA, HX, HB, HY, HZ)).2.1, (l.foldl (cn_ap ra sz b) (hc, oc, ob, TA, HX, HB, HY, HZ)).2.2.1, (l.foldl (cn_ap ra sz b) (hc, oc, ob, TA, HX, HB, HY, HZ)).2.2.2.1, (l.foldl (cn_ap ra sz b) (hc, oc, ob, TA, HX, HB, HY, HZ)).2.2.2.2.1, (l.foldl (cn_ap ra sz b) (hc, oc, ob, TA, HX, HB, HY, HZ)).2.2.2.2.2.1, (l.foldl (cn_ap ra sz b) (hc, oc, ob, TA, HX, HB, HY, HZ)).2.2.2.2.2.2.1, (l.foldl (cn_ap ra sz b) (hc, oc, ob, TA, HX, HB, HY, HZ)).2.2.2.2.2.2.2, upd RT b 1, upd SK b 0, cn_In_some I hb hR hp, fun _ hj => pk_un hj, ?_, ?_⟩
    · intro HI wn wr wx wc wb bl ba bC bB
      obtain ⟨wn', wr', wx', wc', wb', bl', ba', bC', bB', f⟩ := cx_plan (now := now) (bl := bl) (ba := ba) (CA := CA) (li := li) (RT := RT) (HI := HI) (wn := wn) (wr := wr) (wx := wx) (wc := wc) (wb := wb) (bC := bC) (bB := bB) i2 i5 i3 hb g1 g2 g3 g4 (by omega) i1
      exact ⟨wn', wr', wx', wc', wb', bl', ba', bC', bB', fun post h => f post (fun hn => absurd (hp.symm.trans hn) (by simp)) (fun l' hl => by
        have e := Option.some.inj (hp.symm.trans hl)
        rw [← e]; exact h)⟩
    · intro tr tb no ti ne be bA bO bE
      obtain ⟨tr', tb', no', ti', ne', be', bA', bO', bE', f⟩ := cy_plan (now := now) (be := be) (bA := bA) (CA := CA) (li := li) (SK := SK) (tr := tr) (tb := tb) (no := no) (ti := ti) (ne := ne) (bO := bO) (bE := bE) i2 i5 i3 hsz hb g1 g2 hng' (by omega) i1
      exact ⟨tr', tb', no', ti', ne', be', bA', bO', bE', fun post h => f post (fun hn => absurd (hp.symm.trans hn) (by simp)) (fun l' hl => by
        have e := Option.some.inj (hp.symm.trans hl)
        rw [← e]; exact h)⟩
theorem cn_retryXY : ∀ (m i : Nat) (hc : Nat → Nat) (oc ob : Nat → Nat → Nat) (TA HX HB HY HZ RT SK : Nat → Int32), i + m = bc → cn_In now cc bc nc fr tt st en ra de so ta sz CA RT SK (hc, oc, ob, TA, HX, HB, HY, HZ) (fun _ => True) →
    ∃ (hc' : Nat → Nat) (oc' ob' : Nat → Nat → Nat) (TA' HX' HB' HY' HZ' RT' SK' : Nat → Int32), cn_In now cc bc nc fr tt st en ra de so ta sz CA RT' SK' (hc', oc', ob', TA', HX', HB', HY', HZ') (fun _ => True) ∧
      (∀ (HI wn wr wx wc wb : cn_A) (bl ba : Int32) (bC bB : cn_A), ∃ (wn' wr' wx' wc' wb' : cn_A) (bl' ba' : Int32) (bC' bB' : cn_A), ∀ (post : SX → Prop),
        post ((nI now), (nI cc), (nI bc), bl', ba', (cn_n fr), (cn_n tt), (cn_n st), (cn_n en), (cn_n ra), (cn_n de), CA, TA', (cn_n so), (cn_n ta), (cn_n sz), li, RT', HI, (cn_n hc'), HX', HB', wn', wr', wx', wc', wb', bC', bB') → wX_retry_2 post (m + 1) (nI i) (nI now) (nI cc) (nI bc) bl ba (cn_n fr) (cn_n tt) (cn_n st) (cn_n en) (cn_n ra) (cn_n de) CA TA (cn_n so) (cn_n ta) (cn_n sz) li RT HI (cn_n hc) HX HB wn wr wx wc wb bC bB) ∧
      (∀ (tr tb no ti ne : cn_A) (be bA : Int32) (bO bE : cn_A), ∃ (tr' tb' no' ti' ne' : cn_A) (be' bA' : Int32) (bO' bE' : cn_A), ∀ (post : SY → Prop),
        post ((nI now), (nI cc), (nI bc), be', bA', (cn_n fr), (cn_n tt), (cn_n st), (cn_n en), (cn_n ra), (cn_n de), CA, (cn_n so), (cn_n ta), (cn_n sz), li, SK', (cn_n hc'), HY', HZ', tr', tb', no', ti', ne', bO', bE') → wY_retry_2 post (m + 1) (nI i) (nI now) (nI cc) (nI bc) be bA (cn_n fr) (cn_n tt) (cn_n st) (cn_n en) (cn_n ra) (cn_n de) CA (cn_n so) (cn_n ta) (cn_n sz) li SK (cn_n hc) HY HZ tr tb no ti ne bO bE) := by
  intro m
  induction m with
  | zero =>
    intro i hc oc ob TA HX HB HY HZ RT SK hi I
    have hbc := I.2.2.1
    exact ⟨hc, oc, ob, TA, HX, HB, HY, HZ, RT, SK, I, fun HI wn wr wx wc wb bl ba bC bB => ⟨wn, wr, wx, wc, wb, bl, ba, bC, bB, fun post h => br_t (nI_le (by omega) (by omega)) h⟩,
      fun tr tb no ti ne be bA bO bE => ⟨tr, tb, no, ti, ne, be, bA, bO, bE, fun post h => br_t (nI_le (by omega) (by omega)) h⟩⟩
  | succ m ih =>
    intro i hc oc ob TA HX HB HY HZ RT SK hi I
    have hbc := I.2.2.1
    have hvi : vp_in (nI i) 10 := vp_in_nI (by omega) (by omega)
    have ci : (nI i).toNatClampNeg = i := nI_clamp (by omega)
    have hge : ¬ nI bc ≤ nI i := nI_ge (by omega) (by omega)
    rcases I.2.2.2.2.2.2.2 i (by omega) trivial with ⟨z1, z2⟩ | ⟨z1, z2⟩
    · obtain ⟨hc', oc', ob', TA', HX', HB', HY', HZ', RT', SK', J, jx, jy⟩ := ih (i + 1) hc oc ob TA HX HB HY HZ RT SK (by omega) I
      refine ⟨hc', oc', ob', TA', HX', HB', HY', HZ', RT', SK', J, ?_, ?_⟩
      · intro HI wn wr wx wc wb bl ba bC bB
        obtain ⟨wn', wr', wx', wc', wb', bl', ba', bC', bB', f⟩ := jx HI wn wr wx wc wb bl ba bC bB
        exact ⟨wn', wr', wx', wc', wb', bl', ba', bC', bB', fun post h => br_f hge ⟨hvi, br_f (by rw [ci, z2]; decide) (nm_r (nI_1 i) (f post h))⟩⟩
      · intro tr tb no ti ne be bA bO bE
        obtain ⟨tr', tb', no', ti', ne', be', bA', bO', bE', f⟩ := jy tr tb no ti ne be bA bO bE
        exact ⟨tr', tb', no', ti', ne', be', bA', bO', bE', fun post h => br_f hge ⟨hvi, br_t (by rw [ci, z1]) (nm_r (nI_1 i) (f post h))⟩⟩
    · obtain ⟨hc1, oc1, ob1, TA1, HX1, HB1, HY1, HZ1, RT1, SK1, J1, _, x1, y1⟩ := cn_planXY (li := li) I (b := i) (by omega) z2
      obtain ⟨hc', oc', ob', TA', HX', HB', HY', HZ', RT', SK', J, jx, jy⟩ := ih (i + 1) hc1 oc1 ob1 TA1 HX1 HB1 HY1 HZ1 RT1 SK1 (by omega) (cn_In_Q J1 (fun _ _ _ => Or.inl trivial))
      refine ⟨hc', oc', ob', TA', HX', HB', HY', HZ', RT', SK', J, ?_, ?_⟩
      · intro HI wn wr wx wc wb bl ba bC bB
        obtain ⟨wn1, wr1, wx1, wc1, wb1, bl1, ba1, bC1, bB1, f1⟩ := x1 HI wn wr wx wc wb bl ba bC bB
        obtain ⟨wn', wr', wx', wc', wb', bl', ba', bC', bB', f⟩ := jx HI wn1 wr1 wx1 wc1 wb1 bl1 ba1 bC1 bB1
        exact ⟨wn', wr', wx', wc', wb', bl', ba', bC', bB', fun post h => br_f hge ⟨hvi, br_t (by rw [ci, z2]) (f1 _ (nm_r (nI_1 i) (f post h)))⟩⟩
      · intro tr tb no ti ne be bA bO bE
        obtain ⟨tr1, tb1, no1, ti1, ne1, be1, bA1, bO1, bE1, f1⟩ := y1 tr tb no ti ne be bA bO bE
        obtain ⟨tr', tb', no', ti', ne', be', bA', bO', bE', f⟩ := jy tr1 tb1 no1 ti1 ne1 be1 bA1 bO1 bE1
        exact ⟨tr', tb', no', ti', ne', be', bA', bO', bE', fun post h => br_f hge ⟨hvi, br_f (by rw [ci, z1]; decide) (f1 _ (nm_r (nI_1 i) (f post h)))⟩⟩
end
