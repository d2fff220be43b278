section
variable {now cc bc nc : Nat} {bl ba be bA : Int32} {fr tt st en ra de so ta sz hc : Nat → Nat} {oc ob : Nat → Nat → Nat} {CA TA li RT HI HX HB wn wr wx wc wb bC bB SK HY HZ tr tb no ti ne bO bE : Nat → Int32}
theorem cn_nd6 (N : cn_Net cc fr tt st en ra de) (H : cn_Iv cc bc fr tt st en ra so sz (hc, oc, ob, TA, HX, HB, HY, HZ)) {b : Nat} (hb : b < bc) (hs : so b < 6) : cn_nd so tt oc b (hc b) < 6 := by
  cases h : hc b with
  | zero => exact hs
  | succ i =>
    have g : oc b i < cc := (H.1.1 b i hb (by show i < hc b; omega)).1
    exact (N.2 _ g).2.1
theorem cn_mayOf (N : cn_Net cc fr tt st en ra de) {z goal node time : Nat} {r : cn_R} (h : cn_bst cc fr tt st en ra de CA TA goal z node time = some r) :
    r.1 ≠ [] ∧ r.1.length ≤ 5 ∧ (∀ x, x ∈ r.1 → cn_may cc st en ra z TA x) ∧ cn_ch fr tt node r.1 ∧ (r.1.map Prod.fst).Nodup ∧ (∀ i, i + 1 < r.1.length → tt (r.1.getD i (0, 0)).1 ≠ goal) := by
  obtain ⟨l, a⟩ := r
  obtain ⟨q1, q2, q3, q4, q5⟩ := cn_res (fun k hk => (N.2 k hk).2.2.1) h
  obtain ⟨m1, m2⟩ := cn_wkMay l node time a q3
  exact ⟨q1, q2, m1, m2, q4, cn_ng l [] node q5⟩
theorem cn_may10 (N : cn_Net cc fr tt st en ra de) {z : Nat} {x : Nat × Nat} (h : cn_may cc st en ra z TA x) : x.1 < 10 ∧ 1 ≤ ra x.1 ∧ ra x.1 ≤ 9 ∧ x.2 + cn_tk ra x.1 z ≤ 100 := by
  obtain ⟨h1, h2, h3, h4⟩ := h
  obtain ⟨n1, n2, n3, n4, n5, n6, n7, n8⟩ := N.2 x.1 h1
  have := N.1
  exact ⟨by omega, n6, n7, by omega⟩
theorem cx_plan22 (N : cn_Net cc fr tt st en ra de) (H : cn_Iv cc bc fr tt st en ra so sz (hc, oc, ob, TA, HX, HB, HY, HZ)) (hbc : bc ≤ 10) {b time : Nat} (hb : b < bc) (hso : so b < 6) (hta : ta b < 6) (hz1 : 1 ≤ sz b) (hz2 : sz b ≤ 30) (hh : hc b ≤ 50) (ht : time ≤ 200000) :
    ∃ (wn' wr' wx' wc' wb' : cn_A) (bl' ba' : Int32) (bC' bB' : cn_A), ∀ (post : SX → Prop) (p : Int32), p = nI time →
      (cn_bst cc fr tt st en ra de CA TA (ta b) (sz b) (cn_nd so tt oc b (hc b)) time = none → post ((nI now), (nI cc), (nI bc), bl', ba', (cn_n fr), (cn_n tt), (cn_n st), (cn_n en), (cn_n ra), (cn_n de), CA, TA, (cn_n so), (cn_n ta), (cn_n sz), li, RT, HI, (cn_n hc), HX, HB, wn', wr', wx', wc', wb', bC', bB')) →
      (∀ r, cn_bst cc fr tt st en ra de CA TA (ta b) (sz b) (cn_nd so tt oc b (hc b)) time = some r → ¬ nI r.2 ≤ li b → post ((nI now), (nI cc), (nI bc), bl', ba', (cn_n fr), (cn_n tt), (cn_n st), (cn_n en), (cn_n ra), (cn_n de), CA, TA, (cn_n so), (cn_n ta), (cn_n sz), li, RT, HI, (cn_n hc), HX, HB, wn', wr', wx', wc', wb', bC', bB')) →
      (∀ r, cn_bst cc fr tt st en ra de CA TA (ta b) (sz b) (cn_nd so tt oc b (hc b)) time = some r → nI r.2 ≤ li b →
        post ((nI now), (nI cc), (nI bc), bl', ba', (cn_n fr), (cn_n tt), (cn_n st), (cn_n en), (cn_n ra), (cn_n de), CA, ((r.1.foldl (cn_ap ra sz b) (hc, oc, ob, TA, HX, HB, HY, HZ)).2.2.2.1), (cn_n so), (cn_n ta), (cn_n sz), li, (upd RT b 1), HI, (cn_n (r.1.foldl (cn_ap ra sz b) (hc, oc, ob, TA, HX, HB, HY, HZ)).1), ((r.1.foldl (cn_ap ra sz b) (hc, oc, ob, TA, HX, HB, HY, HZ)).2.2.2.2.1), ((r.1.foldl (cn_ap ra sz b) (hc, oc, ob, TA, HX, HB, HY, HZ)).2.2.2.2.2.1), wn', wr', wx', wc', wb', bC', bB')) →
      wX_plan_22 post (nI b) p (nI now) (nI cc) (nI bc) bl ba (cn_n fr) (cn_n tt) (cn_n st) (cn_n en) (cn_n ra) (cn_n de) CA TA (cn_n so) (cn_n ta) (cn_n sz) li RT HI (cn_n hc) HX HB wn wr wx wc wb bC bB := by
  have hvb : vp_in (nI b) 10 := vp_in_nI (by omega) (by omega)
  have cb : (nI b).toNatClampNeg = b := nI_clamp (by omega)
  obtain ⟨wn', wr', wx', wc', wb', bl', ba', bC', bB', f1, f2⟩ := cx_find (now := now) (bc := bc) (bl := bl) (ba := ba) (so := so) (ta := ta) (sz := sz) (hc := hc) (CA := CA) (TA := TA) (li := li) (RT := RT) (HI := HI) (HX := HX) (HB := HB) (wn := wn) (wr := wr) (wx := wx) (wc := wc) (wb := wb) (bC := bC) (bB := bB) (goal := ta b) (z := sz b) N hz1 hz2 hta (cn_nd6 N H hb hso) ht
  refine ⟨wn', wr', wx', wc', wb', bl', ba', bC', bB', ?_⟩
  intro post p ep h0 h1 h2
  rw [ep]
  refine cx_lastN N H hbc hb ⟨hvb, hvb, f2 _ _ _ _ _ rfl (by rw [cb]; rfl) (by rw [cb]; rfl) rfl ?_⟩
  cases hr : cn_bst cc fr tt st en ra de CA TA (ta b) (sz b) (cn_nd so tt oc b (hc b)) time with
  | none =>
    rw [hr] at f1
    have hb0 : bl' = 0 := f1
    exact br_t (by rw [hb0]; decide) (h0 hr)
  | some r =>
    rw [hr] at f1
    obtain ⟨b1, b2, b3, b4, b5, b6⟩ := f1
    have hne : ¬ bl' ≤ 0 := by rw [b4]; exact nI_nle (List.length_pos_iff.mpr b1) (by omega)
    by_cases hc1 : nI r.2 ≤ li b
    · have hlt : ¬ (li (nI b).toNatClampNeg < ba') := by rw [cb, b5]; exact Int32.not_lt.mpr hc1
      obtain ⟨m1, m2, m3, m4, m5, m6⟩ := cn_mayOf N hr
      refine br_f hne ⟨hvb, br_f hlt ?_⟩
      have hp := h2 r hr hc1
      rw [b4] at hp
      rw [b4]
      exact ⟨r.1.length + 1, cx_book (by omega) hz2 m2 r.1 0 (hc, oc, ob, TA, HX, HB, HY, HZ) (by omega) (fun j hj => by rw [Nat.zero_add]; exact b6 j hj) (fun x hx => cn_may10 N (m3 x hx)) (by show hc b + r.1.length ≤ 60; omega) hp⟩
    · have hlt : li (nI b).toNatClampNeg < ba' := by rw [cb, b5]; exact Int32.not_le.mp hc1
      exact br_f hne ⟨hvb, br_t hlt (h1 r hr hc1)⟩
theorem cn_pl_n {s : cn_St} {b : Nat} (h : cn_bst cc fr tt st en ra de CA s.2.2.2.1 (ta b) (sz b) (cn_nd so tt s.2.1 b (s.1 b)) (cn_mx (cn_cm ra de sz s.1 s.2.1 s.2.2.1 b) now) = none) : cn_pl now cc fr tt st en ra de so ta sz CA li s b = none := by
  unfold cn_pl; rw [h]
theorem cn_pl_l {s : cn_St} {b : Nat} {r : cn_R} (h : cn_bst cc fr tt st en ra de CA s.2.2.2.1 (ta b) (sz b) (cn_nd so tt s.2.1 b (s.1 b)) (cn_mx (cn_cm ra de sz s.1 s.2.1 s.2.2.1 b) now) = some r) (h2 : ¬ nI r.2 ≤ li b) : cn_pl now cc fr tt st en ra de so ta sz CA li s b = none := by
  unfold cn_pl; rw [h]; exact if_neg h2
theorem cn_pl_s {s : cn_St} {b : Nat} {r : cn_R} (h : cn_bst cc fr tt st en ra de CA s.2.2.2.1 (ta b) (sz b) (cn_nd so tt s.2.1 b (s.1 b)) (cn_mx (cn_cm ra de sz s.1 s.2.1 s.2.2.1 b) now) = some r) (h2 : nI r.2 ≤ li b) : cn_pl now cc fr tt st en ra de so ta sz CA li s b = some r.1 := by
  unfold cn_pl; rw [h]; exact if_pos h2
theorem cx_plan (N : cn_Net cc fr tt st en ra de) (H : cn_Iv cc bc fr tt st en ra so sz (hc, oc, ob, TA, HX, HB, HY, HZ)) (hbc : bc ≤ 10) {b : Nat} (hb : b < bc) (hso : so b < 6) (hta : ta b < 6) (hz1 : 1 ≤ sz b) (hz2 : sz b ≤ 30) (hh : hc b ≤ 50) (hnow : now ≤ 102400) :
    ∃ (wn' wr' wx' wc' wb' : cn_A) (bl' ba' : Int32) (bC' bB' : cn_A), ∀ (post : SX → Prop),
      (cn_pl now cc fr tt st en ra de so ta sz CA li (hc, oc, ob, TA, HX, HB, HY, HZ) b = none → post ((nI now), (nI cc), (nI bc), bl', ba', (cn_n fr), (cn_n tt), (cn_n st), (cn_n en), (cn_n ra), (cn_n de), CA, TA, (cn_n so), (cn_n ta), (cn_n sz), li, RT, HI, (cn_n hc), HX, HB, wn', wr', wx', wc', wb', bC', bB')) →
      (∀ l, cn_pl now cc fr tt st en ra de so ta sz CA li (hc, oc, ob, TA, HX, HB, HY, HZ) b = some l →
        post ((nI now), (nI cc), (nI bc), bl', ba', (cn_n fr), (cn_n tt), (cn_n st), (cn_n en), (cn_n ra), (cn_n de), CA, ((l.foldl (cn_ap ra sz b) (hc, oc, ob, TA, HX, HB, HY, HZ)).2.2.2.1), (cn_n so), (cn_n ta), (cn_n sz), li, (upd RT b 1), HI, (cn_n (l.foldl (cn_ap ra sz b) (hc, oc, ob, TA, HX, HB, HY, HZ)).1), ((l.foldl (cn_ap ra sz b) (hc, oc, ob, TA, HX, HB, HY, HZ)).2.2.2.2.1), ((l.foldl (cn_ap ra sz b) (hc, oc, ob, TA, HX, HB, HY, HZ)).2.2.2.2.2.1), wn', wr', wx', wc', wb', bC', bB')) →
      wpX_plan post ((nI now), (nI cc), (nI bc), bl, ba, (cn_n fr), (cn_n tt), (cn_n st), (cn_n en), (cn_n ra), (cn_n de), CA, TA, (cn_n so), (cn_n ta), (cn_n sz), li, RT, HI, (cn_n hc), HX, HB, wn, wr, wx, wc, wb, bC, bB) (nI b) := by
  have hcm := cn_cm_le N H hb
  have ht := cn_mx_le (a := cn_cm ra de sz hc oc ob b) (b := now) (n := 200000) (by omega) (by omega)
  obtain ⟨wn', wr', wx', wc', wb', bl', ba', bC', bB', f⟩ := cx_plan22 (now := now) (bl := bl) (ba := ba) (CA := CA) (li := li) (RT := RT) (HI := HI) (wn := wn) (wr := wr) (wx := wx) (wc := wc) (wb := wb) (bC := bC) (bB := bB) N H hbc hb hso hta hz1 hz2 hh ht
  refine ⟨wn', wr', wx', wc', wb', bl', ba', bC', bB', ?_⟩
  intro post h0 h1
  have g := fun p ep => f post p ep (fun hr => h0 (cn_pl_n (s := (hc, oc, ob, TA, HX, HB, HY, HZ)) hr)) (fun r hr hl => h0 (cn_pl_l (s := (hc, oc, ob, TA, HX, HB, HY, HZ)) hr hl)) (fun r hr hl => h1 r.1 (cn_pl_s (s := (hc, oc, ob, TA, HX, HB, HY, HZ)) hr hl))
  unfold wpX_plan
  dsimp only
  refine cx_lastC N H hbc hb hz2 (fun h => ?_) (fun h => ?_)
  · refine br_t ?_ (g _ ?_)
    · exact Int32.le_trans (show (-1 : Int32) ≤ 0 by decide) (nI_pos' (by omega))
    · rw [cn_cm_0 h]; rfl
  · by_cases hle : cn_cm ra de sz hc oc ob b ≤ now
    · refine br_t (nI_le hle (by omega)) (g _ ?_)
      unfold cn_mx; rw [if_neg (by omega)]
    · refine br_f (nI_ge (by omega) (by omega)) (g _ ?_)
      unfold cn_mx; rw [if_pos (by omega)]
end
