section
variable {now cc bc nc : Nat} {bl ba be bA : Int32} {fr tt st en ra de so ta sz hc : Nat → Nat} {oc ob : Nat → Nat → Nat} {CA TA li RT HI HX HB wn wr wx wc wb bC bB SK HY HZ tr tb no ti ne bO bE : Nat → Int32}
theorem cy_plan24 (N : cn_Net cc fr tt st en ra de) (H : cn_Iv cc bc fr tt st en ra so sz (hc, oc, ob, TA, HX, HB, HY, HZ)) (hbc : bc ≤ 10) (hsz : ∀ b, b < bc → 1 ≤ sz b ∧ sz b ≤ 30) {b time : Nat} (hb : b < bc) (hso : so b < 6) (hta : ta b < 6) (hng : cn_nd so tt oc b (hc b) ≠ ta b) (hh : hc b ≤ 50) (ht : time ≤ 200000) :
    ∃ (tr' tb' no' ti' ne' : cn_A) (be' bA' : Int32) (bO' bE' : cn_A), ∀ (post : SY → Prop) (p : Int32), p = nI time →
      (cn_bst cc fr tt st en ra de CA TA (ta b) (sz b) (cn_nd so tt oc b (hc b)) time = none → post ((nI now), (nI cc), (nI bc), be', bA', (cn_n fr), (cn_n tt), (cn_n st), (cn_n en), (cn_n ra), (cn_n de), CA, (cn_n so), (cn_n ta), (cn_n sz), li, (upd SK b 1), (cn_n hc), HY, HZ, tr', tb', no', ti', ne', bO', bE')) →
      (∀ r, cn_bst cc fr tt st en ra de CA TA (ta b) (sz b) (cn_nd so tt oc b (hc b)) time = some r → ¬ nI r.2 ≤ li b → post ((nI now), (nI cc), (nI bc), be', bA', (cn_n fr), (cn_n tt), (cn_n st), (cn_n en), (cn_n ra), (cn_n de), CA, (cn_n so), (cn_n ta), (cn_n sz), li, (upd SK b 1), (cn_n hc), HY, HZ, tr', tb', no', ti', ne', bO', bE')) →
      (∀ r, cn_bst cc fr tt st en ra de CA TA (ta b) (sz b) (cn_nd so tt oc b (hc b)) time = some r → nI r.2 ≤ li b →
        post ((nI now), (nI cc), (nI bc), be', bA', (cn_n fr), (cn_n tt), (cn_n st), (cn_n en), (cn_n ra), (cn_n de), CA, (cn_n so), (cn_n ta), (cn_n sz), li, (upd SK b 0), (cn_n (r.1.foldl (cn_ap ra sz b) (hc, oc, ob, TA, HX, HB, HY, HZ)).1), ((r.1.foldl (cn_ap ra sz b) (hc, oc, ob, TA, HX, HB, HY, HZ)).2.2.2.2.2.2.1), ((r.1.foldl (cn_ap ra sz b) (hc, oc, ob, TA, HX, HB, HY, HZ)).2.2.2.2.2.2.2), tr', tb', no', ti', ne', bO', bE')) →
      wY_plan_24 post (nI b) p (nI now) (nI cc) (nI bc) be bA (cn_n fr) (cn_n tt) (cn_n st) (cn_n en) (cn_n ra) (cn_n de) CA (cn_n so) (cn_n ta) (cn_n sz) li SK (cn_n hc) HY HZ tr tb no ti ne bO bE := by
  have hvb : vp_in (nI b) 10 := vp_in_nI (by omega) (by omega)
  have cb : (nI b).toNatClampNeg = b := nI_clamp (by omega)
  obtain ⟨hz1, hz2⟩ := hsz b hb
  obtain ⟨tr', tb', no', ti', ne', be', bA', bO', bE', f1, f2⟩ := cy_find (now := now) (be := be) (bA := bA) (ta := ta) (CA := CA) (li := li) (SK := SK) (tr := tr) (tb := tb) (no := no) (ti := ti) (ne := ne) (bO := bO) (bE := bE) (goal := ta b) (z := sz b) N H hbc hsz hz1 hz2 hta (cn_nd6 N H hb hso) ht hng
  refine ⟨tr', tb', no', ti', ne', be', bA', bO', bE', ?_⟩
  intro post p ep h0 h1 h2
  rw [ep]
  refine cy_lastN N H hbc hb ⟨hvb, hvb, f2 _ _ _ _ _ rfl rfl (by rw [cb]; rfl) (by rw [cb]; rfl) (fun hr => ?_) (fun r hr => ?_)⟩
  · exact br_t rfl ⟨hvb, nm_r (e' := upd SK b 1) (by rw [cb, cx_b1]) ⟨hvb, br_f (by rw [cb, pk_us]; decide) (h0 hr)⟩⟩
  · rw [hr] at f1
    obtain ⟨b1, b2, b3, b4, b5, b6⟩ := f1
    by_cases hc1 : nI r.2 ≤ li b
    · obtain ⟨m1, m2, m3, m4, m5, m6⟩ := cn_mayOf N hr
      have hp := h2 r hr hc1
      rw [b4] at hp
      refine br_f (by decide) ⟨hvb, br_t (by rw [cb, b5]; exact hc1) ⟨hvb, nm_r (e' := upd SK b 0) (by rw [cb, cx_b0]) ⟨hvb, br_t (by rw [cb, pk_us]) ?_⟩⟩⟩
      rw [b4]
      exact ⟨r.1.length + 1, cy_book (by omega) m2 r.1 0 (hc, oc, ob, TA, HX, HB, HY, HZ) (by omega) (fun j hj => by rw [Nat.zero_add]; exact b6 j hj) (by show hc b + r.1.length ≤ 60; omega) hp⟩
    · exact br_f (by decide) ⟨hvb, br_f (by rw [cb, b5]; exact hc1) ⟨hvb, nm_r (e' := upd SK b 1) (by rw [cb, cx_b1]) ⟨hvb, br_f (by rw [cb, pk_us]; decide) (h1 r hr hc1)⟩⟩⟩
theorem cy_plan (N : cn_Net cc fr tt st en ra de) (H : cn_Iv cc bc fr tt st en ra so sz (hc, oc, ob, TA, HX, HB, HY, HZ)) (hbc : bc ≤ 10) (hsz : ∀ b, b < bc → 1 ≤ sz b ∧ sz b ≤ 30) {b : Nat} (hb : b < bc) (hso : so b < 6) (hta : ta b < 6) (hng : cn_nd so tt oc b (hc b) ≠ ta b) (hh : hc b ≤ 50) (hnow : now ≤ 102400) :
    ∃ (tr' tb' no' ti' ne' : cn_A) (be' bA' : Int32) (bO' bE' : cn_A), ∀ (post : SY → Prop),
      (cn_pl now cc fr tt st en ra de so ta sz CA li (hc, oc, ob, TA, HX, HB, HY, HZ) b = none → post ((nI now), (nI cc), (nI bc), be', bA', (cn_n fr), (cn_n tt), (cn_n st), (cn_n en), (cn_n ra), (cn_n de), CA, (cn_n so), (cn_n ta), (cn_n sz), li, (upd SK b 1), (cn_n hc), HY, HZ, tr', tb', no', ti', ne', bO', bE')) →
      (∀ l, cn_pl now cc fr tt st en ra de so ta sz CA li (hc, oc, ob, TA, HX, HB, HY, HZ) b = some l →
        post ((nI now), (nI cc), (nI bc), be', bA', (cn_n fr), (cn_n tt), (cn_n st), (cn_n en), (cn_n ra), (cn_n de), CA, (cn_n so), (cn_n ta), (cn_n sz), li, (upd SK b 0), (cn_n (l.foldl (cn_ap ra sz b) (hc, oc, ob, TA, HX, HB, HY, HZ)).1), ((l.foldl (cn_ap ra sz b) (hc, oc, ob, TA, HX, HB, HY, HZ)).2.2.2.2.2.2.1), ((l.foldl (cn_ap ra sz b) (hc, oc, ob, TA, HX, HB, HY, HZ)).2.2.2.2.2.2.2), tr', tb', no', ti', ne', bO', bE')) →
      wpY_plan post ((nI now), (nI cc), (nI bc), be, bA, (cn_n fr), (cn_n tt), (cn_n st), (cn_n en), (cn_n ra), (cn_n de), CA, (cn_n so), (cn_n ta), (cn_n sz), li, SK, (cn_n hc), HY, HZ, tr, tb, no, ti, ne, bO, bE) (nI b) := by
  have hcm := cn_cm_le N H hb
  have ht := cn_mx_le (a := cn_cm ra de sz hc oc ob b) (b := now) (n := 200000) (by omega) (by omega)
  obtain ⟨tr', tb', no', ti', ne', be', bA', bO', bE', f⟩ := cy_plan24 (now := now) (be := be) (bA := bA) (CA := CA) (li := li) (SK := SK) (tr := tr) (tb := tb) (no := no) (ti := ti) (ne := ne) (bO := bO) (bE := bE) N H hbc hsz hb hso hta hng hh ht
  refine ⟨tr', tb', no', ti', ne', be', bA', bO', bE', ?_⟩
  intro post h0 h1
  have g := fun p ep => f post p ep (fun hr => h0 (cn_pl_n (s := (hc, oc, ob, TA, HX, HB, HY, HZ)) hr)) (fun r hr hl => h0 (cn_pl_l (s := (hc, oc, ob, TA, HX, HB, HY, HZ)) hr hl)) (fun r hr hl => h1 r.1 (cn_pl_s (s := (hc, oc, ob, TA, HX, HB, HY, HZ)) hr hl))
  have hz2 := (hsz b hb).2
  unfold wpY_plan
  dsimp only
  refine cy_lastT N H hbc hb hz2 ?_
  by_cases hle : cn_cm ra de sz hc oc ob b ≤ now
  · refine br_t (nI_le hle (by omega)) (g _ ?_)
    unfold cn_mx; rw [if_neg (by omega)]
  · refine br_f (nI_ge (by omega) (by omega)) (cy_lastT N H hbc hb hz2 (g _ ?_))
    unfold cn_mx; rw [if_pos (by omega)]
end
