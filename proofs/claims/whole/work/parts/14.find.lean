/-- the best route -/
def cn_bst (cc : Nat) (fr tt st en ra de : Nat → Nat) (CA TA : Nat → Int32) (goal z node time : Nat) : Option cn_R :=
  (cn_xS cc fr tt (cn_ok CA) (cn_E (cn_T TA) st en (fun k => cn_tk ra k z)) (fun k => cn_tk ra k z + de k) goal 5 [] node time).foldl cn_f none
section
variable {now cc bc : Nat} {bl ba be bA : Int32} {fr tt st en ra de so ta sz hc : Nat → Nat} {oc ob : Nat → Nat → Nat} {CA TA li RT HI HX HB wn wr wx wc wb bC bB SK HY HZ tr tb no ti ne bO bE : Nat → Int32} {goal z : Nat}
theorem cn_E200 (N : cn_Net cc fr tt st en ra de) : ∀ k t b, k < cc → cn_E (cn_T TA) st en (fun k => cn_tk ra k z) k t = some b → b + (cn_tk ra k z + de k) ≤ 200 := by
  intro k t b hk hE
  obtain ⟨n1, n2, n3, n4, n5, n6, n7, n8⟩ := N.2 k hk
  have := (cn_eb_some.mp hE).2.1
  have h : b + cn_tk ra k z ≤ en k := this
  omega
theorem cx_find (N : cn_Net cc fr tt st en ra de) (hz1 : 1 ≤ z) (hz2 : z ≤ 30) (hg6 : goal < 6) {node time : Nat} (hn6 : node < 6) (ht : time ≤ 200000) :
    ∃ (wn' wr' wx' wc' wb' : cn_A) (bl' ba' : Int32) (bC' bB' : cn_A), cn_BR (cn_bst cc fr tt st en ra de CA TA goal z node time) bl' ba' bC' bB' ∧
      ∀ (post : SX → Prop) (p0 p1 p2 p3 : Int32), p0 = nI node → p1 = nI goal → p2 = nI z → p3 = nI time → post ((nI now), (nI cc), (nI bc), bl', ba', (cn_n fr), (cn_n tt), (cn_n st), (cn_n en), (cn_n ra), (cn_n de), CA, TA, (cn_n so), (cn_n ta), (cn_n sz), li, RT, HI, (cn_n hc), HX, HB, wn', wr', wx', wc', wb', bC', bB') → wpX_findBest post ((nI now), (nI cc), (nI bc), bl, ba, (cn_n fr), (cn_n tt), (cn_n st), (cn_n en), (cn_n ra), (cn_n de), CA, TA, (cn_n so), (cn_n ta), (cn_n sz), li, RT, HI, (cn_n hc), HX, HB, wn, wr, wx, wc, wb, bC, bB) p0 p1 p2 p3 := by
  obtain ⟨step', wn', wr', wx', wc', wb', bl', ba', bC', bB', f1, f2, f3⟩ := cn_xAll (cx_rules (now := now) (bc := bc) (so := so) (ta := ta) (sz := sz) (hc := hc) (CA := CA) (TA := TA) (li := li) (RT := RT) (HI := HI) (HX := HX) (HB := HB) N hz1 hz2 hg6) N.1 (fun k hk => (N.2 k hk).2.1) (cn_E200 N) node time
    (upd wn 0 (nI node)) (upd wr 0 (nI time)) (upd wx 0 0) wc wb 0 bC bB pk_us hn6 pk_us ht pk_us
  refine ⟨wn', wr', wx', wc', wb', bl', ba', bC', bB', f1, ?_⟩
  intro post p0 p1 p2 p3 e0 e1 e2 e3 hp
  rw [e0, e1, e2, e3]
  exact nm_e (nm_e (nm_e (f3 post ⟨1, br_c (fun _ => hp) (fun _ => br_t (by decide) hp)⟩)))
theorem cy_find (N : cn_Net cc fr tt st en ra de) (H : cn_Iv cc bc fr tt st en ra so sz (hc, oc, ob, TA, HX, HB, HY, HZ)) (hbc : bc ≤ 10) (hsz : ∀ b, b < bc → 1 ≤ sz b ∧ sz b ≤ 30) (hz1 : 1 ≤ z) (hz2 : z ≤ 30) (hg6 : goal < 6) {node time : Nat} (hn6 : node < 6) (ht : time ≤ 200000) (hng : node ≠ goal) :
    ∃ (tr' tb' no' ti' ne' : cn_A) (be' bA' : Int32) (bO' bE' : cn_A), cn_BR (cn_bst cc fr tt st en ra de CA TA goal z node time) be' bA' bO' bE' ∧
      ∀ (post : Int32 → SY → Prop) (p0 p1 p2 p3 : Int32), p0 = nI node → p1 = nI time → p2 = nI goal → p3 = nI z →
        (cn_bst cc fr tt st en ra de CA TA goal z node time = none → post 0 ((nI now), (nI cc), (nI bc), be', bA', (cn_n fr), (cn_n tt), (cn_n st), (cn_n en), (cn_n ra), (cn_n de), CA, (cn_n so), (cn_n ta), (cn_n sz), li, SK, (cn_n hc), HY, HZ, tr', tb', no', ti', ne', bO', bE')) →
        (∀ r, cn_bst cc fr tt st en ra de CA TA goal z node time = some r → post 1 ((nI now), (nI cc), (nI bc), be', bA', (cn_n fr), (cn_n tt), (cn_n st), (cn_n en), (cn_n ra), (cn_n de), CA, (cn_n so), (cn_n ta), (cn_n sz), li, SK, (cn_n hc), HY, HZ, tr', tb', no', ti', ne', bO', bE')) →
        wpY_findBest post ((nI now), (nI cc), (nI bc), be, bA, (cn_n fr), (cn_n tt), (cn_n st), (cn_n en), (cn_n ra), (cn_n de), CA, (cn_n so), (cn_n ta), (cn_n sz), li, SK, (cn_n hc), HY, HZ, tr, tb, no, ti, ne, bO, bE) p0 p1 p2 p3 := by
  have hm := cn_main (ok := cn_ok CA) (E := cn_E (cn_T TA) st en (fun k => cn_tk ra k z)) (c := fun k => cn_tk ra k z + de k) (goal := goal) (fun k hk => (N.2 k hk).2.2.1) cn_E_ge cn_E_mono 5 node time hng
  obtain ⟨tr', tb', no', ti', ne', be', bA', bO', bE', f1, f3⟩ := cn_yAll (cy_rules (now := now) (ta := ta) (CA := CA) (li := li) (SK := SK) (de := de) N H hbc hsz hz1 hz2 hg6) N.1 (fun k hk => (N.2 k hk).2.1) (cn_E200 N) node time
    tr tb (upd no 0 (nI node)) (upd ti 0 (nI time)) (upd ne 0 0) bA bO bE pk_us hn6 pk_us ht pk_us
  rw [← hm] at f1
  refine ⟨tr', tb', no', ti', ne', be', bA', bO', bE', f1, ?_⟩
  intro post p0 p1 p2 p3 e0 e1 e2 e3 h0 h1
  rw [e0, e1, e2, e3]
  have hend : (be' ≤ 0 → post 0 ((nI now), (nI cc), (nI bc), be', bA', (cn_n fr), (cn_n tt), (cn_n st), (cn_n en), (cn_n ra), (cn_n de), CA, (cn_n so), (cn_n ta), (cn_n sz), li, SK, (cn_n hc), HY, HZ, tr', tb', no', ti', ne', bO', bE')) ∧ (¬ be' ≤ 0 → post 1 ((nI now), (nI cc), (nI bc), be', bA', (cn_n fr), (cn_n tt), (cn_n st), (cn_n en), (cn_n ra), (cn_n de), CA, (cn_n so), (cn_n ta), (cn_n sz), li, SK, (cn_n hc), HY, HZ, tr', tb', no', ti', ne', bO', bE')) := by
    cases hr : cn_bst cc fr tt st en ra de CA TA goal z node time with
    | none =>
      have hb : be' = 0 := by
        have f1' : cn_BR (cn_bst cc fr tt st en ra de CA TA goal z node time) be' bA' bO' bE' := f1
        rw [hr] at f1'; exact f1'
      exact br_t (by rw [hb]; decide) (h0 hr)
    | some r =>
      have hb : cn_BR (some r) be' bA' bO' bE' := by
        have f1' : cn_BR (cn_bst cc fr tt st en ra de CA TA goal z node time) be' bA' bO' bE' := f1
        rw [hr] at f1'; exact f1'
      obtain ⟨b1, b2, b3, b4, b5, b6⟩ := hb
      exact br_f (by rw [b4]; exact nI_nle (List.length_pos_iff.mpr b1) (by omega)) (h1 r hr)
  exact nm_e (nm_e (nm_e (f3 post ⟨1, br_t (by decide) hend⟩)))
/-- when a bundle comes in by its last booking, 0 if it has none -/
def cn_cm (ra de sz hc : Nat → Nat) (oc ob : Nat → Nat → Nat) (b : Nat) : Nat :=
  match hc b with
  | 0 => 0
  | i + 1 => ob b i + cn_tk ra (oc b i) (sz b) + de (oc b i)
theorem cn_cm_0 {b : Nat} (h : hc b = 0) : cn_cm ra de sz hc oc ob b = 0 := by unfold cn_cm; rw [h]
theorem cn_cm_s {b i : Nat} (h : hc b = i + 1) : cn_cm ra de sz hc oc ob b = ob b i + cn_tk ra (oc b i) (sz b) + de (oc b i) := by unfold cn_cm; rw [h]
theorem cn_cm_le (N : cn_Net cc fr tt st en ra de) (H : cn_Iv cc bc fr tt st en ra so sz (hc, oc, ob, TA, HX, HB, HY, HZ)) {b : Nat} (hb : b < bc) : cn_cm ra de sz hc oc ob b ≤ 200 := by
  cases h : hc b with
  | zero => rw [cn_cm_0 h]; omega
  | succ i =>
    rw [cn_cm_s h]
    have hi : i < hc b := by omega
    obtain ⟨g1, g2, g3, g4⟩ := H.1.1 b i hb hi
    have g1' : oc b i < cc := g1
    have g3' : ob b i + cn_tk ra (oc b i) (sz b) ≤ en (oc b i) := g3
    obtain ⟨n1, n2, n3, n4, n5, n6, n7, n8⟩ := N.2 (oc b i) g1'
    omega
theorem cx_lastC (N : cn_Net cc fr tt st en ra de) (H : cn_Iv cc bc fr tt st en ra so sz (hc, oc, ob, TA, HX, HB, HY, HZ)) (hbc : bc ≤ 10) {b : Nat} (hb : b < bc) (hs : sz b ≤ 30) {post : Int32 → Prop} (h0 : hc b = 0 → post (-1)) (h1 : 0 < hc b → post (nI (cn_cm ra de sz hc oc ob b))) : wpX_lastComesIn post ((nI now), (nI cc), (nI bc), bl, ba, (cn_n fr), (cn_n tt), (cn_n st), (cn_n en), (cn_n ra), (cn_n de), CA, TA, (cn_n so), (cn_n ta), (cn_n sz), li, RT, HI, (cn_n hc), HX, HB, wn, wr, wx, wc, wb, bC, bB) (nI b) := by
  have hvb : vp_in (nI b) 10 := vp_in_nI (by omega) (by omega)
  have cb : (nI b).toNatClampNeg = b := nI_clamp (by omega)
  have hh : hc b ≤ 60 := H.2.2.2.2.2 b (by omega)
  cases h : hc b with
  | zero =>
    refine ⟨hvb, br_t ?_ (h0 h)⟩
    rw [cb, cn_n_at, h]; decide
  | succ i =>
    have hi : i < hc b := by omega
    obtain ⟨g1, g2, g3, g4⟩ := H.1.1 b i hb hi
    have g1' : oc b i < cc := g1
    obtain ⟨n1, n2, n3, n4, n5, n6, n7, n8⟩ := N.2 (oc b i) g1'
    have N1 := N.1
    have hp := h1 (by omega)
    rw [cn_cm_s h] at hp
    refine ⟨hvb, br_f (by rw [cb, cn_n_at]; exact nI_nle (by omega) (by omega)) ⟨hvb, ?_⟩⟩
    have e : cn_n hc (nI b).toNatClampNeg - 1 = nI i := by rw [cb, cn_n_at, cx_m1 (by omega), h]; rfl
    rw [e]
    exact cx_comes (k := oc b i) (t := ob b i) (by omega) (by omega) (H.2.1 b i (by omega) hi) (H.2.2.1 b i (by omega) hi) (by omega) n6 n7 hs hp
theorem cx_lastN (N : cn_Net cc fr tt st en ra de) (H : cn_Iv cc bc fr tt st en ra so sz (hc, oc, ob, TA, HX, HB, HY, HZ)) (hbc : bc ≤ 10) {b : Nat} (hb : b < bc) {post : Int32 → Prop} (h1 : post (nI (cn_nd so tt oc b (hc b)))) : wpX_lastNode post ((nI now), (nI cc), (nI bc), bl, ba, (cn_n fr), (cn_n tt), (cn_n st), (cn_n en), (cn_n ra), (cn_n de), CA, TA, (cn_n so), (cn_n ta), (cn_n sz), li, RT, HI, (cn_n hc), HX, HB, wn, wr, wx, wc, wb, bC, bB) (nI b) := by
  have hvb : vp_in (nI b) 10 := vp_in_nI (by omega) (by omega)
  have cb : (nI b).toNatClampNeg = b := nI_clamp (by omega)
  have hh : hc b ≤ 60 := H.2.2.2.2.2 b (by omega)
  cases h : hc b with
  | zero =>
    rw [h] at h1
    refine ⟨hvb, br_t (by rw [cb, cn_n_at, h]; decide) ⟨hvb, ?_⟩⟩
    rw [cb]; exact h1
  | succ i =>
    have hi : i < hc b := by omega
    obtain ⟨g1, g2, g3, g4⟩ := H.1.1 b i hb hi
    have g1' : oc b i < cc := g1
    have N1 := N.1
    rw [h] at h1
    have e : nI b * 100 + cn_n hc (nI b).toNatClampNeg - 1 = nI (b * 100 + i) := by rw [cb, cn_n_at, cx_ix, cx_m1 (by omega), h]; rfl
    have ci : (nI (b * 100 + i)).toNatClampNeg = b * 100 + i := nI_clamp (by omega)
    have ck : (nI (oc b i)).toNatClampNeg = oc b i := nI_clamp (by omega)
    refine ⟨hvb, br_f (by rw [cb, cn_n_at]; exact nI_nle (by omega) (by omega)) ⟨hvb, ?_⟩⟩
    have ex : HX (b * 100 + i) = nI (oc b i) := H.2.1 b i (by omega) hi
    rw [e, ci, ex]
    refine ⟨vp_in_nI (by omega) (by omega), vp_in_nI (show oc b i < 10 by omega) (by omega), ?_⟩
    show post (cn_n tt (nI (oc b i)).toNatClampNeg)
    rw [ck]; exact h1
theorem cy_lastT (N : cn_Net cc fr tt st en ra de) (H : cn_Iv cc bc fr tt st en ra so sz (hc, oc, ob, TA, HX, HB, HY, HZ)) (hbc : bc ≤ 10) {b : Nat} (hb : b < bc) (hs : sz b ≤ 30) {post : Int32 → Prop} (h1 : post (nI (cn_cm ra de sz hc oc ob b))) : wpY_lastTime post ((nI now), (nI cc), (nI bc), be, bA, (cn_n fr), (cn_n tt), (cn_n st), (cn_n en), (cn_n ra), (cn_n de), CA, (cn_n so), (cn_n ta), (cn_n sz), li, SK, (cn_n hc), HY, HZ, tr, tb, no, ti, ne, bO, bE) (nI b) := by
  have hvb : vp_in (nI b) 10 := vp_in_nI (by omega) (by omega)
  have cb : (nI b).toNatClampNeg = b := nI_clamp (by omega)
  have hh : hc b ≤ 60 := H.2.2.2.2.2 b (by omega)
  cases h : hc b with
  | zero =>
    rw [cn_cm_0 h] at h1
    refine ⟨hvb, nm_e ⟨hvb, br_t ?_ h1⟩⟩
    rw [cb, cn_n_at, h]; rfl
  | succ i =>
    have hi : i < hc b := by omega
    obtain ⟨g1, g2, g3, g4⟩ := H.1.1 b i hb hi
    have g1' : oc b i < cc := g1
    obtain ⟨n1, n2, n3, n4, n5, n6, n7, n8⟩ := N.2 (oc b i) g1'
    have N1 := N.1
    rw [cn_cm_s h] at h1
    have e : 64 * nI b + cn_n hc (nI b).toNatClampNeg - 1 = nI (64 * b + i) := by rw [cb, cn_n_at, cy_ix, cx_m1 (by omega), h]; rfl
    have ci : (nI (64 * b + i)).toNatClampNeg = 64 * b + i := nI_clamp (by omega)
    have hvi : vp_in (nI (64 * b + i)) 640 := vp_in_nI (by omega) (by omega)
    refine ⟨hvb, nm_r e ⟨hvb, br_f (by rw [cb, cn_n_at]; exact nI_ne0 (by omega) (by omega)) ⟨hvi, hvb, hvi, ?_⟩⟩⟩
    exact cy_comesE (k := oc b i) (t := ob b i) (by rw [ci]; exact H.2.2.2.1 b i (by omega) hi) (by rw [cb]; rfl) (by rw [ci]; exact H.2.2.2.2.1 b i (by omega) hi) (by omega) n6 n7 hs h1
theorem cy_lastN (N : cn_Net cc fr tt st en ra de) (H : cn_Iv cc bc fr tt st en ra so sz (hc, oc, ob, TA, HX, HB, HY, HZ)) (hbc : bc ≤ 10) {b : Nat} (hb : b < bc) {post : Int32 → Prop} (h1 : post (nI (cn_nd so tt oc b (hc b)))) : wpY_lastNode post ((nI now), (nI cc), (nI bc), be, bA, (cn_n fr), (cn_n tt), (cn_n st), (cn_n en), (cn_n ra), (cn_n de), CA, (cn_n so), (cn_n ta), (cn_n sz), li, SK, (cn_n hc), HY, HZ, tr, tb, no, ti, ne, bO, bE) (nI b) := by
  have hvb : vp_in (nI b) 10 := vp_in_nI (by omega) (by omega)
  have cb : (nI b).toNatClampNeg = b := nI_clamp (by omega)
  have hh : hc b ≤ 60 := H.2.2.2.2.2 b (by omega)
  cases h : hc b with
  | zero =>
    rw [h] at h1
    refine ⟨hvb, br_t (by rw [cb, cn_n_at, h]; rfl) ⟨hvb, ?_⟩⟩
    rw [cb]; exact h1
  | succ i =>
    have hi : i < hc b := by omega
    obtain ⟨g1, g2, g3, g4⟩ := H.1.1 b i hb hi
    have g1' : oc b i < cc := g1
    have N1 := N.1
    rw [h] at h1
    have e : 64 * nI b + cn_n hc (nI b).toNatClampNeg - 1 = nI (64 * b + i) := by rw [cb, cn_n_at, cy_ix, cx_m1 (by omega), h]; rfl
    have ci : (nI (64 * b + i)).toNatClampNeg = 64 * b + i := nI_clamp (by omega)
    have ck : (nI (oc b i)).toNatClampNeg = oc b i := nI_clamp (by omega)
    refine ⟨hvb, br_f (by rw [cb, cn_n_at]; exact nI_ne0 (by omega) (by omega)) ⟨hvb, ?_⟩⟩
    have ex : HY (64 * b + i) = nI (oc b i) := H.2.2.2.1 b i (by omega) hi
    rw [e, ci, ex]
    refine ⟨vp_in_nI (by omega) (by omega), vp_in_nI (show oc b i < 10 by omega) (by omega), ?_⟩
    show post (cn_n tt (nI (oc b i)).toNatClampNeg)
    rw [ck]; exact h1
end
