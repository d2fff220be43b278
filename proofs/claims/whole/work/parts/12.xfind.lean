section
variable {now cc bc : Nat} {bl ba : Int32} {fr tt st en ra de so ta sz hc : Nat → Nat} {CA TA li RT HI HX HB wn wr wx wc wb bC bB : Nat → Int32}
theorem cx_ld_t {post : Int32 → Prop} {k d : Nat} (hk : k < 10) (hd : d < 5) (h : post 1) : ∀ (m i : Nat), i + m = d → (∀ j, i ≤ j → j < d → wn j ≠ nI (tt k)) → wX_leadsOn_28 post (nI k) (nI d) (nI now) (nI cc) (nI bc) bl ba (cn_n fr) (cn_n tt) (cn_n st) (cn_n en) (cn_n ra) (cn_n de) CA TA (cn_n so) (cn_n ta) (cn_n sz) li RT HI (cn_n hc) HX HB wn wr wx wc wb bC bB (m + 1) (nI i) := by
  intro m
  induction m with
  | zero =>
    intro i hi _
    exact br_t (nI_le (by omega) (by omega)) h
  | succ m ih =>
    intro i hi hw
    have ci : (nI i).toNatClampNeg = i := nI_clamp (by omega)
    have ck : (nI k).toNatClampNeg = k := nI_clamp (by omega)
    refine br_f (nI_ge (by omega) (by omega)) ⟨vp_in_nI (by omega) (by omega), vp_in_nI hk (by omega), br_f ?_ (nm_r (nI_1 i) (ih (i + 1) (by omega) (fun j h1 h2 => hw j (by omega) h2)))⟩
    rw [ci, ck]
    exact hw i (by omega) (by omega)
theorem cx_ld_f {post : Int32 → Prop} {k d : Nat} (hk : k < 10) (hd : d < 5) (h : post 0) : ∀ (m i : Nat), i + m = d → (∃ j, i ≤ j ∧ j < d ∧ wn j = nI (tt k)) → wX_leadsOn_28 post (nI k) (nI d) (nI now) (nI cc) (nI bc) bl ba (cn_n fr) (cn_n tt) (cn_n st) (cn_n en) (cn_n ra) (cn_n de) CA TA (cn_n so) (cn_n ta) (cn_n sz) li RT HI (cn_n hc) HX HB wn wr wx wc wb bC bB (m + 1) (nI i) := by
  intro m
  induction m with
  | zero =>
    rintro i hi ⟨j, h1, h2, _⟩
    omega
  | succ m ih =>
    rintro i hi ⟨j, h1, h2, h3⟩
    have ci : (nI i).toNatClampNeg = i := nI_clamp (by omega)
    have ck : (nI k).toNatClampNeg = k := nI_clamp (by omega)
    by_cases e : wn i = nI (tt k)
    · refine br_f (nI_ge (by omega) (by omega)) ⟨vp_in_nI (by omega) (by omega), vp_in_nI hk (by omega), br_t ?_ h⟩
      rw [ci, ck]; exact e
    · have hne : j ≠ i := fun z => e (z ▸ h3)
      refine br_f (nI_ge (by omega) (by omega)) ⟨vp_in_nI (by omega) (by omega), vp_in_nI hk (by omega), br_f ?_ (nm_r (nI_1 i) (ih (i + 1) (by omega) ⟨j, by omega, h2, h3⟩))⟩
      rw [ci, ck]; exact e
theorem cx_leads_t {post : Int32 → Prop} {k d node : Nat} (hk : k < 10) (hd : d < 5) (hn : wn d = nI node) (h1 : fr k = node) (h2 : CA k = 0) (h3 : ∀ i, i < d → wn i ≠ nI (tt k)) (h : post 1) : wpX_leadsOn post ((nI now), (nI cc), (nI bc), bl, ba, (cn_n fr), (cn_n tt), (cn_n st), (cn_n en), (cn_n ra), (cn_n de), CA, TA, (cn_n so), (cn_n ta), (cn_n sz), li, RT, HI, (cn_n hc), HX, HB, wn, wr, wx, wc, wb, bC, bB) (nI k) (nI d) := by
  have ck : (nI k).toNatClampNeg = k := nI_clamp (by omega)
  have cd : (nI d).toNatClampNeg = d := nI_clamp (by omega)
  have hi : vp_in (nI k) 10 := vp_in_nI hk (by omega)
  refine ⟨hi, br_t (by rw [ck]; exact h2) ⟨hi, vp_in_nI hd (by omega), br_t ?_ ⟨d + 1, cx_ld_t hk hd h d 0 (by omega) (fun j _ h2 => h3 j h2)⟩⟩⟩
  rw [ck, cd, hn, ← h1]; rfl
theorem cx_leads_f {post : Int32 → Prop} {k d node : Nat} (hk : k < 10) (hd : d < 5) (hn : wn d = nI node) (hf : fr k < 6) (hn6 : node < 6) (hcn : ¬ (fr k = node ∧ CA k = 0 ∧ ∀ i, i < d → wn i ≠ nI (tt k))) (h : post 0) : wpX_leadsOn post ((nI now), (nI cc), (nI bc), bl, ba, (cn_n fr), (cn_n tt), (cn_n st), (cn_n en), (cn_n ra), (cn_n de), CA, TA, (cn_n so), (cn_n ta), (cn_n sz), li, RT, HI, (cn_n hc), HX, HB, wn, wr, wx, wc, wb, bC, bB) (nI k) (nI d) := by
  have ck : (nI k).toNatClampNeg = k := nI_clamp (by omega)
  have cd : (nI d).toNatClampNeg = d := nI_clamp (by omega)
  have hi : vp_in (nI k) 10 := vp_in_nI hk (by omega)
  by_cases h2 : CA k = 0
  · by_cases h1 : fr k = node
    · have h3 : ∃ j, 0 ≤ j ∧ j < d ∧ wn j = nI (tt k) := by
        apply Classical.byContradiction
        intro hno
        exact hcn ⟨h1, h2, fun i hi he => hno ⟨i, Nat.zero_le _, hi, he⟩⟩
      refine ⟨hi, br_t (by rw [ck]; exact h2) ⟨hi, vp_in_nI hd (by omega), br_t ?_ ⟨d + 1, cx_ld_f hk hd h d 0 (by omega) h3⟩⟩⟩
      rw [ck, cd, hn, ← h1]; rfl
    · refine ⟨hi, br_t (by rw [ck]; exact h2) ⟨hi, vp_in_nI hd (by omega), br_f ?_ h⟩⟩
      rw [ck, cd, hn]
      show ¬ nI (fr k) = nI node
      rw [nI_eq (by omega) (by omega)]; exact h1
  · exact ⟨hi, br_f (by rw [ck]; exact h2) h⟩
theorem cx_sub1 {a b : Nat} (h : b ≤ a + 1) (ha : a < 2 ^ 30) (hb : b < 2 ^ 30) : nI a - nI b + 1 = nI (a + 1 - b) := by
  apply Int32.toInt_inj.mp
  rw [nI_toInt (by omega), Int32.toInt_add, pk_sub_toInt ha hb]
  have e : (1 : Int32).toInt = 1 := by decide
  rw [e]
  rw [show ((a + 1 - b : Nat) : Int) = (a : Int) - b + 1 by omega]
  apply Int.bmod_eq_of_le <;> omega
/-- the scan, from a tick on -/
theorem cx_scan {post : Int32 → Prop} {k need lo : Nat} (hk : k < 10) (hen : en k ≤ 100) (hn : need ≤ 100)
    (h0 : cn_eb (cn_T TA k) lo (en k) need = none → post (-2)) (h1 : ∀ b, cn_eb (cn_T TA k) lo (en k) need = some b → post (nI b)) :
    ∀ (m tick free : Nat), tick + m = en k + 200000 → cn_Sc (cn_T TA k) lo need tick free → wX_leastBegin_25 post (nI k) (nI need) (nI now) (nI cc) (nI bc) bl ba (cn_n fr) (cn_n tt) (cn_n st) (cn_n en) (cn_n ra) (cn_n de) CA TA (cn_n so) (cn_n ta) (cn_n sz) li RT HI (cn_n hc) HX HB wn wr wx wc wb bC bB (m + 1) (nI free) (nI tick) := by
  have hi : vp_in (nI k) 10 := vp_in_nI hk (by omega)
  have ck : (nI k).toNatClampNeg = k := nI_clamp (by omega)
  intro m
  induction m with
  | zero =>
    intro tick free hm hS
    refine ⟨hi, br_t ?_ (h0 (cn_Sc_e hS (by omega)))⟩
    rw [ck]
    show nI (en k) ≤ nI tick
    exact nI_le (by omega) (by omega)
  | succ m ih =>
    intro tick free hm hS
    by_cases ht : en k ≤ tick
    · refine ⟨hi, br_t ?_ (h0 (cn_Sc_e hS ht))⟩
      rw [ck]
      show nI (en k) ≤ nI tick
      exact nI_le ht (by omega)
    · have cj : (nI (k * 100 + tick)).toNatClampNeg = k * 100 + tick := nI_clamp (by omega)
      have hne : ¬ cn_n en (nI k).toNatClampNeg ≤ nI tick := by
        rw [ck]
        show ¬ nI (en k) ≤ nI tick
        exact nI_ge (by omega) (by omega)
      refine ⟨hi, br_f hne ⟨by rw [cx_ix]; exact vp_in_nI (by omega) (by omega), ?_⟩⟩
      rw [cx_ix, cj]
      have hfree := hS.2.1
      by_cases hT : TA (k * 100 + tick) = 0
      · refine br_t hT ?_
        rw [nI_1]
        by_cases hd : free + 1 = need
        · have hb := cn_Sc_d (hi := en k) hS (cn_T_f hT) hd (by omega)
          refine br_t (by rw [hd]) ?_
          have := hS.1
          rw [cx_sub1 (by omega) (by omega) (by omega)]
          exact h1 _ hb
        · refine br_f (by rw [nI_eq (by omega) (by omega)]; exact hd) (nm_r (nI_1 tick) (ih (tick + 1) (free + 1) (by omega) (cn_Sc_f hS (cn_T_f hT) hd)))
      · refine br_f hT ?_
        refine br_f ?_ (nm_r (nI_1 tick) (ih (tick + 1) 0 (by omega) (cn_Sc_t hS (cn_T_t hT))))
        show ¬ nI 0 = nI need
        rw [nI_eq (by omega) (by omega)]; omega
theorem cx_least {post : Int32 → Prop} {k need time : Nat} (hk : k < 10) (hse : st k < en k) (hen : en k ≤ 100) (hn1 : 1 ≤ need) (hn : need ≤ 100) (ht : time ≤ 200000)
    (h0 : cn_eb (cn_T TA k) (cn_mx time (st k)) (en k) need = none → post (-2)) (h1 : ∀ b, cn_eb (cn_T TA k) (cn_mx time (st k)) (en k) need = some b → post (nI b)) {tm : Int32} (etm : tm = nI time) : wpX_leastBegin post ((nI now), (nI cc), (nI bc), bl, ba, (cn_n fr), (cn_n tt), (cn_n st), (cn_n en), (cn_n ra), (cn_n de), CA, TA, (cn_n so), (cn_n ta), (cn_n sz), li, RT, HI, (cn_n hc), HX, HB, wn, wr, wx, wc, wb, bC, bB) (nI k) (nI need) tm := by
  rw [etm]
  have hi : vp_in (nI k) 10 := vp_in_nI hk (by omega)
  have ck : (nI k).toNatClampNeg = k := nI_clamp (by omega)
  have hL := cn_mx_le (a := time) (b := st k) (n := en k + 200000) (by omega) (by omega)
  have H := cx_scan (now := now) (cc := cc) (bc := bc) (bl := bl) (ba := ba) (fr := fr) (tt := tt) (st := st) (ra := ra) (de := de) (so := so) (ta := ta) (sz := sz) (hc := hc) (CA := CA) (li := li) (RT := RT) (HI := HI) (HX := HX) (HB := HB) (wn := wn) (wr := wr) (wx := wx) (wc := wc) (wb := wb) (bC := bC) (bB := bB) hk hen hn h0 h1 (en k + 200000 - cn_mx time (st k)) (cn_mx time (st k)) 0 (by omega) (cn_Sc_0 hn1)
  by_cases h : time ≤ st k
  · have e : cn_mx time (st k) = st k := if_neg (by omega)
    rw [e] at H
    refine ⟨hi, br_t ?_ ⟨hi, nm_r (show cn_n st (nI k).toNatClampNeg = nI (st k) by rw [ck]; rfl) ⟨_, H⟩⟩⟩
    rw [ck]
    exact nI_le h (by omega)
  · have e : cn_mx time (st k) = time := if_pos (by omega)
    rw [e] at H
    refine ⟨hi, br_f ?_ ⟨_, H⟩⟩
    rw [ck]
    show ¬ nI time ≤ nI (st k)
    exact nI_ge (by omega) (by omega)
theorem cn_cp_0 (w b : cn_A) : cn_cp 0 w b = b := by
  funext j; unfold cn_cp; rw [if_neg (by omega)]
theorem cn_cp_s (i : Nat) (w b : cn_A) : upd (cn_cp i w b) i (w i) = cn_cp (i + 1) w b := by
  funext j
  unfold upd cn_cp
  by_cases h : j = i
  · rw [if_pos h, if_pos (by omega), h]
  · rw [if_neg h]
    by_cases h2 : j < i
    · rw [if_pos h2, if_pos (by omega)]
    · rw [if_neg h2, if_neg (by omega)]
theorem cx_kp {post : SX → Prop} {d : Nat} (hd : d ≤ 5) (h : post ((nI now), (nI cc), (nI bc), bl, ba, (cn_n fr), (cn_n tt), (cn_n st), (cn_n en), (cn_n ra), (cn_n de), CA, TA, (cn_n so), (cn_n ta), (cn_n sz), li, RT, HI, (cn_n hc), HX, HB, wn, wr, wx, wc, wb, (cn_cp d wc bC), (cn_cp d wb bB))) : ∀ (m i : Nat), i + m = d → wX_keepIfBetter_55 post (nI d) (nI now) (nI cc) (nI bc) bl ba (m + 1) (nI i) (cn_n fr) (cn_n tt) (cn_n st) (cn_n en) (cn_n ra) (cn_n de) CA TA (cn_n so) (cn_n ta) (cn_n sz) li RT HI (cn_n hc) HX HB wn wr wx wc wb (cn_cp i wc bC) (cn_cp i wb bB) := by
  intro m
  induction m with
  | zero =>
    intro i hi
    have e : i = d := by omega
    rw [e]
    exact br_t (nI_le (Nat.le_refl _) (by omega)) h
  | succ m ih =>
    intro i hi
    have ci : (nI i).toNatClampNeg = i := nI_clamp (by omega)
    have hv : vp_in (nI i) 5 := vp_in_nI (by omega) (by omega)
    exact br_f (nI_ge (by omega) (by omega)) ⟨hv, hv, nm_r (by rw [ci]; exact cn_cp_s i wc bC) ⟨hv, hv, nm_r (by rw [ci]; exact cn_cp_s i wb bB) (nm_r (nI_1 i) (ih (i + 1) (by omega)))⟩⟩
theorem cx_keep_t {post : SX → Prop} {d a : Nat} (hd : d ≤ 5) (hb : cn_bet bl ba d a) (h : post ((nI now), (nI cc), (nI bc), (nI d), (nI a), (cn_n fr), (cn_n tt), (cn_n st), (cn_n en), (cn_n ra), (cn_n de), CA, TA, (cn_n so), (cn_n ta), (cn_n sz), li, RT, HI, (cn_n hc), HX, HB, wn, wr, wx, wc, wb, (cn_cp d wc bC), (cn_cp d wb bB))) {p : Int32} (ep : p = nI d) : wpX_keepIfBetter post ((nI now), (nI cc), (nI bc), bl, ba, (cn_n fr), (cn_n tt), (cn_n st), (cn_n en), (cn_n ra), (cn_n de), CA, TA, (cn_n so), (cn_n ta), (cn_n sz), li, RT, HI, (cn_n hc), HX, HB, wn, wr, wx, wc, wb, bC, bB) p (nI a) := by
  rw [ep]
  have K : wX_keepIfBetter_36 post (nI d) (nI a) 1 (nI now) (nI cc) (nI bc) bl ba (cn_n fr) (cn_n tt) (cn_n st) (cn_n en) (cn_n ra) (cn_n de) CA TA (cn_n so) (cn_n ta) (cn_n sz) li RT HI (cn_n hc) HX HB wn wr wx wc wb bC bB := by
    have H := cx_kp hd h d 0 (by omega)
    rw [cn_cp_0, cn_cp_0] at H
    exact br_f (by decide) ⟨d + 1, H⟩
  by_cases h1 : bl = 0
  · exact br_t h1 K
  · by_cases h2 : nI a < ba
    · exact br_f h1 (br_t h2 K)
    · rcases hb with z | z | ⟨z1, z2⟩
      · exact absurd z h1
      · exact absurd z h2
      · exact br_f h1 (br_f h2 (br_t z1 (br_f (Int32.not_le.mpr z2) K)))
theorem cx_keep_f {post : SX → Prop} {d a : Nat} (hb : ¬ cn_bet bl ba d a) (h : post ((nI now), (nI cc), (nI bc), bl, ba, (cn_n fr), (cn_n tt), (cn_n st), (cn_n en), (cn_n ra), (cn_n de), CA, TA, (cn_n so), (cn_n ta), (cn_n sz), li, RT, HI, (cn_n hc), HX, HB, wn, wr, wx, wc, wb, bC, bB)) {p : Int32} (ep : p = nI d) : wpX_keepIfBetter post ((nI now), (nI cc), (nI bc), bl, ba, (cn_n fr), (cn_n tt), (cn_n st), (cn_n en), (cn_n ra), (cn_n de), CA, TA, (cn_n so), (cn_n ta), (cn_n sz), li, RT, HI, (cn_n hc), HX, HB, wn, wr, wx, wc, wb, bC, bB) p (nI a) := by
  rw [ep]
  have K : wX_keepIfBetter_36 post (nI d) (nI a) 0 (nI now) (nI cc) (nI bc) bl ba (cn_n fr) (cn_n tt) (cn_n st) (cn_n en) (cn_n ra) (cn_n de) CA TA (cn_n so) (cn_n ta) (cn_n sz) li RT HI (cn_n hc) HX HB wn wr wx wc wb bC bB := br_t rfl h
  have h1 : ¬ bl = 0 := fun z => hb (Or.inl z)
  have h2 : ¬ nI a < ba := fun z => hb (Or.inr (Or.inl z))
  by_cases h3 : nI a = ba
  · have h4 : bl ≤ nI d := Int32.not_lt.mp fun z => hb (Or.inr (Or.inr ⟨h3, z⟩))
    exact br_f h1 (br_f h2 (br_t h3 (br_t h4 K)))
  · exact br_f h1 (br_f h2 (br_f h3 K))
end
section
variable (now cc bc : Nat) (fr tt st en ra de so ta sz hc : Nat → Nat) (CA TA li RT HI HX HB : Nat → Int32) (goal z : Nat)
def cx_G (q : SX → Prop) (dep : Int32) (step : Nat) (wn wr wx wc wb : cn_A) (bl ba : Int32) (bC bB : cn_A) : Prop :=
  ∃ n, wX_findBest_38 q (nI goal) (nI z) n dep (nI step) (nI now) (nI cc) (nI bc) bl ba (cn_n fr) (cn_n tt) (cn_n st) (cn_n en) (cn_n ra) (cn_n de) CA TA (cn_n so) (cn_n ta) (cn_n sz) li RT HI (cn_n hc) HX HB wn wr wx wc wb bC bB
end
def cn_ok (CA : Nat → Int32) (k : Nat) : Bool := decide (CA k = 0)
theorem cn_ok_t {CA : Nat → Int32} {k : Nat} : cn_ok CA k = true ↔ CA k = 0 := decide_eq_true_iff
theorem cx_ne2 {b : Nat} (h : b < 2 ^ 31) : ¬ nI b = -2 := by
  intro e
  have e2 := congrArg Int32.toInt e
  rw [nI_toInt h] at e2
  have e3 : (-2 : Int32).toInt = -2 := by decide
  omega
section
variable {now cc bc : Nat} {fr tt st en ra de so ta sz hc : Nat → Nat} {CA TA li RT HI HX HB : Nat → Int32} {goal z : Nat}
theorem cx_rules (N : cn_Net cc fr tt st en ra de) (hz1 : 1 ≤ z) (hz2 : z ≤ 30) (hg6 : goal < 6) :
    cn_XG cc fr tt (cn_ok CA) (cn_E (cn_T TA) st en (fun k => cn_tk ra k z)) (fun k => cn_tk ra k z + de k) goal (cx_G now cc bc fr tt st en ra de so ta sz hc CA TA li RT HI HX HB goal z) := by
  obtain ⟨N1, N2⟩ := N
  refine ⟨?_, ?_, ?_, ?_, ?_, ?_, ?_⟩
  · rintro q d k step wn wr wx wc wb bl ba bC bB hd hs hx hk ⟨n, g⟩
    have cd : (nI d).toNatClampNeg = d := nI_clamp (by omega)
    exact ⟨n + 1, br_f (nI_ge (b := 1000000) hs (by decide)) (br_f (nI_pos (by omega)) ⟨vp_in_nI hd (by omega), nm_r (by rw [cd]; exact hx) (br_f (nI_nlt (by omega) (by omega)) (nm_e (nm_r (nI_1 step) g)))⟩)⟩
  · rintro q d k step node wn wr wx wc wb bl ba bC bB hd hs hx hk hn hn6 hno ⟨n, g⟩
    obtain ⟨n1, n2, n3, n4, n5, n6, n7, n8⟩ := N2 k hk
    have cd : (nI d).toNatClampNeg = d := nI_clamp (by omega)
    have hv : vp_in (nI d) 5 := vp_in_nI hd (by omega)
    have hno2 : ¬ (fr k = node ∧ CA k = 0 ∧ ∀ i, i < d → wn i ≠ nI (tt k)) := fun y => hno ⟨y.1, cn_ok_t.mpr y.2.1, y.2.2⟩
    exact ⟨n + 1, br_f (nI_ge (b := 1000000) hs (by decide)) (br_f (nI_pos (by omega)) ⟨hv, nm_r (by rw [cd]; exact hx) (br_t (nI_lt hk (by omega)) ⟨hv, nm_r (by rw [cd, nI_1])
      (cx_leads_f (by omega) hd hn n1 hn6 hno2 (br_t rfl (nm_r (nI_1 step) g)))⟩)⟩)⟩
  · rintro q d k step node time wn wr wx wc wb bl ba bC bB hd hs hx hk hn hn6 hr ht hl hE ⟨n, g⟩
    obtain ⟨n1, n2, n3, n4, n5, n6, n7, n8⟩ := N2 k hk
    have cd : (nI d).toNatClampNeg = d := nI_clamp (by omega)
    have hv : vp_in (nI d) 5 := vp_in_nI hd (by omega)
    have hp := cn_tk_pos (ra := ra) (k := k) (s := z) n6 hz1
    have hp2 := cn_tk_le (ra := ra) (k := k) (s := z) n7 hz2
    exact ⟨n + 1, br_f (nI_ge (b := 1000000) hs (by decide)) (br_f (nI_pos (by omega)) ⟨hv, nm_r (by rw [cd]; exact hx) (br_t (nI_lt hk (by omega)) ⟨hv, nm_r (by rw [cd, nI_1])
      (cx_leads_t (by omega) hd hn hl.1 (cn_ok_t.mp hl.2.1) hl.2.2 (br_f (by decide) (cx_ticks (by omega) n6 n7 hz2 ⟨hv,
        cx_least (by omega) n4 n5 hp (by omega) ht (fun _ => br_t rfl (nm_r (nI_1 step) g)) (fun b hb => absurd (hE.symm.trans hb) (by simp)) (by rw [cd]; exact hr)⟩)))⟩)⟩)⟩
  · rintro q d k step node time b wn wr wx wc wb bl ba bC bB hd hs hx hk hn hn6 hr ht hl hE hg hb ⟨n, g⟩
    obtain ⟨n1, n2, n3, n4, n5, n6, n7, n8⟩ := N2 k hk
    have cd : (nI d).toNatClampNeg = d := nI_clamp (by omega)
    have ck : (nI k).toNatClampNeg = k := nI_clamp (by omega)
    have hv : vp_in (nI d) 5 := vp_in_nI hd (by omega)
    have hvk : vp_in (nI k) 10 := vp_in_nI (by omega) (by omega)
    have hp := cn_tk_pos (ra := ra) (k := k) (s := z) n6 hz1
    have hp2 := cn_tk_le (ra := ra) (k := k) (s := z) n7 hz2
    have hb100 := (cn_eb_some.mp hE).2.1
    refine ⟨n + 1, br_f (nI_ge (b := 1000000) hs (by decide)) (br_f (nI_pos (by omega)) ⟨hv, nm_r (by rw [cd]; exact hx) (br_t (nI_lt hk (by omega)) ⟨hv, nm_r (by rw [cd, nI_1])
      (cx_leads_t (by omega) hd hn hl.1 (cn_ok_t.mp hl.2.1) hl.2.2 (br_f (by decide) (cx_ticks (by omega) n6 n7 hz2 ⟨hv,
        cx_least (by omega) n4 n5 hp (by omega) ht (fun h => absurd (h.symm.trans hE) (by simp)) (fun b' hb' => ?_) (by rw [cd]; exact hr)⟩)))⟩)⟩)⟩
    have eb : b' = b := Option.some.inj (hb'.symm.trans hE)
    rw [eb]
    refine br_f (cx_ne2 (by omega)) ⟨hv, nm_r (by rw [cd]) ⟨hv, nm_r (by rw [cd]) ⟨hvk, nm_r (e' := nI (b + (cn_tk ra k z + de k))) (by rw [ck, cn_n_at, nI_add, nI_add, Nat.add_assoc]) ⟨hvk, br_t (by rw [ck, cn_n_at, hg]) (cx_keep_t (d := d + 1) (by omega) hb (nm_r (nI_1 step) g) (nI_1 d))⟩⟩⟩⟩
  · rintro q d k step node time b wn wr wx wc wb bl ba bC bB hd hs hx hk hn hn6 hr ht hl hE hg hb ⟨n, g⟩
    obtain ⟨n1, n2, n3, n4, n5, n6, n7, n8⟩ := N2 k hk
    have cd : (nI d).toNatClampNeg = d := nI_clamp (by omega)
    have ck : (nI k).toNatClampNeg = k := nI_clamp (by omega)
    have hv : vp_in (nI d) 5 := vp_in_nI hd (by omega)
    have hvk : vp_in (nI k) 10 := vp_in_nI (by omega) (by omega)
    have hp := cn_tk_pos (ra := ra) (k := k) (s := z) n6 hz1
    have hp2 := cn_tk_le (ra := ra) (k := k) (s := z) n7 hz2
    have hb100 := (cn_eb_some.mp hE).2.1
    refine ⟨n + 1, br_f (nI_ge (b := 1000000) hs (by decide)) (br_f (nI_pos (by omega)) ⟨hv, nm_r (by rw [cd]; exact hx) (br_t (nI_lt hk (by omega)) ⟨hv, nm_r (by rw [cd, nI_1])
      (cx_leads_t (by omega) hd hn hl.1 (cn_ok_t.mp hl.2.1) hl.2.2 (br_f (by decide) (cx_ticks (by omega) n6 n7 hz2 ⟨hv,
        cx_least (by omega) n4 n5 hp (by omega) ht (fun h => absurd (h.symm.trans hE) (by simp)) (fun b' hb' => ?_) (by rw [cd]; exact hr)⟩)))⟩)⟩)⟩
    have eb : b' = b := Option.some.inj (hb'.symm.trans hE)
    rw [eb]
    refine br_f (cx_ne2 (by omega)) ⟨hv, nm_r (by rw [cd]) ⟨hv, nm_r (by rw [cd]) ⟨hvk, nm_r (e' := nI (b + (cn_tk ra k z + de k))) (by rw [ck, cn_n_at, nI_add, nI_add, Nat.add_assoc]) ⟨hvk, br_t (by rw [ck, cn_n_at, hg]) (cx_keep_f (d := d + 1) hb (nm_r (nI_1 step) g) (nI_1 d))⟩⟩⟩⟩
  · rintro q d k step node time b wn wr wx wc wb bl ba bC bB hd hs hx hk hn hn6 hr ht hl hE hg ⟨n, g⟩
    obtain ⟨n1, n2, n3, n4, n5, n6, n7, n8⟩ := N2 k hk
    have cd : (nI d).toNatClampNeg = d := nI_clamp (by omega)
    have cd1 : (nI (d + 1)).toNatClampNeg = d + 1 := nI_clamp (by omega)
    have ck : (nI k).toNatClampNeg = k := nI_clamp (by omega)
    have hv : vp_in (nI d) 5 := vp_in_nI (by omega) (by omega)
    have hv1 : vp_in (nI (d + 1)) 5 := vp_in_nI (by omega) (by omega)
    have hvk : vp_in (nI k) 10 := vp_in_nI (by omega) (by omega)
    have hp := cn_tk_pos (ra := ra) (k := k) (s := z) n6 hz1
    have hp2 := cn_tk_le (ra := ra) (k := k) (s := z) n7 hz2
    have hb100 := (cn_eb_some.mp hE).2.1
    refine ⟨n + 1, br_f (nI_ge (b := 1000000) hs (by decide)) (br_f (nI_pos (by omega)) ⟨hv, nm_r (by rw [cd]; exact hx) (br_t (nI_lt hk (by omega)) ⟨hv, nm_r (by rw [cd, nI_1])
      (cx_leads_t (by omega) (by omega) hn hl.1 (cn_ok_t.mp hl.2.1) hl.2.2 (br_f (by decide) (cx_ticks (by omega) n6 n7 hz2 ⟨hv,
        cx_least (by omega) n4 n5 hp (by omega) ht (fun h => absurd (h.symm.trans hE) (by simp)) (fun b' hb' => ?_) (by rw [cd]; exact hr)⟩)))⟩)⟩)⟩
    have eb : b' = b := Option.some.inj (hb'.symm.trans hE)
    rw [eb]
    have hne : ¬ cn_n tt (nI k).toNatClampNeg = nI goal := by
      rw [ck, cn_n_at, nI_eq (by omega) (by omega)]; exact hg
    have h5 : ¬ (5 : Int32) ≤ nI d + 1 := by
      rw [nI_1]; exact nI_ge (b := 5) (by omega) (by decide)
    refine br_f (cx_ne2 (by omega)) ⟨hv, nm_r (by rw [cd]) ⟨hv, nm_r (by rw [cd]) ⟨hvk, nm_r (e' := nI (b + (cn_tk ra k z + de k))) (by rw [ck, cn_n_at, nI_add, nI_add, Nat.add_assoc]) ⟨hvk, br_f hne (br_f h5 (nm_r (nI_1 d)
      ⟨hvk, hv1, nm_r (by rw [cd1, ck, cn_n_at]) ⟨hv1, nm_r (by rw [cd1]) ⟨hv1, nm_r (by rw [cd1]) (nm_r (nI_1 step) g)⟩⟩⟩))⟩⟩⟩⟩
  · rintro q d k step node time b wn wr wx wc wb bl ba bC bB hd hs hx hk hn hn6 hr ht hl hE hg ⟨n, g⟩
    obtain ⟨n1, n2, n3, n4, n5, n6, n7, n8⟩ := N2 k hk
    have cd : (nI d).toNatClampNeg = d := nI_clamp (by omega)
    have ck : (nI k).toNatClampNeg = k := nI_clamp (by omega)
    have hv : vp_in (nI d) 5 := vp_in_nI (by omega) (by omega)
    have hvk : vp_in (nI k) 10 := vp_in_nI (by omega) (by omega)
    have hp := cn_tk_pos (ra := ra) (k := k) (s := z) n6 hz1
    have hp2 := cn_tk_le (ra := ra) (k := k) (s := z) n7 hz2
    have hb100 := (cn_eb_some.mp hE).2.1
    refine ⟨n + 1, br_f (nI_ge (b := 1000000) hs (by decide)) (br_f (nI_pos (by omega)) ⟨hv, nm_r (by rw [cd]; exact hx) (br_t (nI_lt hk (by omega)) ⟨hv, nm_r (by rw [cd, nI_1])
      (cx_leads_t (by omega) (by omega) hn hl.1 (cn_ok_t.mp hl.2.1) hl.2.2 (br_f (by decide) (cx_ticks (by omega) n6 n7 hz2 ⟨hv,
        cx_least (by omega) n4 n5 hp (by omega) ht (fun h => absurd (h.symm.trans hE) (by simp)) (fun b' hb' => ?_) (by rw [cd]; exact hr)⟩)))⟩)⟩)⟩
    have eb : b' = b := Option.some.inj (hb'.symm.trans hE)
    rw [eb]
    have hne : ¬ cn_n tt (nI k).toNatClampNeg = nI goal := by
      rw [ck, cn_n_at, nI_eq (by omega) (by omega)]; exact hg
    have h5 : (5 : Int32) ≤ nI d + 1 := by
      rw [nI_1]; exact nI_le (a := 5) (by omega) (by omega)
    refine br_f (cx_ne2 (by omega)) ⟨hv, nm_r (by rw [cd]) ⟨hv, nm_r (by rw [cd]) ⟨hvk, nm_r (e' := nI (b + (cn_tk ra k z + de k))) (by rw [ck, cn_n_at, nI_add, nI_add, Nat.add_assoc]) ⟨hvk, br_f hne (br_t h5 (nm_r (nI_1 step) g))⟩⟩⟩⟩
end
