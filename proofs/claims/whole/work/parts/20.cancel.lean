/-- the first booking of a bundle on contact k that is not wholly out -/
def cn_hF (now k : Nat) (ra sz : Nat → Nat) (oc ob : Nat → Nat → Nat) (b i : Nat) : Bool := decide (oc b i = k ∧ now < ob b i + cn_tk ra k (sz b))
section
variable {now cc bc nc : Nat} {bl ba be bA : Int32} {fr tt st en ra de so ta sz hc : Nat → Nat} {oc ob : Nat → Nat → Nat} {CA TA li RT HI HX HB wn wr wx wc wb bC bB SK HY HZ tr tb no ti ne bO bE : Nat → Int32}
theorem cx_fng15 {post : Int32 → Prop} {b k : Nat} (hnow : now ≤ 102400) (hb : b < 10) (hk : k < 10) (hh : hc b ≤ 60) (htk : cn_tk ra k (sz b) ≤ 38) (hX : ∀ i, i < hc b → HX (b * 100 + i) = nI (oc b i) ∧ HB (b * 100 + i) = nI (ob b i) ∧ oc b i < 10 ∧ ob b i ≤ 200) :
    ∀ (m i : Nat), i + m = hc b → (cn_sr (cn_hF now k ra sz oc ob b) m i = none → post (nI (hc b))) → (∀ j, cn_sr (cn_hF now k ra sz oc ob b) m i = some j → post (nI j)) →
    wX_firstNotGoneOut_15 post (nI b) (nI k) (nI (cn_tk ra k (sz b))) (nI now) (nI cc) (nI bc) bl ba (cn_n fr) (cn_n tt) (cn_n st) (cn_n en) (cn_n ra) (cn_n de) CA TA (cn_n so) (cn_n ta) (cn_n sz) li RT HI (cn_n hc) HX HB wn wr wx wc wb bC bB (m + 1) (nI i) := by
  have hvb : vp_in (nI b) 10 := vp_in_nI hb (by omega)
  have cb : (nI b).toNatClampNeg = b := nI_clamp (by omega)
  intro m
  induction m with
  | zero =>
    intro i hi h0 _
    refine ⟨hvb, br_t (by rw [cb, cn_n_at]; exact nI_le (by omega) (by omega)) ⟨hvb, ?_⟩⟩
    rw [cb]; exact h0 rfl
  | succ m ih =>
    intro i hi h0 h1
    obtain ⟨y1, y2, y3, y4⟩ := hX i (by omega)
    have hvi : vp_in (nI (b * 100 + i)) 1000 := vp_in_nI (by omega) (by omega)
    have ci : (nI (b * 100 + i)).toNatClampNeg = b * 100 + i := nI_clamp (by omega)
    have hge : ¬ cn_n hc (nI b).toNatClampNeg ≤ nI i := by rw [cb, cn_n_at]; exact nI_ge (by omega) (by omega)
    have next : ¬ (oc b i = k ∧ now < ob b i + cn_tk ra k (sz b)) → wX_firstNotGoneOut_15 post (nI b) (nI k) (nI (cn_tk ra k (sz b))) (nI now) (nI cc) (nI bc) bl ba (cn_n fr) (cn_n tt) (cn_n st) (cn_n en) (cn_n ra) (cn_n de) CA TA (cn_n so) (cn_n ta) (cn_n sz) li RT HI (cn_n hc) HX HB wn wr wx wc wb bC bB (m + 1) (nI (i + 1)) := by
      intro hn
      have hF : ¬ cn_hF now k ra sz oc ob b i = true := fun z => hn (of_decide_eq_true z)
      apply ih (i + 1) (by omega)
      · intro z; apply h0; rw [cn_sr, if_neg hF]; exact z
      · intro j z; apply h1; rw [cn_sr, if_neg hF]; exact z
    by_cases c1 : oc b i = k
    · by_cases c2 : now < ob b i + cn_tk ra k (sz b)
      · have hF : cn_hF now k ra sz oc ob b i = true := decide_eq_true ⟨c1, c2⟩
        refine ⟨hvb, br_f hge (nm_r (cx_ix b i) ⟨hvi, br_t (by rw [ci, y1, c1]) ⟨hvi, br_f ?_ (h1 i (by rw [cn_sr, if_pos hF]))⟩⟩)⟩
        rw [ci, y2, nI_add]; exact nI_ge c2 (by omega)
      · refine ⟨hvb, br_f hge (nm_r (cx_ix b i) ⟨hvi, br_t (by rw [ci, y1, c1]) ⟨hvi, br_t ?_ (nm_r (nI_1 i) (next (fun z => c2 z.2)))⟩⟩)⟩
        rw [ci, y2, nI_add]; exact nI_le (by omega) (by omega)
    · refine ⟨hvb, br_f hge (nm_r (cx_ix b i) ⟨hvi, br_f ?_ (nm_r (nI_1 i) (next (fun z => c1 z.1)))⟩)⟩
      rw [ci, y1, nI_eq (by omega) (by omega)]; exact c1
theorem cy_hit2 {post : Int32 → Prop} {b k : Nat} (hnow : now ≤ 102400) (hb : b < 10) (hk : k < 10) (h1 : 1 ≤ ra k) (h2 : ra k ≤ 9) (h3 : sz b ≤ 30) (hh : hc b ≤ 60) (hY : ∀ i, i < hc b → HY (64 * b + i) = nI (oc b i) ∧ HZ (64 * b + i) = nI (ob b i) ∧ oc b i < 10 ∧ ob b i ≤ 200) :
    ∀ (m i : Nat), i + m = hc b → (cn_sr (cn_hF now k ra sz oc ob b) m i = none → post (-1)) → (∀ j, cn_sr (cn_hF now k ra sz oc ob b) m i = some j → post (nI j)) →
    wY_hitAt_2 post (nI b) (nI k) (nI now) (nI cc) (nI bc) be bA (cn_n fr) (cn_n tt) (cn_n st) (cn_n en) (cn_n ra) (cn_n de) CA (cn_n so) (cn_n ta) (cn_n sz) li SK (cn_n hc) HY HZ tr tb no ti ne bO bE (m + 1) (nI i) := by
  have hvb : vp_in (nI b) 10 := vp_in_nI hb (by omega)
  have cb : (nI b).toNatClampNeg = b := nI_clamp (by omega)
  have htk := cn_tk_le (ra := ra) (k := k) (s := sz b) h2 h3
  intro m
  induction m with
  | zero =>
    intro i hi h0 _
    exact ⟨hvb, br_t (by rw [cb, cn_n_at]; exact nI_le (by omega) (by omega)) (h0 rfl)⟩
  | succ m ih =>
    intro i hi hp0 hp1
    obtain ⟨y1, y2, y3, y4⟩ := hY i (by omega)
    have hvi : vp_in (64 * nI b + nI i) 640 := by rw [cy_ix]; exact vp_in_nI (by omega) (by omega)
    have ci : (64 * nI b + nI i).toNatClampNeg = 64 * b + i := by rw [cy_ix]; exact nI_clamp (by omega)
    have hge : ¬ cn_n hc (nI b).toNatClampNeg ≤ nI i := by rw [cb, cn_n_at]; exact nI_ge (by omega) (by omega)
    have next : ¬ (oc b i = k ∧ now < ob b i + cn_tk ra k (sz b)) → wY_hitAt_2 post (nI b) (nI k) (nI now) (nI cc) (nI bc) be bA (cn_n fr) (cn_n tt) (cn_n st) (cn_n en) (cn_n ra) (cn_n de) CA (cn_n so) (cn_n ta) (cn_n sz) li SK (cn_n hc) HY HZ tr tb no ti ne bO bE (m + 1) (nI (i + 1)) := by
      intro hn
      have hF : ¬ cn_hF now k ra sz oc ob b i = true := fun z => hn (of_decide_eq_true z)
      apply ih (i + 1) (by omega)
      · intro z; apply hp0; rw [cn_sr, if_neg hF]; exact z
      · intro j z; apply hp1; rw [cn_sr, if_neg hF]; exact z
    by_cases c1 : oc b i = k
    · refine ⟨hvb, br_f hge ⟨hvi, br_t (by rw [ci, y1, c1]) ⟨hvi, hvb, cy_ticksE (z := sz b) rfl (by rw [cb]; rfl) hk h1 h2 h3 ?_⟩⟩⟩
      rw [ci, y2, nI_add]
      by_cases c2 : now < ob b i + cn_tk ra k (sz b)
      · have hF : cn_hF now k ra sz oc ob b i = true := decide_eq_true ⟨c1, c2⟩
        exact br_f (nI_ge c2 (by omega)) (hp1 i (by rw [cn_sr, if_pos hF]))
      · exact br_t (nI_le (by omega) (by omega)) (nm_r (nI_1 i) (next (fun z => c2 z.2)))
    · refine ⟨hvb, br_f hge ⟨hvi, br_f ?_ (nm_r (nI_1 i) (next (fun z => c1 z.1)))⟩⟩
      rw [ci, y1, nI_eq (by omega) (by omega)]; exact c1
theorem cx_lose {post : SX → Prop} (N : cn_Net cc fr tt st en ra de) (H : cn_Iv cc bc fr tt st en ra so sz (hc, oc, ob, TA, HX, HB, HY, HZ)) (hbc : bc ≤ 10) {b j : Nat} (hb : b < bc) (hs : sz b ≤ 30) :
    ∀ (m i : Nat) (T : Nat → Int32), i + m = hc b → post ((nI now), (nI cc), (nI bc), bl, ba, (cn_n fr), (cn_n tt), (cn_n st), (cn_n en), (cn_n ra), (cn_n de), CA, (cn_gb ra sz b (hc, oc, ob, TA, HX, HB, HY, HZ) m i T), (cn_n so), (cn_n ta), (cn_n sz), li, (upd RT b 0), HI, (cn_n (cn_up hc b j)), HX, HB, wn, wr, wx, wc, wb, bC, bB) →
    wX_loseFrom_2 post (nI b) (nI j) (m + 1) (nI i) (nI now) (nI cc) (nI bc) bl ba (cn_n fr) (cn_n tt) (cn_n st) (cn_n en) (cn_n ra) (cn_n de) CA T (cn_n so) (cn_n ta) (cn_n sz) li RT HI (cn_n hc) HX HB wn wr wx wc wb bC bB := by
  obtain ⟨H1, H2, H3, H4, H5, H6⟩ := cn_IvU H
  have hvb : vp_in (nI b) 10 := vp_in_nI (by omega) (by omega)
  have cb : (nI b).toNatClampNeg = b := nI_clamp (by omega)
  have hh := H6 b (by omega)
  have N1 := N.1
  intro m
  induction m with
  | zero =>
    intro i T hi h
    exact ⟨hvb, br_t (by rw [cb, cn_n_at]; exact nI_le (by omega) (by omega)) ⟨hvb, nm_r (e' := cn_n (cn_up hc b j)) (by rw [cb, cn_n_up]) ⟨hvb, nm_r (e' := upd RT b 0) (by rw [cb, cx_b0]) h⟩⟩⟩
  | succ m ih =>
    intro i T hi h
    obtain ⟨g1, g2, g3, g4⟩ := H1.1 b i hb (by omega)
    obtain ⟨n1, n2, n3, n4, n5, n6, n7, n8⟩ := N.2 (oc b i) g1
    have y1 := H2 b i (by omega) (by omega)
    have y2 := H3 b i (by omega) (by omega)
    have hvi : vp_in (nI (b * 100 + i)) 1000 := vp_in_nI (by omega) (by omega)
    have ci : (nI (b * 100 + i)).toNatClampNeg = b * 100 + i := nI_clamp (by omega)
    exact ⟨hvb, br_f (by rw [cb, cn_n_at]; exact nI_ge (by omega) (by omega)) (nm_r (cx_ix b i) ⟨hvi, hvb, cx_ticksE (k := oc b i) (z := sz b) (by rw [ci]; exact y1) (by rw [cb]; rfl) (by omega) n6 n7 hs
      ⟨hvi, hvi, cx_mark (k := oc b i) (t := ob b i) cx_b0 (by rw [ci]; exact y1) (by rw [ci]; exact y2) rfl (by omega) (by omega) (nm_r (nI_1 i) (ih (i + 1) _ (by omega) h))⟩⟩)⟩
end
