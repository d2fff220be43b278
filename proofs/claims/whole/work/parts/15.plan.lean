theorem cn_fill_0 (T : Nat → Int32) (lo : Nat) (v : Int32) : cn_fill T lo 0 v = T := by
  funext j; unfold cn_fill; rw [if_neg (by omega)]
theorem cn_fill_s (T : Nat → Int32) (lo i : Nat) (v : Int32) : upd (cn_fill T lo i v) (lo + i) v = cn_fill T lo (i + 1) v := by
  funext j
  unfold upd cn_fill
  by_cases h : j = lo + i
  · rw [if_pos h, if_pos (by omega)]
  · rw [if_neg h]
    by_cases h2 : lo ≤ j ∧ j < lo + i
    · rw [if_pos h2, if_pos (by omega)]
    · rw [if_neg h2, if_neg (by omega)]
section
variable {now cc bc : Nat} {bl ba be bA : Int32} {fr tt st en ra de so ta sz hc : Nat → Nat} {oc ob : Nat → Nat → Nat} {CA TA li RT HI HX HB wn wr wx wc wb bC bB SK HY HZ tr tb no ti ne bO bE : Nat → Int32} {goal z : Nat}
theorem cn_IvU (H : cn_Iv cc bc fr tt st en ra so sz (hc, oc, ob, TA, HX, HB, HY, HZ)) : cn_Bk cc bc fr tt st en ra so sz hc oc ob TA ∧ cn_Hx hc oc HX ∧ cn_Hx hc ob HB ∧ cn_Hy hc oc HY ∧ cn_Hy hc ob HZ ∧ (∀ b, b < 10 → hc b ≤ 60) := H
theorem cx_mark3 {post : SX → Prop} {k t n : Nat} {v : Int32} (hv : vp_nar .boolean v = v) (hk : k < 10) (ht : t + n ≤ 100) (h : post ((nI now), (nI cc), (nI bc), bl, ba, (cn_n fr), (cn_n tt), (cn_n st), (cn_n en), (cn_n ra), (cn_n de), CA, (cn_fill TA (k * 100 + t) n v), (cn_n so), (cn_n ta), (cn_n sz), li, RT, HI, (cn_n hc), HX, HB, wn, wr, wx, wc, wb, bC, bB)) :
    ∀ (m i : Nat), i + m = n → wX_mark_3 post (nI k) (nI t) (nI n) v (nI now) (nI cc) (nI bc) bl ba (m + 1) (nI (t + i)) (cn_n fr) (cn_n tt) (cn_n st) (cn_n en) (cn_n ra) (cn_n de) CA (cn_fill TA (k * 100 + t) i v) (cn_n so) (cn_n ta) (cn_n sz) li RT HI (cn_n hc) HX HB wn wr wx wc wb bC bB := by
  intro m
  induction m with
  | zero =>
    intro i hi
    have e : i = n := by omega
    rw [e]
    exact br_t (by rw [nI_add]; exact nI_le (Nat.le_refl _) (by omega)) h
  | succ m ih =>
    intro i hi
    have hvi : vp_in (nI k * 100 + nI (t + i)) 1000 := by rw [cx_ix]; exact vp_in_nI (by omega) (by omega)
    have ci : (nI k * 100 + nI (t + i)).toNatClampNeg = k * 100 + t + i := by rw [cx_ix, nI_clamp (by omega)]; omega
    exact br_f (by rw [nI_add]; exact nI_ge (by omega) (by omega)) ⟨hvi, nm_r (by rw [ci, hv]; exact cn_fill_s ..) (nm_r (nI_1 _) (ih (i + 1) (by omega)))⟩
theorem cx_mark {post : SX → Prop} {k t n : Nat} {v p0 p1 p2 : Int32} (hv : vp_nar .boolean v = v) (e0 : p0 = nI k) (e1 : p1 = nI t) (e2 : p2 = nI n) (hk : k < 10) (ht : t + n ≤ 100) (h : post ((nI now), (nI cc), (nI bc), bl, ba, (cn_n fr), (cn_n tt), (cn_n st), (cn_n en), (cn_n ra), (cn_n de), CA, (cn_fill TA (k * 100 + t) n v), (cn_n so), (cn_n ta), (cn_n sz), li, RT, HI, (cn_n hc), HX, HB, wn, wr, wx, wc, wb, bC, bB)) : wpX_mark post ((nI now), (nI cc), (nI bc), bl, ba, (cn_n fr), (cn_n tt), (cn_n st), (cn_n en), (cn_n ra), (cn_n de), CA, TA, (cn_n so), (cn_n ta), (cn_n sz), li, RT, HI, (cn_n hc), HX, HB, wn, wr, wx, wc, wb, bC, bB) p0 p1 p2 v := by
  rw [e0, e1, e2]
  have H := cx_mark3 hv hk ht h n 0 (by omega)
  rw [cn_fill_0] at H
  exact ⟨n + 1, H⟩
theorem cx_ticksE {post : Int32 → Prop} {k z : Nat} {p0 p1 : Int32} (e0 : p0 = nI k) (e1 : p1 = nI z) (hk : k < 10) (h1 : 1 ≤ ra k) (h2 : ra k ≤ 9) (h3 : z ≤ 30) (h : post (nI (cn_tk ra k z))) : wpX_ticksOver post ((nI now), (nI cc), (nI bc), bl, ba, (cn_n fr), (cn_n tt), (cn_n st), (cn_n en), (cn_n ra), (cn_n de), CA, TA, (cn_n so), (cn_n ta), (cn_n sz), li, RT, HI, (cn_n hc), HX, HB, wn, wr, wx, wc, wb, bC, bB) p0 p1 := by
  rw [e0, e1]; exact cx_ticks hk h1 h2 h3 h
theorem cx_book {post : SX → Prop} {b len : Nat} (hb : b < 10) (hs : sz b ≤ 30) (hl : len ≤ 5) :
    ∀ (l : List (Nat × Nat)) (i : Nat) (s : cn_St), i + l.length = len → (∀ j, j < l.length → bC (i + j) = nI (l.getD j (0, 0)).1 ∧ bB (i + j) = nI (l.getD j (0, 0)).2) →
    (∀ x, x ∈ l → x.1 < 10 ∧ 1 ≤ ra x.1 ∧ ra x.1 ≤ 9 ∧ x.2 + cn_tk ra x.1 (sz b) ≤ 100) → s.1 b + l.length ≤ 60 →
    post ((nI now), (nI cc), (nI bc), (nI len), ba, (cn_n fr), (cn_n tt), (cn_n st), (cn_n en), (cn_n ra), (cn_n de), CA, ((l.foldl (cn_ap ra sz b) s).2.2.2.1), (cn_n so), (cn_n ta), (cn_n sz), li, (upd RT b 1), HI, (cn_n (l.foldl (cn_ap ra sz b) s).1), ((l.foldl (cn_ap ra sz b) s).2.2.2.2.1), ((l.foldl (cn_ap ra sz b) s).2.2.2.2.2.1), wn, wr, wx, wc, wb, bC, bB) →
    wX_bookBest_2 post (nI b) (l.length + 1) (nI i) (nI now) (nI cc) (nI bc) (nI len) ba (cn_n fr) (cn_n tt) (cn_n st) (cn_n en) (cn_n ra) (cn_n de) CA (s.2.2.2.1) (cn_n so) (cn_n ta) (cn_n sz) li RT HI (cn_n s.1) (s.2.2.2.2.1) (s.2.2.2.2.2.1) wn wr wx wc wb bC bB := by
  have hvb : vp_in (nI b) 10 := vp_in_nI hb (by omega)
  have cb : (nI b).toNatClampNeg = b := nI_clamp (by omega)
  intro l
  induction l with
  | nil =>
    intro i s hi _ _ _ h
    rw [List.length_nil] at hi
    exact br_t (nI_le (by omega) (by omega)) ⟨hvb, nm_r (by rw [cb, cx_b1]) h⟩
  | cons x l ih =>
    intro i s hi hB hx hh h
    rw [List.length_cons] at hi hh
    obtain ⟨b1, b2⟩ := hB 0 (by rw [List.length_cons]; omega)
    have b1' : bC i = nI x.1 := b1
    have b2' : bB i = nI x.2 := b2
    obtain ⟨x1, x2, x3, x4⟩ := hx x (List.mem_cons_self ..)
    have hvi : vp_in (nI i) 5 := vp_in_nI (by omega) (by omega)
    have ci : (nI i).toNatClampNeg = i := nI_clamp (by omega)
    have hvh : vp_in (nI (b * 100 + s.1 b)) 1000 := vp_in_nI (by omega) (by omega)
    have ch : (nI (b * 100 + s.1 b)).toNatClampNeg = b * 100 + s.1 b := nI_clamp (by omega)
    have IH := ih (i + 1) (cn_ap ra sz b s x) (by omega) (fun j hj => by
      have := hB (j + 1) (by rw [List.length_cons]; omega)
      rw [show i + (j + 1) = i + 1 + j by omega] at this
      exact this) (fun y hy => hx y (List.mem_cons_of_mem _ hy)) (by
        show cn_up s.1 b (s.1 b + 1) b + l.length ≤ 60
        rw [cn_up_s]; omega) h
    refine br_f (nI_ge (by omega) (by omega)) ⟨hvb, nm_r (e' := nI (b * 100 + s.1 b)) (by rw [cb, cn_n_at, cx_ix]) ⟨hvi, hvh, nm_r (e' := upd s.2.2.2.2.1 (b * 100 + s.1 b) (nI x.1)) (by rw [ch, ci, b1']) ⟨hvi, hvh, nm_r (e' := upd s.2.2.2.2.2.1 (b * 100 + s.1 b) (nI x.2)) (by rw [ch, ci, b2'])
      ⟨hvb, hvb, nm_r (e' := cn_n (cn_up s.1 b (s.1 b + 1))) (by rw [cb, cn_n_at, nI_1, cn_n_up]) ⟨hvi, hvb, cx_ticksE (k := x.1) (z := sz b) (by rw [ci]; exact b1') (by rw [cb]; rfl) x1 x2 x3 hs ⟨hvi, hvi,
        cx_mark (k := x.1) (t := x.2) cx_b1 (by rw [ci]; exact b1') (by rw [ci]; exact b2') rfl x1 x4 (nm_r (nI_1 i) IH)⟩⟩⟩⟩⟩⟩
theorem cy_book {post : SY → Prop} {b len : Nat} (hb : b < 10) (hl : len ≤ 5) :
    ∀ (l : List (Nat × Nat)) (i : Nat) (s : cn_St), i + l.length = len → (∀ j, j < l.length → bO (i + j) = nI (l.getD j (0, 0)).1 ∧ bE (i + j) = nI (l.getD j (0, 0)).2) → s.1 b + l.length ≤ 60 →
    post ((nI now), (nI cc), (nI bc), (nI len), bA, (cn_n fr), (cn_n tt), (cn_n st), (cn_n en), (cn_n ra), (cn_n de), CA, (cn_n so), (cn_n ta), (cn_n sz), li, SK, (cn_n (l.foldl (cn_ap ra sz b) s).1), ((l.foldl (cn_ap ra sz b) s).2.2.2.2.2.2.1), ((l.foldl (cn_ap ra sz b) s).2.2.2.2.2.2.2), tr, tb, no, ti, ne, bO, bE) →
    wY_plan_86 post (nI b) (nI now) (nI cc) (nI bc) (nI len) bA (l.length + 1) (nI i) (cn_n fr) (cn_n tt) (cn_n st) (cn_n en) (cn_n ra) (cn_n de) CA (cn_n so) (cn_n ta) (cn_n sz) li SK (cn_n s.1) (s.2.2.2.2.2.2.1) (s.2.2.2.2.2.2.2) tr tb no ti ne bO bE := by
  have hvb : vp_in (nI b) 10 := vp_in_nI hb (by omega)
  have cb : (nI b).toNatClampNeg = b := nI_clamp (by omega)
  intro l
  induction l with
  | nil =>
    intro i s hi _ _ h
    rw [List.length_nil] at hi
    exact br_t (nI_le (by omega) (by omega)) h
  | cons x l ih =>
    intro i s hi hB hh h
    rw [List.length_cons] at hi hh
    obtain ⟨b1, b2⟩ := hB 0 (by rw [List.length_cons]; omega)
    have b1' : bO i = nI x.1 := b1
    have b2' : bE i = nI x.2 := b2
    have hvi : vp_in (nI i) 5 := vp_in_nI (by omega) (by omega)
    have ci : (nI i).toNatClampNeg = i := nI_clamp (by omega)
    have eh : 64 * nI b + cn_n s.1 (nI b).toNatClampNeg = nI (64 * b + s.1 b) := by rw [cb, cn_n_at, cy_ix]
    have hvh : vp_in (nI (64 * b + s.1 b)) 640 := vp_in_nI (by omega) (by omega)
    have ch : (nI (64 * b + s.1 b)).toNatClampNeg = 64 * b + s.1 b := nI_clamp (by omega)
    have IH := ih (i + 1) (cn_ap ra sz b s x) (by omega) (fun j hj => by
      have := hB (j + 1) (by rw [List.length_cons]; omega)
      rw [show i + (j + 1) = i + 1 + j by omega] at this
      exact this) (by
        show cn_up s.1 b (s.1 b + 1) b + l.length ≤ 60
        rw [cn_up_s]; omega) h
    refine br_f (nI_ge (by omega) (by omega)) ⟨hvb, hvi, by rw [eh]; exact hvh, nm_r (e' := upd s.2.2.2.2.2.2.1 (64 * b + s.1 b) (nI x.1)) (by rw [eh, ch, ci, b1']) ⟨hvb, hvi, by rw [eh]; exact hvh, nm_r (e' := upd s.2.2.2.2.2.2.2 (64 * b + s.1 b) (nI x.2)) (by rw [eh, ch, ci, b2'])
      ⟨hvb, hvb, nm_r (e' := cn_n (cn_up s.1 b (s.1 b + 1))) (by rw [cb, cn_n_at, nI_1, cn_n_up]) (nm_r (nI_1 i) IH)⟩⟩⟩
end
/-- what planning a bundle books, if anything -/
def cn_pl (now cc : Nat) (fr tt st en ra de so ta sz : Nat → Nat) (CA li : Nat → Int32) (s : cn_St) (b : Nat) : Option (List (Nat × Nat)) :=
  match cn_bst cc fr tt st en ra de CA s.2.2.2.1 (ta b) (sz b) (cn_nd so tt s.2.1 b (s.1 b)) (cn_mx (cn_cm ra de sz s.1 s.2.1 s.2.2.1 b) now) with
  | none => none
  | some r => if nI r.2 ≤ li b then some r.1 else none
