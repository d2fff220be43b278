theorem cx_100 : (100 : Int32) = nI 100 := rfl
theorem cx_64 : (64 : Int32) = nI 64 := rfl
theorem cx_i1 : (1 : Int32) = nI 1 := rfl
theorem cx_ix (b i : Nat) : nI b * 100 + nI i = nI (b * 100 + i) := by rw [cx_100, pk_mul, nI_add]
theorem cy_ix (b i : Nat) : 64 * nI b + nI i = nI (64 * b + i) := by rw [cx_64, pk_mul, nI_add]
theorem cy_i0 (b : Nat) : 64 * nI b = nI (64 * b) := by rw [cx_64, pk_mul]
theorem cx_m1 {n : Nat} (h : 0 < n) : nI n - 1 = nI (n - 1) := by rw [cx_i1, pk_sub h]
theorem cx_tkE {ra : Nat → Nat} {k s : Nat} (h1 : 1 ≤ ra k) (h2 : ra k ≤ 9) (h3 : s ≤ 30) : (nI s + nI (ra k) - 1) / nI (ra k) = nI (cn_tk ra k s) := by
  rw [nI_add, cx_m1 (by omega), pk_div (by omega) (by omega) (by omega)]
  rfl
theorem cx_b0 : vp_nar .boolean 0 = 0 := by decide
theorem cx_b1 : vp_nar .boolean 1 = 1 := by decide
section
variable {now cc bc : Nat} {bl ba be bA : Int32} {fr tt st en ra de so ta sz hc : Nat → Nat} {oc ob : Nat → Nat → Nat} {CA TA li RT HI HX HB wn wr wx wc wb bC bB SK HY HZ tr tb no ti ne bO bE : Nat → Int32}
theorem cx_ticks {post : Int32 → Prop} {k z : Nat} (hk : k < 10) (h1 : 1 ≤ ra k) (h2 : ra k ≤ 9) (h3 : z ≤ 30) (h : post (nI (cn_tk ra k z))) : wpX_ticksOver post ((nI now), (nI cc), (nI bc), bl, ba, (cn_n fr), (cn_n tt), (cn_n st), (cn_n en), (cn_n ra), (cn_n de), CA, TA, (cn_n so), (cn_n ta), (cn_n sz), li, RT, HI, (cn_n hc), HX, HB, wn, wr, wx, wc, wb, bC, bB) (nI k) (nI z) := by
  have hi : vp_in (nI k) 10 := vp_in_nI hk (by omega)
  have hc : (nI k).toNatClampNeg = k := nI_clamp (by omega)
  unfold wpX_ticksOver
  dsimp only
  rw [hc]
  refine ⟨hi, hi, nI_ne0 h1 (by omega), ?_⟩
  show post ((nI z + nI (ra k) - 1) / nI (ra k))
  rw [cx_tkE h1 h2 h3]; exact h
theorem cy_ticks {post : Int32 → Prop} {k z : Nat} (hk : k < 10) (h1 : 1 ≤ ra k) (h2 : ra k ≤ 9) (h3 : z ≤ 30) (h : post (nI (cn_tk ra k z))) : wpY_ticks post ((nI now), (nI cc), (nI bc), be, bA, (cn_n fr), (cn_n tt), (cn_n st), (cn_n en), (cn_n ra), (cn_n de), CA, (cn_n so), (cn_n ta), (cn_n sz), li, SK, (cn_n hc), HY, HZ, tr, tb, no, ti, ne, bO, bE) (nI k) (nI z) := by
  have hi : vp_in (nI k) 10 := vp_in_nI hk (by omega)
  have hc : (nI k).toNatClampNeg = k := nI_clamp (by omega)
  unfold wpY_ticks
  dsimp only
  rw [hc]
  have hp : (1 : Int32) ≤ cn_n ra k := by
    show nI 1 ≤ nI (ra k)
    exact nI_le h1 (by omega)
  refine ⟨hi, br_t hp ⟨hi, nI_ne0 h1 (by omega), ?_⟩⟩
  show post ((nI z + nI (ra k) - 1) / nI (ra k))
  rw [cx_tkE h1 h2 h3]; exact h
theorem cy_comes {post : Int32 → Prop} {k z t : Nat} (hk : k < 10) (h1 : 1 ≤ ra k) (h2 : ra k ≤ 9) (h3 : z ≤ 30) (h : post (nI (t + cn_tk ra k z + de k))) : wpY_comesIn post ((nI now), (nI cc), (nI bc), be, bA, (cn_n fr), (cn_n tt), (cn_n st), (cn_n en), (cn_n ra), (cn_n de), CA, (cn_n so), (cn_n ta), (cn_n sz), li, SK, (cn_n hc), HY, HZ, tr, tb, no, ti, ne, bO, bE) (nI k) (nI z) (nI t) := by
  have hi : vp_in (nI k) 10 := vp_in_nI hk (by omega)
  have hc : (nI k).toNatClampNeg = k := nI_clamp (by omega)
  unfold wpY_comesIn
  dsimp only
  apply cy_ticks hk h1 h2 h3
  refine ⟨hi, ?_⟩
  rw [hc]
  show post (nI t + nI (cn_tk ra k z) + nI (de k))
  rw [nI_add, nI_add]; exact h
theorem cx_comes {post : Int32 → Prop} {b i k t : Nat} (hb : b < 10) (hi : i < 100) (eX : HX (b * 100 + i) = nI k) (eB : HB (b * 100 + i) = nI t) (hk : k < 10) (h1 : 1 ≤ ra k) (h2 : ra k ≤ 9) (h3 : sz b ≤ 30) (h : post (nI (t + cn_tk ra k (sz b) + de k))) : wpX_comesIn post ((nI now), (nI cc), (nI bc), bl, ba, (cn_n fr), (cn_n tt), (cn_n st), (cn_n en), (cn_n ra), (cn_n de), CA, TA, (cn_n so), (cn_n ta), (cn_n sz), li, RT, HI, (cn_n hc), HX, HB, wn, wr, wx, wc, wb, bC, bB) (nI b) (nI i) := by
  have hj : vp_in (nI (b * 100 + i)) 1000 := vp_in_nI (by omega) (by omega)
  have hbi : vp_in (nI b) 10 := vp_in_nI hb (by omega)
  have hki : vp_in (nI k) 10 := vp_in_nI hk (by omega)
  have cj : (nI (b * 100 + i)).toNatClampNeg = b * 100 + i := nI_clamp (by omega)
  have cb : (nI b).toNatClampNeg = b := nI_clamp (by omega)
  have ck : (nI k).toNatClampNeg = k := nI_clamp (by omega)
  unfold wpX_comesIn
  dsimp only
  refine nm_r (cx_ix b i) ⟨hj, nm_r (e' := nI k) (by rw [cj]; exact eX) ⟨hj, hbi, ?_⟩⟩
  rw [cb]
  apply cx_ticks hk h1 h2 h3
  refine ⟨hki, ?_⟩
  rw [cj, ck, eB]
  show post (nI t + nI (cn_tk ra k (sz b)) + nI (de k))
  rw [nI_add, nI_add]; exact h
end
