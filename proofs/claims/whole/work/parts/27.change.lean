section
variable {k now cc bc nc : Nat} {fr tt st en ra de so ta sz hc : Nat → Nat} {oc ob : Nat → Nat → Nat} {CA TA li RT HI HX HB SK HY HZ : Nat → Int32}
theorem cn_In_bundle (I : cn_In now cc bc nc fr tt st en ra de so ta sz CA RT SK (hc, oc, ob, TA, HX, HB, HY, HZ) (fun _ => True)) (h10 : bc < 10) {x g z : Nat} (h1 : x < 6) (h2 : g < 6) (h3 : x ≠ g) (h4 : 1 ≤ z) (h5 : z ≤ 30) :
    cn_In now cc (bc + 1) nc fr tt st en ra de (cn_up so bc x) (cn_up ta bc g) (cn_up sz bc z) CA RT SK (hc, oc, ob, TA, HX, HB, HY, HZ) (fun b => b < bc) := by
  obtain ⟨i1, i2, i3, i4, i5, i6, i7, i8⟩ := I
  obtain ⟨z1, z2⟩ := i7 bc (Nat.le_refl _) h10
  exact ⟨i1, i2, by omega, i4, cn_Iv_bundle i5 z1 x z, cn_Bn_bundle (s := (hc, oc, ob, TA, HX, HB, HY, HZ)) i6 z1 z2 h1 h2 h3 h4 h5, fun b q1 q2 => i7 b (by omega) q2, fun b _ q => i8 b q trivial⟩
theorem cn_In_more (I : cn_In now cc bc nc fr tt st en ra de so ta sz CA RT SK (hc, oc, ob, TA, HX, HB, HY, HZ) (fun _ => True)) (h10 : cc < 10) {f t s e r d : Nat} (h1 : f < 6) (h2 : t < 6) (h3 : f ≠ t) (h4 : s < e) (h5 : e ≤ 100) (h6 : 1 ≤ r) (h7 : r ≤ 9) (h8 : d ≤ 9) :
    cn_In now (cc + 1) bc nc (cn_up fr cc f) (cn_up tt cc t) (cn_up st cc s) (cn_up en cc e) (cn_up ra cc r) (cn_up de cc d) so ta sz CA RT SK (hc, oc, ob, TA, HX, HB, HY, HZ) (fun _ => True) := by
  obtain ⟨i1, i2, i3, i4, i5, i6, i7, i8⟩ := I
  exact ⟨i1, cn_netMore i2 h10 h1 h2 h3 h4 h5 h6 h7 h8, i3, cn_Ca_cc i4, cn_Iv_more i5 f t s e r, cn_Bn_more (s := (hc, oc, ob, TA, HX, HB, HY, HZ)) i6 i5 t, i7, i8⟩
theorem cn_In_off (I : cn_In now cc bc nc fr tt st en ra de so ta sz CA RT SK (hc, oc, ob, TA, HX, HB, HY, HZ) (fun _ => True)) {c : Nat} (hc1 : c < cc) (h0 : CA c = 0) :
    cn_In now cc bc (nc + 1) fr tt st en ra de so ta sz (upd CA c 1) RT SK (hc, oc, ob, TA, HX, HB, HY, HZ) (fun _ => True) := by
  obtain ⟨i1, i2, i3, i4, i5, i6, i7, i8⟩ := I
  exact ⟨i1, i2, i3, cn_Ca_up i4 i2.1 hc1 h0, i5, cn_Bn_nc (s := (hc, oc, ob, TA, HX, HB, HY, HZ)) i6, i7, i8⟩
end
theorem i_vc_send {k : Nat} {u : SX} {v : SY} (I : i_Rel k u v) (hk : k + 4 ≤ 2048) (v1 : Int32) (v2 : Int32) (v3 : Int32) : wpX_send (fun r u' => wpY_send (fun r' v' => r' = r ∧ i_Rel (k + 4) u' v') v v1 v2 v3) u v1 v2 v3 := by
  have R := i_up I
  obtain ⟨now, cc, bc, nc, fr, tt, st, en, ra, de, so, ta, sz, hc, oc, ob, CA, TA, li, RT, HI, HX, HB, wn, wr, wx, wc, wb, bC, bB, SK, HY, HZ, tr, tb, no, ti, ne, bO, bE, bl, ba, be, bA, e1, e2, h1, I⟩ := I
  subst e1 e2
  have hnow := I.1
  have hbc := I.2.2.1
  unfold wpX_send wpY_send
  dsimp only
  rcases cn_ends (now := now) (cc := cc) (bc := bc) (be := be) (bA := bA) (fr := fr) (tt := tt) (st := st) (en := en) (ra := ra) (de := de) (so := so) (ta := ta) (sz := sz) (hc := hc) (CA := CA) (li := li) (SK := SK) (HY := HY) (HZ := HZ) (tr := tr) (tb := tb) (no := no) (ti := ti) (ne := ne) (bO := bO) (bE := bE) v1 with ⟨e, he, hne, rfl, fx, fy⟩ | ⟨fx, fy⟩
  · have d1 : nI e / 6 = nI (e / 6) := cn_d6 (by omega)
    have d2 : nI e - nI e / 6 * 6 = nI (e % 6) := cn_r6 (by omega)
    rcases cn_size (now := now) (cc := cc) (bc := bc) (be := be) (bA := bA) (fr := fr) (tt := tt) (st := st) (en := en) (ra := ra) (de := de) (so := so) (ta := ta) (sz := sz) (hc := hc) (CA := CA) (li := li) (SK := SK) (HY := HY) (HZ := HZ) (tr := tr) (tb := tb) (no := no) (ti := ti) (ne := ne) (bO := bO) (bE := bE) v2 with ⟨z, hz1, hz2, rfl, sx, sy⟩ | ⟨sx, sy⟩
    · by_cases h10 : bc < 10
      · have qx : nI bc < 10 := nI_lt (b := 10) h10 (by omega)
        have qy : ¬ nI bc = 10 := by
          show ¬ nI bc = nI 10
          rw [nI_eq (by omega) (by omega)]; omega
        have hvb : vp_in (nI bc) 10 := vp_in_nI h10 (by omega)
        have cb : (nI bc).toNatClampNeg = bc := nI_clamp (by omega)
        have hz0 : hc bc = 0 := (I.2.2.2.2.2.2.1 bc (Nat.le_refl _) h10).1
        have hR0 : RT bc = 0 := (I.2.2.2.2.2.2.1 bc (Nat.le_refl _) h10).2
        have I1 := cn_In_bundle I h10 (x := e / 6) (g := e % 6) (z := z) (by omega) (by omega) hne hz1 hz2
        obtain ⟨hc1, oc1, ob1, TA1, HX1, HB1, HY1, HZ1, RT1, SK1, J1, _, x1, y1⟩ := cn_planXY (li := upd li bc v3) I1 (b := bc) (by omega) hR0
        obtain ⟨wn1, wr1, wx1, wc1, wb1, bl1, ba1, bC1, bB1, f1⟩ := x1 HI wn wr wx wc wb bl ba bC bB
        obtain ⟨tr1, tb1, no1, ti1, ne1, be1, bA1, bO1, bE1, g1⟩ := y1 tr tb no ti ne be bA bO bE
        have J : cn_In now cc (bc + 1) nc fr tt st en ra de (cn_up so bc (e / 6)) (cn_up ta bc (e % 6)) (cn_up sz bc z) CA RT1 SK1 (hc1, oc1, ob1, TA1, HX1, HB1, HY1, HZ1) (fun _ => True) := cn_In_Q J1 (fun b hb _ => by
          by_cases e : b = bc
          · exact Or.inr e
          · exact Or.inl (by omega))
        have w1 : upd (cn_n so) (nI bc).toNatClampNeg (nI e / 6) = cn_n (cn_up so bc (e / 6)) := by rw [cb, d1, cn_n_up]
        have w2 : upd (cn_n ta) (nI bc).toNatClampNeg (nI e - nI e / 6 * 6) = cn_n (cn_up ta bc (e % 6)) := by rw [cb, d2, cn_n_up]
        have w3 : upd (cn_n sz) (nI bc).toNatClampNeg (nI z) = cn_n (cn_up sz bc z) := by rw [cb, cn_n_up]
        have w4 : upd li (nI bc).toNatClampNeg v3 = upd li bc v3 := by rw [cb]
        have w5 : upd (cn_n hc) (nI bc).toNatClampNeg 0 = cn_n hc := by
          rw [cb]
          show upd (cn_n hc) bc (nI 0) = cn_n hc
          rw [cn_n_up, cn_n_same hz0]
        exact fx _ (br_f (by decide) (sx _ (br_f (by decide) (br_t qx ⟨cn_n6, hvb, nm_r w1 ⟨cn_n6, hvb, nm_r w2 ⟨hvb, nm_r w3 ⟨hvb, nm_r w4 (nm_r (nI_1 bc) (f1 _ (fy _ (br_t rfl (sy _ (br_t rfl (br_f qy
          ⟨cn_n6, hvb, nm_r w1 ⟨cn_n6, hvb, nm_r w2 ⟨hvb, nm_r w3 ⟨hvb, nm_r w4 ⟨hvb, nm_r w5 (nm_r (nI_1 bc) (g1 _ ⟨rfl, cn_mk (by omega) J⟩))⟩⟩⟩⟩⟩)))))))⟩⟩⟩⟩))))
      · have qx : ¬ nI bc < 10 := nI_nlt (b := 10) (by omega) (by omega)
        have qy : nI bc = 10 := by
          have : bc = 10 := by omega
          rw [this]; rfl
        exact fx _ (br_f (by decide) (sx _ (br_f (by decide) (br_f qx (fy _ (br_t rfl (sy _ (br_t rfl (br_t qy ⟨rfl, R⟩)))))))))
    · exact fx _ (br_f (by decide) (sx _ (br_t rfl (fy _ (br_t rfl (sy _ (br_f (by decide) ⟨rfl, R⟩)))))))
  · exact fx _ (br_t rfl (fy _ (br_f (by decide) ⟨rfl, R⟩)))
theorem i_vc_contact {k : Nat} {u : SX} {v : SY} (I : i_Rel k u v) (hk : k + 4 ≤ 2048) (v1 : Int32) (v2 : Int32) (v3 : Int32) : wpX_contact (fun r u' => wpY_contact (fun r' v' => r' = r ∧ i_Rel (k + 4) u' v') v v1 v2 v3) u v1 v2 v3 := by
  have R := i_up I
  obtain ⟨now, cc, bc, nc, fr, tt, st, en, ra, de, so, ta, sz, hc, oc, ob, CA, TA, li, RT, HI, HX, HB, wn, wr, wx, wc, wb, bC, bB, SK, HY, HZ, tr, tb, no, ti, ne, bO, bE, bl, ba, be, bA, e1, e2, h1, I⟩ := I
  subst e1 e2
  have hnow := I.1
  have hcc := I.2.1.1
  unfold wpX_contact wpY_contact
  dsimp only
  rcases cn_ends (now := now) (cc := cc) (bc := bc) (be := be) (bA := bA) (fr := fr) (tt := tt) (st := st) (en := en) (ra := ra) (de := de) (so := so) (ta := ta) (sz := sz) (hc := hc) (CA := CA) (li := li) (SK := SK) (HY := HY) (HZ := HZ) (tr := tr) (tb := tb) (no := no) (ti := ti) (ne := ne) (bO := bO) (bE := bE) v1 with ⟨e, he, hne, rfl, fx, fy⟩ | ⟨fx, fy⟩
  · rcases cn_span v2 with ⟨s, hs1, hs2, rfl, px, py⟩ | ⟨px, py⟩
    · rcases cn_terms v3 with ⟨t, ht1, ht2, rfl, tx, ty⟩ | ⟨tx, ty⟩
      · by_cases h10 : cc < 10
        · have qx : nI cc < 10 := nI_lt (b := 10) h10 (by omega)
          have qy : ¬ nI cc = 10 := by
            show ¬ nI cc = nI 10
            rw [nI_eq (by omega) (by omega)]; omega
          have hvc : vp_in (nI cc) 10 := vp_in_nI h10 (by omega)
          have cl : (nI cc).toNatClampNeg = cc := nI_clamp (by omega)
          have I1 := cn_In_more I h10 (f := e / 6) (t := e % 6) (s := s / 101) (e := s % 101) (r := t / 10) (d := t % 10) (by omega) (by omega) hne hs2 (by omega) (by omega) (by omega) (by omega)
          obtain ⟨hc1, oc1, ob1, TA1, HX1, HB1, HY1, HZ1, RT1, SK1, J, x1, y1⟩ := cn_retryXY (li := li) bc 0 hc oc ob TA HX HB HY HZ RT SK (by omega) I1
          obtain ⟨wn1, wr1, wx1, wc1, wb1, bl1, ba1, bC1, bB1, f1⟩ := x1 HI wn wr wx wc wb bl ba bC bB
          obtain ⟨tr1, tb1, no1, ti1, ne1, be1, bA1, bO1, bE1, g1⟩ := y1 tr tb no ti ne be bA bO bE
          have w1 : upd (cn_n fr) (nI cc).toNatClampNeg (nI e / 6) = cn_n (cn_up fr cc (e / 6)) := by rw [cl, cn_d6 (by omega), cn_n_up]
          have w2 : upd (cn_n tt) (nI cc).toNatClampNeg (nI e - nI e / 6 * 6) = cn_n (cn_up tt cc (e % 6)) := by rw [cl, cn_r6 (by omega), cn_n_up]
          have w3 : upd (cn_n st) (nI cc).toNatClampNeg (nI s / 101) = cn_n (cn_up st cc (s / 101)) := by rw [cl, cn_d101 (by omega), cn_n_up]
          have w4 : upd (cn_n en) (nI cc).toNatClampNeg (nI s - nI s / 101 * 101) = cn_n (cn_up en cc (s % 101)) := by rw [cl, cn_r101 (by omega), cn_n_up]
          have w5 : upd (cn_n ra) (nI cc).toNatClampNeg (nI t / 10) = cn_n (cn_up ra cc (t / 10)) := by rw [cl, cn_d10 (by omega), cn_n_up]
          have w6 : upd (cn_n de) (nI cc).toNatClampNeg (nI t - nI t / 10 * 10) = cn_n (cn_up de cc (t % 10)) := by rw [cl, cn_r10 (by omega), cn_n_up]
          refine fx _ (br_f (by decide) (px _ (br_f (by decide) (tx _ (br_f (by decide) (br_t qx ⟨cn_n6, hvc, nm_r w1 ⟨cn_n6, hvc, nm_r w2 ⟨cn_n101, hvc, nm_r w3 ⟨cn_n101, hvc, nm_r w4 ⟨cn_n10, hvc, nm_r w5 ⟨cn_n10, hvc, nm_r w6 (nm_r (nI_1 cc) ⟨bc + 1, f1 _ ?_⟩)⟩⟩⟩⟩⟩⟩))))))
          refine fy _ (br_t rfl (py _ _ (ty _ _ (br_f qy ⟨cn_n6, hvc, nm_r w1 ⟨cn_n6, hvc, nm_r w2 ⟨cn_n101, hvc, nm_r w3 ⟨cn_n101, hvc, nm_r w4 ⟨cn_n10, hvc, nm_r w5 ⟨cn_n10, hvc, nm_r w6 (nm_r (nI_1 cc) ⟨bc + 1, g1 _ ⟨nI_pred cc, cn_mk (by omega) J⟩⟩)⟩⟩⟩⟩⟩⟩))))
        · have qx : ¬ nI cc < 10 := nI_nlt (b := 10) (by omega) (by omega)
          have qy : nI cc = 10 := by
            have : cc = 10 := by omega
            rw [this]; rfl
          exact fx _ (br_f (by decide) (px _ (br_f (by decide) (tx _ (br_f (by decide) (br_f qx (fy _ (br_t rfl (py _ _ (ty _ _ (br_t qy ⟨rfl, R⟩)))))))))))
      · exact fx _ (br_f (by decide) (px _ (br_f (by decide) (tx _ (br_t rfl (fy _ (br_t rfl (py _ _ (ty _ _ ⟨rfl, R⟩)))))))))
    · exact fx _ (br_f (by decide) (px _ (br_t rfl (fy _ (br_t rfl (py _ _ ⟨rfl, R⟩))))))
  · exact fx _ (br_t rfl (fy _ (br_f (by decide) ⟨rfl, R⟩)))
theorem i_vc_cancel {k : Nat} {u : SX} {v : SY} (I : i_Rel k u v) (hk : k + 4 ≤ 2048) (v1 : Int32) : wpX_cancel (fun r u' => wpY_cancel (fun r' v' => r' = r ∧ i_Rel (k + 4) u' v') v v1) u v1 := by
  have R := i_up I
  obtain ⟨now, cc, bc, nc, fr, tt, st, en, ra, de, so, ta, sz, hc, oc, ob, CA, TA, li, RT, HI, HX, HB, wn, wr, wx, wc, wb, bC, bB, SK, HY, HZ, tr, tb, no, ti, ne, bO, bE, bl, ba, be, bA, e1, e2, h1, I⟩ := I
  subst e1 e2
  have hcc := I.2.1.1
  rcases cn_con hcc v1 with ⟨c, hc1, rfl⟩ | h | ⟨h0, h⟩
  · have h0 : ¬ nI c < 0 := nI_pos (by omega)
    have hge : ¬ nI cc ≤ nI c := nI_ge hc1 (by omega)
    have hvc : vp_in (nI c) 10 := vp_in_nI (by omega) (by omega)
    have cl : (nI c).toNatClampNeg = c := nI_clamp (by omega)
    by_cases hca : CA c = 0
    · have q : CA (nI c).toNatClampNeg = 0 := by rw [cl]; exact hca
      have w : upd CA (nI c).toNatClampNeg (vp_nar .boolean 1) = upd CA c 1 := by rw [cl, cx_b1]
      have I1 := cn_In_off I hc1 hca
      obtain ⟨h', hc', oc', ob', TA', HX', HB', HY', HZ', RT', HI', bits', J, j1, j2, jx, jy⟩ := cn_c1 (li := li) hc1 SK bc 0 0 hc oc ob TA HX HB HY HZ RT HI 0 (by omega) (cn_In_Q I1 (fun _ _ _ => trivial))
        (fun b hb => by have : hc b ≤ 5 * nc + 5 := cn_Bn_le (s := (hc, oc, ob, TA, HX, HB, HY, HZ)) I.2.2.2.2.2.1 hb; omega) (fun b hb => by omega) (fun j _ => by rw [b_0]; exact ⟨fun z => absurd z (by decide), fun z => by omega⟩)
      obtain ⟨hc2, oc2, ob2, TA2, HX2, HB2, HY2, HZ2, RT2, SK2, J2, kx, ky⟩ := cn_c2 (li := li) (hn := nI h') j2 bc 0 hc' oc' ob' TA' HX' HB' HY' HZ' RT' SK (by omega) (cn_In_Q J (fun b _ z => z.resolve_right (by omega))) (fun b _ hb => j1 b hb)
      obtain ⟨wn1, wr1, wx1, wc1, wb1, bl1, ba1, bC1, bB1, f1⟩ := kx wn wr wx wc wb bl ba bC bB
      obtain ⟨tr1, tb1, no1, ti1, ne1, be1, bA1, bO1, bE1, g1⟩ := ky tr tb no ti ne be bA bO bE
      exact br_f h0 (br_f hge (br_f (by decide) ⟨hvc, br_t q ⟨hvc, nm_r w ⟨bc + 1, jx wn wr wx wc wb bl ba bC bB _ ⟨bc + 1, f1 _ (br_f h0 (br_f hge ⟨hvc, br_t q ⟨hvc, nm_r w ⟨bc + 1, jy tr tb no ti ne be bA bO bE _ ⟨bc + 1, g1 _ ⟨rfl, cn_mk (by omega) J2⟩⟩⟩⟩⟩))⟩⟩⟩⟩))
    · have q : ¬ CA (nI c).toNatClampNeg = 0 := by rw [cl]; exact hca
      exact br_f h0 (br_f hge (br_f (by decide) ⟨hvc, br_f q (br_f h0 (br_f hge ⟨hvc, br_f q ⟨rfl, R⟩⟩))⟩))
  · exact br_t h (br_t rfl (br_t h ⟨rfl, R⟩))
  · exact br_f h0 (br_t h (br_t rfl (br_f h0 (br_t h ⟨rfl, R⟩))))
