section
variable {Ln Lk Tn w w2 : Int32} {Op Tg Od XS XP XE XV XW XR XQ XZ XC XD Ys Yp Ye Yq Yr Yw Yv Yn Yh Yz Yd : Nat → Int32} {post : Int32 → SX → Prop} {pos : Int32 → SY → Prop} {r len e v n p g a b c d m : Nat} {t : Nat → Nat}
theorem rl_mk (hsc : sc_R len Ln Op Tg) (hK : ¬ Lk = 0) (hB : rr_B r len Op Od XS XP XE XV XW XR XQ XZ XC XD Ys Yp Ye Yq Yr Yw Yv Yn Yh Yz Yd) (hF : ∀ q, q < 3 → q ≠ r → rr_R q len Op Od XS XP XE XV XW XR XQ XZ XC XD Ys Yp Ye Yq Yr Yw Yv Yn Yh Yz Yd) : rl_R len Ln Lk Op Tg Od XS XP XE XV XW XR XQ XZ XC XD Ys Yp Ye Yq Yr Yw Yv Yn Yh Yz Yd := by
  refine ⟨hsc, fun z => absurd z hK, fun q hq => ?_⟩
  by_cases z : q = r
  · subst z
    exact ⟨hB.1, Or.inr hB.2⟩
  · exact hF q hq z
theorem sg_ot (hc : c < 2) (hd : d < 2) (h : ¬ c = d) : sg_n (upd Yh (r * 24 + n) (nI c)) (r * 24) (nI d) (n + 1) = sg_n Yh (r * 24) (nI d) n := by
  rw [sg_no (by rw [pk_us]; exact fun z => h (sg_cc hc hd z))]
  exact sg_cg n (fun k hk => pk_un (by omega))
theorem x_sigF (hr : r < 3) (hS0 : ¬ XS r = 0) (hS4 : ¬ XS r = 4) (hA : XC (r * 2) = nI a) (hA1 : XC (r * 2 + 1) = nI b) (hab : a + b = 24) (h : post (-2) (Ln, Lk, Tn, Op, Tg, Od, XS, XP, XE, XV, XW, XR, XQ, XZ, XC, XD)) : wpX_signal post (Ln, Lk, Tn, Op, Tg, Od, XS, XP, XE, XV, XW, XR, XQ, XZ, XC, XD) (nI r) w2 w := by
  unfold wpX_signal
  refine x_run hr (br_t (by trivial) ?_)
  have e0 : (nI (r * 2)).toNatClampNeg = r * 2 := nI_clamp (by omega)
  have e1 : vp_in (nI (r * 2)) 6 := vp_in_nI (by omega) (by decide)
  simp only [rf_rc hr, rf_r3 hr, rf_m2, e0, e1, nI_1, nI_add, hA, hA1, rf_qc hr (show 1 < 2 by decide), rf_q6 hr (show 1 < 2 by decide), hab, true_and, forall_eq]
  exact br_f hS0 (br_f hS4 (br_f (by decide) h))
theorem x_sigN (hr : r < 3) (hS0 : ¬ XS r = 0) (hS4 : ¬ XS r = 4) (hA : XC (r * 2) = nI a) (hA1 : XC (r * 2 + 1) = nI b) (hab : a + b < 24) (hw : w2 &&& 1 = nI c) (hc : c < 2) (hm : XC (r * 2 + c) = nI m) (hm24 : m < 24) (hS3 : ¬ XS r = 3) (h : post (XS r) (Ln, Lk, Tn, Op, Tg, Od, XS, XP, XE, XV, XW, XR, XQ, upd XZ ((r * 2 + c) * 24 + m) w, upd XC (r * 2 + c) (nI (m + 1)), XD)) : wpX_signal post (Ln, Lk, Tn, Op, Tg, Od, XS, XP, XE, XV, XW, XR, XQ, XZ, XC, XD) (nI r) w2 w := by
  unfold wpX_signal
  refine x_run hr (br_t (by trivial) ?_)
  have e0 : (nI (r * 2)).toNatClampNeg = r * 2 := nI_clamp (by omega)
  have e1 : vp_in (nI (r * 2)) 6 := vp_in_nI (by omega) (by decide)
  simp only [rf_rc hr, rf_r3 hr, rf_m2, hw, e0, e1, nI_1, nI_add, hA, hA1, rf_qc hr (show 1 < 2 by decide), rf_q6 hr (show 1 < 2 by decide), rf_qc hr hc, rf_q6 hr hc, hm, rf_m24, rf_zc hr hc hm24, rf_z144 hr hc hm24, true_and, forall_eq]
  refine br_f hS0 (br_f hS4 (br_t (nI_lt (b := 24) hab (by decide)) ?_))
  exact br_f hS3 h
theorem x_sigO (hr : r < 3) (hS0 : ¬ XS r = 0) (hS4 : ¬ XS r = 4) (hA : XC (r * 2) = nI a) (hA1 : XC (r * 2 + 1) = nI b) (hab : a + b < 24) (hw : w2 &&& 1 = nI c) (hc : c < 2) (hm : XC (r * 2 + c) = nI m) (hm24 : m < 24) (hS3 : XS r = 3) (hP : XP r = nI p) (hp : p < 16) (hB : Od p &&& 1 = nI d) (hd : d < 2) (hcd : ¬ c = d) (h : post (XS r) (Ln, Lk, Tn, Op, Tg, Od, XS, XP, XE, XV, XW, XR, XQ, upd XZ ((r * 2 + c) * 24 + m) w, upd XC (r * 2 + c) (nI (m + 1)), XD)) : wpX_signal post (Ln, Lk, Tn, Op, Tg, Od, XS, XP, XE, XV, XW, XR, XQ, XZ, XC, XD) (nI r) w2 w := by
  unfold wpX_signal
  refine x_run hr (br_t (by trivial) ?_)
  have e0 : (nI (r * 2)).toNatClampNeg = r * 2 := nI_clamp (by omega)
  have e1 : vp_in (nI (r * 2)) 6 := vp_in_nI (by omega) (by decide)
  simp only [rf_rc hr, rf_r3 hr, rf_m2, hw, e0, e1, nI_1, nI_add, hA, hA1, rf_qc hr (show 1 < 2 by decide), rf_q6 hr (show 1 < 2 by decide), rf_qc hr hc, rf_q6 hr hc, hm, rf_m24, rf_zc hr hc hm24, rf_z144 hr hc hm24, true_and, forall_eq]
  refine br_f hS0 (br_f hS4 (br_t (nI_lt (b := 24) hab (by decide)) ?_))
  refine br_t hS3 (x_que hr hP hp hB ?_)
  exact br_f (fun z => hcd (by have := (nI_eq (by omega) (by omega)).mp z; omega)) h
theorem x_sigT {XS1 XP1 XE1 XV1 XW1 XR1 XQ1 XD1 : Nat → Int32} (hr : r < 3) (hS0 : ¬ XS r = 0) (hS4 : ¬ XS r = 4) (hA : XC (r * 2) = nI a) (hA1 : XC (r * 2 + 1) = nI b) (hab : a + b < 24) (hw : w2 &&& 1 = nI c) (hc : c < 2) (hm : XC (r * 2 + c) = nI m) (hm24 : m < 24) (hS3 : XS r = 3) (hP : XP r = nI p) (hp : p < 16) (hB : Od p &&& 1 = nI c) (hG : Tg p = nI g) (hg4 : g < 4) (hV : XV r = nI v) (hD : XD (r * 2 + c) = nI d) (hd : d < 24)
    (hg : ∀ P : SX → Prop, P (Ln, Lk, Tn, Op, Tg, Od, XS1, XP1, XE1, XV1, XW1, XR1, XQ1, upd XZ ((r * 2 + c) * 24 + m) w, upd XC (r * 2 + c) (nI (m + 1)), XD1) → wpX_goOn P (Ln, Lk, Tn, Op, Tg, Od, XS, upd XP r (nI (p + 1)), upd XE r 0, upd XV r (nI (v + 1)), XW, XR, upd XQ (r * 4 + g) (upd XZ ((r * 2 + c) * 24 + m) w ((r * 2 + c) * 24 + d)), upd XZ ((r * 2 + c) * 24 + m) w, upd XC (r * 2 + c) (nI (m + 1)), upd XD (r * 2 + c) (nI (d + 1))) (nI r)) (h : post (XS1 r) (Ln, Lk, Tn, Op, Tg, Od, XS1, XP1, XE1, XV1, XW1, XR1, XQ1, upd XZ ((r * 2 + c) * 24 + m) w, upd XC (r * 2 + c) (nI (m + 1)), XD1)) : wpX_signal post (Ln, Lk, Tn, Op, Tg, Od, XS, XP, XE, XV, XW, XR, XQ, XZ, XC, XD) (nI r) w2 w := by
  unfold wpX_signal
  refine x_run hr (br_t (by trivial) ?_)
  have e0 : (nI (r * 2)).toNatClampNeg = r * 2 := nI_clamp (by omega)
  have e1 : vp_in (nI (r * 2)) 6 := vp_in_nI (by omega) (by decide)
  simp only [rf_rc hr, rf_r3 hr, rf_m2, hw, e0, e1, nI_1, nI_add, hA, hA1, rf_qc hr (show 1 < 2 by decide), rf_q6 hr (show 1 < 2 by decide), rf_qc hr hc, rf_q6 hr hc, hm, rf_m24, rf_zc hr hc hm24, rf_z144 hr hc hm24, true_and, forall_eq]
  refine br_f hS0 (br_f hS4 (br_t (nI_lt (b := 24) hab (by decide)) ?_))
  refine br_t hS3 (x_que hr hP hp hB (br_t (by trivial) (x_take hr hP hp hG hg4 hB hc hV hD hd ?_)))
  apply hg
  exact h
theorem y_sigF (hr : r < 3) (hS0 : ¬ Ys r = 0) (hS4 : ¬ Ys r = 4) (hN : Yn r = 24) (h : pos (-2) (Ln, Lk, Tn, Op, Tg, Od, Ys, Yp, Ye, Yq, Yr, Yw, Yv, Yn, Yh, Yz, Yd)) : wpY_signal pos (Ln, Lk, Tn, Op, Tg, Od, Ys, Yp, Ye, Yq, Yr, Yw, Yv, Yn, Yh, Yz, Yd) (nI r) w2 w := by
  unfold wpY_signal
  refine y_run hr (br_f (by decide) ?_)
  simp only [rf_rc hr, rf_r3 hr, hN, true_and]
  exact br_f hS0 (br_f hS4 (br_t (by trivial) h))
theorem y_sigN (hr : r < 3) (hS0 : ¬ Ys r = 0) (hS4 : ¬ Ys r = 4) (hN : Yn r = nI n) (hn : n < 24) (hw : w2 &&& 1 = nI c) (hS3 : ¬ Ys r = 3) (h : pos (Ys r) (Ln, Lk, Tn, Op, Tg, Od, Ys, Yp, Ye, Yq, Yr, Yw, Yv, upd Yn r (nI (n + 1)), upd Yh (r * 24 + n) (nI c), upd Yz (r * 24 + n) w, upd Yd (r * 24 + n) 0)) : wpY_signal pos (Ln, Lk, Tn, Op, Tg, Od, Ys, Yp, Ye, Yq, Yr, Yw, Yv, Yn, Yh, Yz, Yd) (nI r) w2 w := by
  unfold wpY_signal
  refine y_run hr (br_f (by decide) ?_)
  simp only [rf_rc hr, rf_r3 hr, hN, rf_m24, nI_add, nI_1, rf_yc hr hn, rf_y72 hr hn, y_b0, hw, true_and, forall_eq]
  refine br_f hS0 (br_f hS4 (br_f (fun z => absurd ((nI_eq (b := 24) (by omega) (by decide)).mp z) (by omega)) ?_))
  exact br_f hS3 h
theorem y_sigG {Ys1 Yp1 Ye1 Yq1 Yr1 Yw1 Yv1 Yd1 : Nat → Int32} (hr : r < 3) (hS0 : ¬ Ys r = 0) (hS4 : ¬ Ys r = 4) (hN : Yn r = nI n) (hn : n < 24) (hw : w2 &&& 1 = nI c) (hS3 : Ys r = 3) (hg : ∀ Q : SY → Prop, Q (Ln, Lk, Tn, Op, Tg, Od, Ys1, Yp1, Ye1, Yq1, Yr1, Yw1, Yv1, upd Yn r (nI (n + 1)), upd Yh (r * 24 + n) (nI c), upd Yz (r * 24 + n) w, Yd1) → wpY_goOn Q (Ln, Lk, Tn, Op, Tg, Od, Ys, Yp, Ye, Yq, Yr, Yw, Yv, upd Yn r (nI (n + 1)), upd Yh (r * 24 + n) (nI c), upd Yz (r * 24 + n) w, upd Yd (r * 24 + n) 0) (nI r)) (h : pos (Ys1 r) (Ln, Lk, Tn, Op, Tg, Od, Ys1, Yp1, Ye1, Yq1, Yr1, Yw1, Yv1, upd Yn r (nI (n + 1)), upd Yh (r * 24 + n) (nI c), upd Yz (r * 24 + n) w, Yd1)) : wpY_signal pos (Ln, Lk, Tn, Op, Tg, Od, Ys, Yp, Ye, Yq, Yr, Yw, Yv, Yn, Yh, Yz, Yd) (nI r) w2 w := by
  unfold wpY_signal
  refine y_run hr (br_f (by decide) ?_)
  simp only [rf_rc hr, rf_r3 hr, hN, rf_m24, nI_add, nI_1, rf_yc hr hn, rf_y72 hr hn, y_b0, hw, true_and, forall_eq]
  refine br_f hS0 (br_f hS4 (br_f (fun z => absurd ((nI_eq (b := 24) (by omega) (by decide)).mp z) (by omega)) ?_))
  refine br_t hS3 ?_
  apply hg
  exact h
end
