section
variable {Op Od XS XP XE XV XW XR XQ XZ XC XD Ys Yp Ye Yq Yr Yw Yv Yn Yh Yz Yd : Nat → Int32} {r p g k o e v n c i0 len : Nat} {t : Nat → Nat}
theorem lf_Qs {Q Q' : Nat → Int32} {b : Int32} (h : ∀ j, j < 4 → Q (r * 4 + j) = Q' (r * 4 + j)) (hg : g < 4) (hk : k < 4) : ∀ j, j < 4 → lf_Q o Q (r * 4 + g) (r * 4 + k) b (r * 4 + j) = lf_Q o Q' (r * 4 + g) (r * 4 + k) b (r * 4 + j) := by
  intro j hj
  have e1 := h j hj
  have e2 := h g hg
  have e3 := h k hk
  unfold lf_Q upd
  by_cases z0 : o = 0
  · simp only [z0, if_true, e1]
  · by_cases z1 : o = 1
    · rw [if_neg z0, if_pos z1, if_neg z0, if_pos z1]
      simp only [e1, e2, e3]
    · by_cases z2 : o = 2
      · rw [if_neg z0, if_neg z1, if_pos z2, if_neg z0, if_neg z1, if_pos z2]
        simp only [e1, e2, e3]
      · simp only [z0, z1, z2, if_false, e1]
theorem lf_Qa {Q : Nat → Int32} {b : Int32} (hg : g < 4) : ao_ 4 r Q (lf_Q o Q (r * 4 + g) (r * 4 + k) b) := by
  unfold lf_Q
  split
  · exact ao_u ao_rf (by omega)
  · split
    · exact ao_u ao_rf (by omega)
    · split
      · exact ao_u ao_rf (by omega)
      · exact ao_rf
/-- a plain step keeps both alike -/
theorem rr_pl (h : rr_C r XP XE XV XQ XZ XC XD Yp Ye Yq Yv Yn Yh Yz Yd e v n t) (hg : g < 4) (hk : k < 4) :
    rr_C r (upd XP r (lf_P o p (XQ (r * 4 + g)) (Od p))) (upd XE r (nI (e + 1))) XV (lf_Q o XQ (r * 4 + g) (r * 4 + k) (Od p)) XZ XC XD (upd Yp r (lf_P o p (Yq (r * 4 + g)) (Od p))) (upd Ye r (nI (e + 1))) (lf_Q o Yq (r * 4 + g) (r * 4 + k) (Od p)) Yv Yn Yh Yz Yd (e + 1) v n t := by
  obtain ⟨c1, c2, c3, c4, c5, c6, c7, c8⟩ := h
  exact ⟨by rw [pk_us, pk_us, c7 g hg], pk_us, pk_us, c4, c5, c6, lf_Qs c7 hg hk, c8⟩
/-- a signal is taken on both sides -/
theorem rr_tk (h : rr_C r XP XE XV XQ XZ XC XD Yp Ye Yq Yv Yn Yh Yz Yd e v n t) (hv : v < 40) (hc : c < 2) (hi : i0 < n) (hH : Yh (r * 24 + i0) = nI c) (hn : sg_n Yh (r * 24) (nI c) i0 = t c) (hg : g < 4) :
    rr_C r (upd XP r (nI (p + 1))) (upd XE r 0) (upd XV r (nI (v + 1))) (upd XQ (r * 4 + g) (XZ ((r * 2 + c) * 24 + t c))) XZ XC (upd XD (r * 2 + c) (nI (t c + 1)))
      (upd Yp r (nI (p + 1))) (upd Ye r 0) (upd Yq (r * 4 + g) (Yz (r * 24 + i0))) (upd Yv r (nI (v + 1))) Yn Yh Yz (upd Yd (r * 24 + i0) 1) 0 (v + 1) n (fun d => if d = c then t c + 1 else t d) := by
  obtain ⟨c1, c2, c3, c4, c5, c6, c7, c8⟩ := h
  refine ⟨by rw [pk_us, pk_us], pk_us, pk_us, pk_us, pk_us, by omega, ?_, sg_take c8 hc hi hH hn⟩
  obtain ⟨d, hd, b1, b2, b3⟩ := c8.2.2.2 i0 hi
  have ed : d = c := sg_cc hd hc (b1.symm.trans hH)
  subst ed
  rw [hn] at b2
  intro j hj
  by_cases z : j = g
  · subst z
    rw [pk_us, pk_us, b2]
  · rw [pk_un (by omega), pk_un (by omega)]
    exact c7 j hj
/-- a wait is over on both sides, without a signal -/
theorem rr_pw {w : Int32} (h : rr_C r XP XE XV XQ XZ XC XD Yp Ye Yq Yv Yn Yh Yz Yd e v n t) (hv : v < 40) (hg : g < 4) :
    rr_C r (upd XP r (nI (p + 1))) (upd XE r 0) (upd XV r (nI (v + 1))) (upd XQ (r * 4 + g) w) XZ XC XD
      (upd Yp r (nI (p + 1))) (upd Ye r 0) (upd Yq (r * 4 + g) w) (upd Yv r (nI (v + 1))) Yn Yh Yz Yd 0 (v + 1) n t := by
  obtain ⟨c1, c2, c3, c4, c5, c6, c7, c8⟩ := h
  refine ⟨by rw [pk_us, pk_us], pk_us, pk_us, pk_us, pk_us, by omega, ?_, c8⟩
  intro j hj
  by_cases z : j = g
  · subst z
    rw [pk_us, pk_us]
  · rw [pk_un (by omega), pk_un (by omega)]
    exact c7 j hj
theorem rr_pz (h : rr_C r XP XE XV XQ XZ XC XD Yp Ye Yq Yv Yn Yh Yz Yd e v n t) (hv : v < 40) :
    rr_C r (upd XP r (nI (p + 1))) (upd XE r 0) (upd XV r (nI (v + 1))) XQ XZ XC XD
      (upd Yp r (nI (p + 1))) (upd Ye r 0) Yq (upd Yv r (nI (v + 1))) Yn Yh Yz Yd 0 (v + 1) n t := by
  obtain ⟨c1, c2, c3, c4, c5, c6, c7, c8⟩ := h
  exact ⟨by rw [pk_us, pk_us], pk_us, pk_us, pk_us, pk_us, by omega, c7, c8⟩
/-- active -/
def rr_B (r len : Nat) (Op Od XS XP XE XV XW XR XQ XZ XC XD Ys Yp Ye Yq Yr Yw Yv Yn Yh Yz Yd : Nat → Int32) : Prop :=
  XS r = Ys r ∧ ∃ s e v n t, rr_A r len Op Od XS XP XE XV XW XR XQ XZ XC XD Ys Yp Ye Yq Yr Yw Yv Yn Yh Yz Yd s e v n t
theorem rr_e4 {w w' : Int32} (hw : w = w') (h : rr_C r XP XE XV XQ XZ XC XD Yp Ye Yq Yv Yn Yh Yz Yd e v n t) : rr_B r len Op Od (upd XS r 4) XP XE XV XW (upd XR r w) XQ XZ XC XD (upd Ys r 4) Yp Ye Yq (upd Yr r w') Yw Yv Yn Yh Yz Yd :=
  ⟨by rw [pk_us, pk_us], 4, e, v, n, t, by decide, by decide, pk_us, h, fun _ => by rw [pk_us, pk_us, hw], fun z => absurd rfl z⟩
theorem rr_e1 (h : rr_C r XP XE XV XQ XZ XC XD Yp Ye Yq Yv Yn Yh Yz Yd e v n t) (hR : XR r = 0) (he : e < 60) (hv : v < 40) (hp : p < len) (hP : XP r = nI p) (hO : Op p = 5) : rr_B r len Op Od (upd XS r 1) XP XE XV XW XR XQ XZ XC XD (upd Ys r 1) Yp Ye Yq Yr Yw Yv Yn Yh Yz Yd :=
  ⟨by rw [pk_us, pk_us], 1, e, v, n, t, by decide, by decide, pk_us, h, fun z => absurd z (by decide), fun _ => ⟨hR, he, hv, p, hp, hP, hO, fun z => absurd z (by decide), fun z => absurd z (by decide)⟩⟩
theorem rr_e2 {w : Int32} (h : rr_C r XP XE XV XQ XZ XC XD Yp Ye Yq Yv Yn Yh Yz Yd e v n t) (hR : XR r = 0) (he : e < 60) (hv : v < 40) (hp : p < len) (hP : XP r = nI p) (hO : Op p = 6) : rr_B r len Op Od (upd XS r 2) XP XE XV (upd XW r w) XR XQ XZ XC XD (upd Ys r 2) Yp Ye Yq Yr (upd Yw r w) Yv Yn Yh Yz Yd :=
  ⟨by rw [pk_us, pk_us], 2, e, v, n, t, by decide, by decide, pk_us, h, fun z => absurd z (by decide), fun _ => ⟨hR, he, hv, p, hp, hP, hO, fun _ => by rw [pk_us, pk_us], fun z => absurd z (by decide)⟩⟩
theorem rr_e3 (h : rr_C r XP XE XV XQ XZ XC XD Yp Ye Yq Yv Yn Yh Yz Yd e v n t) (hR : XR r = 0) (he : e < 60) (hv : v < 40) (hp : p < len) (hP : XP r = nI p) (hO : Op p = 7) (hc : c < 2) (hB : Od p &&& 1 = nI c) (ht : t c = sg_n Yh (r * 24) (nI c) n) : rr_B r len Op Od (upd XS r 3) XP XE XV XW XR XQ XZ XC XD (upd Ys r 3) Yp Ye Yq Yr Yw Yv Yn Yh Yz Yd :=
  ⟨by rw [pk_us, pk_us], 3, e, v, n, t, by decide, by decide, pk_us, h, fun z => absurd z (by decide), fun _ => ⟨hR, he, hv, p, hp, hP, hO, fun z => absurd z (by decide), fun _ => ⟨c, hc, hB, ht⟩⟩⟩
/-- what a stretch of run r may change -/
def fr_ (r : Nat) (XS XP XE XV XW XR XQ XD Ys Yp Ye Yq Yr Yw Yv Yd XS1 XP1 XE1 XV1 XW1 XR1 XQ1 XD1 Ys1 Yp1 Ye1 Yq1 Yr1 Yw1 Yv1 Yd1 : Nat → Int32) : Prop :=
  ao_ 1 r XS XS1 ∧ ao_ 1 r XP XP1 ∧ ao_ 1 r XE XE1 ∧ ao_ 1 r XV XV1 ∧ ao_ 1 r XW XW1 ∧ ao_ 1 r XR XR1 ∧ ao_ 4 r XQ XQ1 ∧ ao_ 2 r XD XD1 ∧
  ao_ 1 r Ys Ys1 ∧ ao_ 1 r Yp Yp1 ∧ ao_ 1 r Ye Ye1 ∧ ao_ 4 r Yq Yq1 ∧ ao_ 1 r Yr Yr1 ∧ ao_ 1 r Yw Yw1 ∧ ao_ 1 r Yv Yv1 ∧ ao_ 24 r Yd Yd1
theorem fr_tr {XS1 XP1 XE1 XV1 XW1 XR1 XQ1 XD1 Ys1 Yp1 Ye1 Yq1 Yr1 Yw1 Yv1 Yd1 XS2 XP2 XE2 XV2 XW2 XR2 XQ2 XD2 Ys2 Yp2 Ye2 Yq2 Yr2 Yw2 Yv2 Yd2 : Nat → Int32}
    (h : fr_ r XS XP XE XV XW XR XQ XD Ys Yp Ye Yq Yr Yw Yv Yd XS1 XP1 XE1 XV1 XW1 XR1 XQ1 XD1 Ys1 Yp1 Ye1 Yq1 Yr1 Yw1 Yv1 Yd1)
    (k : fr_ r XS1 XP1 XE1 XV1 XW1 XR1 XQ1 XD1 Ys1 Yp1 Ye1 Yq1 Yr1 Yw1 Yv1 Yd1 XS2 XP2 XE2 XV2 XW2 XR2 XQ2 XD2 Ys2 Yp2 Ye2 Yq2 Yr2 Yw2 Yv2 Yd2) :
    fr_ r XS XP XE XV XW XR XQ XD Ys Yp Ye Yq Yr Yw Yv Yd XS2 XP2 XE2 XV2 XW2 XR2 XQ2 XD2 Ys2 Yp2 Ye2 Yq2 Yr2 Yw2 Yv2 Yd2 := by
  obtain ⟨a1, a2, a3, a4, a5, a6, a7, a8, a9, a10, a11, a12, a13, a14, a15, a16⟩ := h
  obtain ⟨b1, b2, b3, b4, b5, b6, b7, b8, b9, b10, b11, b12, b13, b14, b15, b16⟩ := k
  exact ⟨ao_tr a1 b1, ao_tr a2 b2, ao_tr a3 b3, ao_tr a4 b4, ao_tr a5 b5, ao_tr a6 b6, ao_tr a7 b7, ao_tr a8 b8, ao_tr a9 b9, ao_tr a10 b10, ao_tr a11 b11, ao_tr a12 b12, ao_tr a13 b13, ao_tr a14 b14, ao_tr a15 b15, ao_tr a16 b16⟩
end
