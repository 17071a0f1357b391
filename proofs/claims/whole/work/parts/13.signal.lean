theorem sg_d1 {r c m : Nat} (hc : c < 2) (hm : m < 24) : ((r * 2 + c) * 24 + m) / 48 = r := by omega
theorem sg_d2 {r c : Nat} (hc : c < 2) : (r * 2 + c) / 2 = r := by omega
theorem sg_d3 {r n : Nat} (hn : n < 24) : (r * 24 + n) / 24 = r := by omega
theorem sg_d4 {r g : Nat} (hg : g < 4) : (r * 4 + g) / 4 = r := by omega
theorem i_vc_signal {k : Nat} {u : SX} {v : SY} (I : i_Rel k u v) (hk : k + 4 ≤ 2048) (v1 : Int32) (v2 : Int32) (v3 : Int32) : wpX_signal (fun r u' => wpY_signal (fun r' v' => r' = r ∧ i_Rel (k + 4) u' v') v v1 v2 v3) u v1 v2 v3 := by
  have I2 := i_up I
  obtain ⟨len, Ln, Lk, Tn, Op, Tg, Od, XS, XP, XE, XV, XW, XR, XQ, XZ, XC, XD, Ys, Yp, Ye, Yq, Yr, Yw, Yv, Yn, Yh, Yz, Yd, rfl, rfl, hI⟩ := I
  rcases r_or v1 with hx | ⟨r, hr, rfl⟩
  · unfold wpX_signal wpY_signal
    exact x_nor hx (br_f (by decide) (y_nor hx (br_t (by trivial) ⟨rfl, I2⟩)))
  have hR := hI.2.2 r hr
  by_cases z : XS r = 0
  · have z' : Ys r = 0 := by rw [← hR.1]; exact z
    unfold wpX_signal wpY_signal
    refine x_run hr (br_t (by trivial) ⟨rf_r3 hr, ?_⟩)
    simp only [rf_rc hr]
    exact br_t z (y_run hr (br_f (by decide) ⟨rf_r3 hr, br_t z' ⟨by trivial, I2⟩⟩))
  have z' : ¬ Ys r = 0 := by rw [← hR.1]; exact z
  by_cases z4 : XS r = 4
  · have z4' : Ys r = 4 := by rw [← hR.1]; exact z4
    unfold wpX_signal wpY_signal
    refine x_run hr (br_t (by trivial) ⟨rf_r3 hr, ?_⟩)
    simp only [rf_rc hr]
    exact br_f z ⟨rf_r3 hr, br_t z4 (y_run hr (br_f (by decide) ⟨rf_r3 hr, br_f z' ⟨rf_r3 hr, br_t z4' ⟨by trivial, I2⟩⟩⟩))⟩
  have z4' : ¬ Ys r = 4 := by rw [← hR.1]; exact z4
  obtain ⟨s, e, v, n, t, h1, h2, h3, hC, h5, h6⟩ := rr_as hR z
  have s4 : s ≠ 4 := fun q => z4 (by rw [h3, q]; rfl)
  obtain ⟨g1, g2, g3, p, hp, hP, hO, h62, h63⟩ := h6 s4
  have hC8 := hC.2.2.2.2.2.2.2
  obtain ⟨d1, d2, d3⟩ := hC8.2.2.1 0 (by decide)
  obtain ⟨f1, f2, f3⟩ := hC8.2.2.1 1 (by decide)
  have hsum := sg_all hC8
  have hN := hC8.2.1
  have hn24 := hC8.1
  have hp16 : p < 16 := Nat.lt_of_lt_of_le hp hI.1.2.1
  have hP' : Yp r = nI p := by rw [← hC.1]; exact hP
  have hK : ¬ Lk = 0 := fun q => z (hI.2.1 q r hr)
  by_cases hn : n = 24
  · exact x_sigF hr z z4 d1 f1 (by rw [hsum]; exact hn) (y_sigF hr z' z4' (by rw [hN, hn]; rfl) ⟨rfl, I2⟩)
  have hn : n < 24 := by omega
  obtain ⟨c, hc, hw⟩ := rf_a1 v2
  obtain ⟨m1, m2, m3⟩ := hC8.2.2.1 c hc
  have hm24 : sg_n Yh (r * 24) (nI c) n < 24 := Nat.lt_of_le_of_lt (sg_le _ _ _ _) hn
  have hab : sg_n Yh (r * 24) (nI 0) n + sg_n Yh (r * 24) (nI 1) n < 24 := by rw [hsum]; exact hn
  have hS' := sg_add hC8 hc hn v3
  have y1 : ((r * 2 + c) * 24 + sg_n Yh (r * 24) (nI c) n) / 48 = r := sg_d1 hc hm24
  have y2 : (r * 2 + c) / 2 = r := sg_d2 hc
  have y3 : (r * 24 + n) / 24 = r := sg_d3 hn
  have hC' : rr_C r XP XE XV XQ (upd XZ ((r * 2 + c) * 24 + sg_n Yh (r * 24) (nI c) n) v3) (upd XC (r * 2 + c) (nI (sg_n Yh (r * 24) (nI c) n + 1))) XD Yp Ye Yq Yv (upd Yn r (nI (n + 1))) (upd Yh (r * 24 + n) (nI c)) (upd Yz (r * 24 + n) v3) (upd Yd (r * 24 + n) 0) e v (n + 1) t :=
    ⟨hC.1, hC.2.1, hC.2.2.1, hC.2.2.2.1, hC.2.2.2.2.1, hC.2.2.2.2.2.1, hC.2.2.2.2.2.2.1, hS'⟩
  by_cases s3 : s = 3
  · subst s3
    have z3 : XS r = 3 := h3
    have z3' : Ys r = 3 := by rw [← hR.1]; exact z3
    obtain ⟨d, hd, hB, ht⟩ := h63 rfl
    by_cases hcd : c = d
    · subst hcd
      obtain ⟨g, hg, hG⟩ := hI.1.2.2.2 p
      have y4 : (r * 4 + g) / 4 = r := sg_d4 hg
      obtain ⟨w, hw2, hFs⟩ := ys_first (Ln := Ln) (Lk := Lk) (Tn := Tn) (Op := Op) (Tg := Tg) (Od := Od) (Ys := Ys) (Yp := Yp) (Ye := Ye) (Yq := Yq) (Yr := Yr) (Yw := Yw) (Yv := Yv) hr hS' hc
      rcases hw2 with ⟨ht2, _⟩ | ⟨i0, hi0, rfl, hH, hni⟩
      · rw [sg_y pk_us, sg_cg n (fun k hk => pk_un (by omega))] at ht2
        omega
      · have hi24 : i0 < 24 := by omega
        have y5 : (r * 24 + i0) / 24 = r := sg_d3 hi24
        have hT := rr_tk (p := p) (g := g) hC' g3 hc hi0 hH hni hg
        have hF : ∀ q, q < 3 → q ≠ r → rr_R q len Op Od XS (upd XP r (nI (p + 1))) (upd XE r 0) (upd XV r (nI (v + 1))) XW XR (upd XQ (r * 4 + g) (upd XZ ((r * 2 + c) * 24 + sg_n Yh (r * 24) (nI c) n) v3 ((r * 2 + c) * 24 + t c))) (upd XZ ((r * 2 + c) * 24 + sg_n Yh (r * 24) (nI c) n) v3) (upd XC (r * 2 + c) (nI (sg_n Yh (r * 24) (nI c) n + 1))) (upd XD (r * 2 + c) (nI (t c + 1))) (upd Ys r 3) (upd Yp r (nI (p + 1))) (upd Ye r 0) (upd Yq (r * 4 + g) (upd Yz (r * 24 + n) v3 (r * 24 + i0))) Yr Yw (upd Yv r (nI (v + 1))) (upd Yn r (nI (n + 1))) (upd Yh (r * 24 + n) (nI c)) (upd Yz (r * 24 + n) v3) (upd (upd Yd (r * 24 + n) 0) (r * 24 + i0) 1) := by
          intro q hq hne
          refine rr_fr hne (hI.2.2 q hq) ?_ ?_ ?_ ?_ ?_ ?_ ?_ ?_ ?_ ?_ ?_ ?_ ?_ ?_ ?_ ?_ ?_ ?_ ?_ ?_ ?_ <;> first | exact ao_rf | exact ao_u1 | exact ao_u ao_rf y1 | exact ao_u ao_rf y2 | exact ao_u ao_rf y3 | exact ao_u ao_rf y4 | exact ao_u (ao_u ao_rf y3) y5
        obtain ⟨XS1, XP1, XE1, XV1, XW1, XR1, XQ1, XD1, Ys1, Yp1, Ye1, Yq1, Yr1, Yw1, Yv1, Yd1, b1, b2, b3, b4⟩ := go_k (Ln := Ln) (Lk := Lk) (Tn := Tn) (Op := Op) (Tg := Tg) (Od := Od) 1 (by decide) hr hI.1 hK hT (by decide) g1 hF
        refine x_sigT hr z z4 d1 f1 hab hw hc m1 hm24 z3 hP hp16 hB hG hg hC.2.2.2.1 m2 (by omega) b3 (y_sigG hr z' z4' hN hn hw z3' (fun Q hQ => ?_) ⟨b1.symm, i_mk b2⟩)
        simp only [wpY_goOn]
        exact ⟨2601, yg_w (i := 0) hr (by decide) hI.1.1 hI.1.2.1 hP' hp (by decide) (by decide) hO hC.2.2.1 g2 hC.2.2.2.2.1 g3 (fun q hq => y_w7t hr hP' hp16 hO hG hg hB hi24 hC.2.2.2.2.1 hFs hq) (b4 Q hQ)⟩
    · have hF : ∀ q, q < 3 → q ≠ r → rr_R q len Op Od XS XP XE XV XW XR XQ (upd XZ ((r * 2 + c) * 24 + sg_n Yh (r * 24) (nI c) n) v3) (upd XC (r * 2 + c) (nI (sg_n Yh (r * 24) (nI c) n + 1))) XD (upd Ys r 3) Yp Ye Yq Yr Yw Yv (upd Yn r (nI (n + 1))) (upd Yh (r * 24 + n) (nI c)) (upd Yz (r * 24 + n) v3) (upd Yd (r * 24 + n) 0) := by
        intro q hq hne
        refine rr_fr hne (hI.2.2 q hq) ?_ ?_ ?_ ?_ ?_ ?_ ?_ ?_ ?_ ?_ ?_ ?_ ?_ ?_ ?_ ?_ ?_ ?_ ?_ ?_ ?_ <;> first | exact ao_rf | exact ao_u1 | exact ao_u ao_rf y1 | exact ao_u ao_rf y2 | exact ao_u ao_rf y3 | exact ao_u ao_rf y4 | exact ao_u (ao_u ao_rf y3) y5
      have ht' : t d = sg_n (upd Yh (r * 24 + n) (nI c)) (r * 24) (nI d) (n + 1) := by rw [sg_ot hc hd hcd]; exact ht
      have hB2 : rr_B r len Op Od XS XP XE XV XW XR XQ (upd XZ ((r * 2 + c) * 24 + sg_n Yh (r * 24) (nI c) n) v3) (upd XC (r * 2 + c) (nI (sg_n Yh (r * 24) (nI c) n + 1))) XD (upd Ys r 3) Yp Ye Yq Yr Yw Yv (upd Yn r (nI (n + 1))) (upd Yh (r * 24 + n) (nI c)) (upd Yz (r * 24 + n) v3) (upd Yd (r * 24 + n) 0) :=
        ⟨by rw [pk_us]; exact z3, 3, e, v, n + 1, t, by decide, by decide, h3, hC', fun z => absurd z (by decide), fun _ => ⟨g1, g2, g3, p, hp, hP, hO, fun z => absurd z (by decide), fun _ => ⟨d, hd, hB, ht'⟩⟩⟩
      have hrl := rl_mk (Ln := Ln) (Lk := Lk) (Tg := Tg) hI.1 hK hB2 hF
      obtain ⟨w, hw2, hFs⟩ := ys_first (Ln := Ln) (Lk := Lk) (Tn := Tn) (Op := Op) (Tg := Tg) (Od := Od) (Ys := Ys) (Yp := Yp) (Ye := Ye) (Yq := Yq) (Yr := Yr) (Yw := Yw) (Yv := Yv) hr hS' hd
      rcases hw2 with ⟨_, rfl⟩ | ⟨i0, hi0, rfl, hH, hni⟩
      · refine x_sigO hr z z4 d1 f1 hab hw hc m1 hm24 z3 hP hp16 hB hd hcd (y_sigG hr z' z4' hN hn hw z3' (fun Q hQ => ?_) ⟨?_, i_mk hrl⟩)
        · simp only [wpY_goOn]
          exact ⟨2, yg_w (i := 0) hr (by decide) hI.1.1 hI.1.2.1 hP' hp (by decide) (by decide) hO hC.2.2.1 g2 hC.2.2.2.2.1 g3 (fun q hq => y_w7w hr hP' hp16 hO hB hFs hq) (yg_exit hQ)⟩
        · rw [pk_us, z3]
      · have := sg_lt hi0 hH
        omega
  · have z3 : ¬ XS r = 3 := fun q => s3 (rr_s (q := 3) h3 q h2 (by decide))
    have z3' : ¬ Ys r = 3 := by rw [← hR.1]; exact z3
    have hF : ∀ q, q < 3 → q ≠ r → rr_R q len Op Od XS XP XE XV XW XR XQ (upd XZ ((r * 2 + c) * 24 + sg_n Yh (r * 24) (nI c) n) v3) (upd XC (r * 2 + c) (nI (sg_n Yh (r * 24) (nI c) n + 1))) XD Ys Yp Ye Yq Yr Yw Yv (upd Yn r (nI (n + 1))) (upd Yh (r * 24 + n) (nI c)) (upd Yz (r * 24 + n) v3) (upd Yd (r * 24 + n) 0) := by
      intro q hq hne
      refine rr_fr hne (hI.2.2 q hq) ?_ ?_ ?_ ?_ ?_ ?_ ?_ ?_ ?_ ?_ ?_ ?_ ?_ ?_ ?_ ?_ ?_ ?_ ?_ ?_ ?_ <;> first | exact ao_rf | exact ao_u1 | exact ao_u ao_rf y1 | exact ao_u ao_rf y2 | exact ao_u ao_rf y3 | exact ao_u ao_rf y4 | exact ao_u (ao_u ao_rf y3) y5
    have hB2 : rr_B r len Op Od XS XP XE XV XW XR XQ (upd XZ ((r * 2 + c) * 24 + sg_n Yh (r * 24) (nI c) n) v3) (upd XC (r * 2 + c) (nI (sg_n Yh (r * 24) (nI c) n + 1))) XD Ys Yp Ye Yq Yr Yw Yv (upd Yn r (nI (n + 1))) (upd Yh (r * 24 + n) (nI c)) (upd Yz (r * 24 + n) v3) (upd Yd (r * 24 + n) 0) :=
      ⟨hR.1, s, e, v, n + 1, t, h1, h2, h3, hC', h5, fun _ => ⟨g1, g2, g3, p, hp, hP, hO, h62, fun z => absurd z s3⟩⟩
    have hrl := rl_mk (Ln := Ln) (Lk := Lk) (Tg := Tg) hI.1 hK hB2 hF
    exact x_sigN hr z z4 d1 f1 hab hw hc m1 hm24 z3 (y_sigN hr z' z4' hN hn hw z3' ⟨hR.1.symm, i_mk hrl⟩)
