section
variable {Ln Lk Tn : Int32} {Op Tg Od XZ XC Yn Yh Yz : Nat → Int32} {len : Nat}
theorem ps_ls : ∀ (d j : Nat) (XS XP XE XV XW XR XQ XD Ys Yp Ye Yq Yr Yw Yv Yd : Nat → Int32) (x : Int32), j + d = 3 → rl_R len Ln Lk Op Tg Od XS XP XE XV XW XR XQ XZ XC XD Ys Yp Ye Yq Yr Yw Yv Yn Yh Yz Yd →
    ∃ (w : Int32) (XS1 XP1 XE1 XV1 XW1 XR1 XQ1 XD1 Ys1 Yp1 Ye1 Yq1 Yr1 Yw1 Yv1 Yd1 : Nat → Int32), rl_R len Ln Lk Op Tg Od XS1 XP1 XE1 XV1 XW1 XR1 XQ1 XZ XC XD1 Ys1 Yp1 Ye1 Yq1 Yr1 Yw1 Yv1 Yn Yh Yz Yd1 ∧
      (∀ P : Int32 → SX → Prop, P w (Ln, Lk, Tn, Op, Tg, Od, XS1, XP1, XE1, XV1, XW1, XR1, XQ1, XZ, XC, XD1) → wX_pass_28 P (d + 1) x (nI j) Ln Lk Tn Op Tg Od XS XP XE XV XW XR XQ XZ XC XD) ∧ (∀ Q : Int32 → SY → Prop, Q w (Ln, Lk, Tn, Op, Tg, Od, Ys1, Yp1, Ye1, Yq1, Yr1, Yw1, Yv1, Yn, Yh, Yz, Yd1) → wY_pass_28 Q (d + 1) x (nI j) Ln Lk Tn Op Tg Od Ys Yp Ye Yq Yr Yw Yv Yn Yh Yz Yd) := by
  intro d
  induction d with
  | zero =>
    intro j XS XP XE XV XW XR XQ XD Ys Yp Ye Yq Yr Yw Yv Yd x hj hI
    have e : j = 3 := by omega
    subst e
    refine ⟨x, XS, XP, XE, XV, XW, XR, XQ, XD, Ys, Yp, Ye, Yq, Yr, Yw, Yv, Yd, hI, fun P hP => ?_, fun Q hQ => ?_⟩
    · rw [wX_pass_28]
      exact br_t (by decide) hP
    · rw [wY_pass_28]
      exact br_t (by decide) hQ
  | succ d ih =>
    intro r XS XP XE XV XW XR XQ XD Ys Yp Ye Yq Yr Yw Yv Yd x hj hI
    have hr : r < 3 := by omega
    have hR := hI.2.2 r hr
    have h3 : ¬ (3 : Int32) ≤ nI r := nI_ge (b := 3) hr (by decide)
    by_cases z : XS r = 2
    · have z' : Ys r = 2 := by rw [← hR.1]; exact z
      obtain ⟨s, e, v, n, t, h1, h2, hs, hC, h5, h6⟩ := rr_as hR (by rw [z]; decide)
      have es : s = 2 := rr_s (q := 2) hs z h2 (by decide)
      obtain ⟨g1, g2, g3, p, hp, hP, hO, h62, _⟩ := h6 (by omega)
      have hW := h62 es
      have hP' : Yp r = nI p := by rw [← hC.1]; exact hP
      have hK : ¬ Lk = 0 := fun q => by have := hI.2.1 q r hr; rw [z] at this; exact absurd this (by decide)
      by_cases hT : Tn < XW r
      · have hT' : Tn < Yw r := by rw [← hW]; exact hT
        obtain ⟨w, XS1, XP1, XE1, XV1, XW1, XR1, XQ1, XD1, Ys1, Yp1, Ye1, Yq1, Yr1, Yw1, Yv1, Yd1, a1, a2, a3⟩ := ih (r + 1) XS XP XE XV XW XR XQ XD Ys Yp Ye Yq Yr Yw Yv Yd x (by omega) hI
        refine ⟨w, XS1, XP1, XE1, XV1, XW1, XR1, XQ1, XD1, Ys1, Yp1, Ye1, Yq1, Yr1, Yw1, Yv1, Yd1, a1, fun P hP => ?_, fun Q hQ => ?_⟩
        · rw [wX_pass_28]
          simp only [rf_rc hr, rf_r3 hr, nI_1, true_and, forall_eq]
          exact br_f h3 (br_t z (br_t hT (a2 P hP)))
        · rw [wY_pass_28]
          simp only [rf_rc hr, rf_r3 hr, nI_1, true_and, forall_eq]
          exact br_f h3 (br_t z' (br_t hT' (a3 Q hQ)))
      · have hT' : ¬ Tn < Yw r := by rw [← hW]; exact hT
        have hF : ∀ q, q < 3 → q ≠ r → rr_R q len Op Od XS (upd XP r (nI (p + 1))) (upd XE r 0) (upd XV r (nI (v + 1))) XW XR XQ XZ XC XD Ys (upd Yp r (nI (p + 1))) (upd Ye r 0) Yq Yr Yw (upd Yv r (nI (v + 1))) Yn Yh Yz Yd := by
          intro q hq hne
          refine rr_fr hne (hI.2.2 q hq) ?_ ?_ ?_ ?_ ?_ ?_ ?_ ?_ ?_ ?_ ?_ ?_ ?_ ?_ ?_ ?_ ?_ ?_ ?_ ?_ ?_ <;> first | exact ao_rf | exact ao_u1
        obtain ⟨XS2, XP2, XE2, XV2, XW2, XR2, XQ2, XD2, Ys2, Yp2, Ye2, Yq2, Yr2, Yw2, Yv2, Yd2, b1, b2, b3, b4⟩ := go_0 (Ln := Ln) (Lk := Lk) (Tn := Tn) (Op := Op) (Tg := Tg) (Od := Od) hr hI.1 hK (rr_pz (p := p) hC g3) (by decide) g1 hF
        obtain ⟨w, XS1, XP1, XE1, XV1, XW1, XR1, XQ1, XD1, Ys1, Yp1, Ye1, Yq1, Yr1, Yw1, Yv1, Yd1, a1, a2, a3⟩ := ih (r + 1) _ _ _ _ _ _ _ _ _ _ _ _ _ _ _ _ (x + 1) (by omega) b2
        refine ⟨w, XS1, XP1, XE1, XV1, XW1, XR1, XQ1, XD1, Ys1, Yp1, Ye1, Yq1, Yr1, Yw1, Yv1, Yd1, a1, fun P hQ => ?_, fun Q hQ => ?_⟩
        · rw [wX_pass_28]
          simp only [rf_rc hr, rf_r3 hr, nI_1, true_and, forall_eq]
          refine br_f h3 (br_t z (br_f hT (x_fin hr hP hC.2.2.2.1 ?_)))
          apply b3
          exact a2 P hQ
        · rw [wY_pass_28]
          simp only [rf_rc hr, rf_r3 hr, nI_1, true_and, forall_eq]
          refine br_f h3 (br_t z' (br_f hT' (y_past0 hr hP' hC.2.2.2.2.1 ?_)))
          apply b4
          exact a3 Q hQ
    · have z' : ¬ Ys r = 2 := by rw [← hR.1]; exact z
      obtain ⟨w, XS1, XP1, XE1, XV1, XW1, XR1, XQ1, XD1, Ys1, Yp1, Ye1, Yq1, Yr1, Yw1, Yv1, Yd1, a1, a2, a3⟩ := ih (r + 1) XS XP XE XV XW XR XQ XD Ys Yp Ye Yq Yr Yw Yv Yd x (by omega) hI
      refine ⟨w, XS1, XP1, XE1, XV1, XW1, XR1, XQ1, XD1, Ys1, Yp1, Ye1, Yq1, Yr1, Yw1, Yv1, Yd1, a1, fun P hP => ?_, fun Q hQ => ?_⟩
      · rw [wX_pass_28]
        simp only [rf_rc hr, rf_r3 hr, nI_1, true_and, forall_eq]
        exact br_f h3 (br_f z (a2 P hP))
      · rw [wY_pass_28]
        simp only [rf_rc hr, rf_r3 hr, nI_1, true_and, forall_eq]
        exact br_f h3 (br_f z' (a3 Q hQ))
end
