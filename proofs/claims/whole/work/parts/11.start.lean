/-- Y's registers as a start leaves them -/
def yq_ (Yq : Nat → Int32) (r : Nat) (w : Int32) : Nat → Int32 := upd (upd (upd (upd (upd Yq (r * 4) 0) (r * 4 + 1) 0) (r * 4 + 2) 0) (r * 4 + 3) 0) (r * 4) w
theorem yq_v {Yq : Nat → Int32} {r j : Nat} {w : Int32} (hj : j < 4) : yq_ Yq r w (r * 4 + j) = if j = 0 then w else 0 := by
  unfold yq_
  have h : j = 0 ∨ j = 1 ∨ j = 2 ∨ j = 3 := by omega
  rcases h with rfl | rfl | rfl | rfl
  · rw [if_pos rfl]
    exact pk_us
  · rw [pk_un (by omega), pk_un (by omega), pk_un (by omega), pk_us, if_neg (by decide)]
  · rw [pk_un (by omega), pk_un (by omega), pk_us, if_neg (by decide)]
  · rw [pk_un (by omega), pk_us, if_neg (by decide)]
theorem yq_a {Yq : Nat → Int32} {r : Nat} {w : Int32} : ao_ 4 r Yq (yq_ Yq r w) :=
  ao_u (ao_u (ao_u (ao_u (ao_u ao_rf (by omega)) (by omega)) (by omega)) (by omega)) (by omega)
section
variable {Ln Lk Tn : Int32} {Op Tg Od XS XP XE XV XW XR XQ XZ XC XD Ys Yp Ye Yq Yr Yw Yv Yn Yh Yz Yd : Nat → Int32} {post : Int32 → SX → Prop} {pos : Int32 → SY → Prop} {r len e v n p g : Nat} {t : Nat → Nat}
theorem x_start {XS1 XP1 XE1 XV1 XW1 XR1 XQ1 XD1 : Nat → Int32} {w : Int32} (hr : r < 3) (hS : XS r = 0) (hg : ∀ P : SX → Prop, P (Ln, 1, Tn, Op, Tg, Od, XS1, XP1, XE1, XV1, XW1, XR1, XQ1, XZ, XC, XD1) → wpX_goOn P (Ln, 1, Tn, Op, Tg, Od, XS, XP, XE, XV, XW, XR, upd XQ (r * 4) w, XZ, XC, XD) (nI r)) (h : post (XS1 r) (Ln, 1, Tn, Op, Tg, Od, XS1, XP1, XE1, XV1, XW1, XR1, XQ1, XZ, XC, XD1)) : wpX_start post (Ln, Lk, Tn, Op, Tg, Od, XS, XP, XE, XV, XW, XR, XQ, XZ, XC, XD) (nI r) w := by
  unfold wpX_start
  refine x_run hr (br_t (by trivial) ?_)
  simp only [rf_rc hr, rf_r3 hr, rf_m4, rf_4c hr, rf_412 hr, true_and, forall_eq]
  refine br_t hS ?_
  apply hg
  dsimp only
  exact h
theorem y_start {Ys1 Yp1 Ye1 Yq1 Yr1 Yw1 Yv1 Yd1 : Nat → Int32} {w : Int32} (hr : r < 3) (hS : Ys r = 0) (hg : ∀ Q : SY → Prop, Q (Ln, 1, Tn, Op, Tg, Od, Ys1, Yp1, Ye1, Yq1, Yr1, Yw1, Yv1, upd Yn r 0, Yh, Yz, Yd1) → wpY_goOn Q (Ln, 1, Tn, Op, Tg, Od, Ys, upd Yp r 0, upd Ye r 0, yq_ Yq r w, upd Yr r 0, Yw, upd Yv r 0, upd Yn r 0, Yh, Yz, Yd) (nI r)) (h : pos (Ys1 r) (Ln, 1, Tn, Op, Tg, Od, Ys1, Yp1, Ye1, Yq1, Yr1, Yw1, Yv1, upd Yn r 0, Yh, Yz, Yd1)) : wpY_start pos (Ln, Lk, Tn, Op, Tg, Od, Ys, Yp, Ye, Yq, Yr, Yw, Yv, Yn, Yh, Yz, Yd) (nI r) w := by
  unfold wpY_start
  refine y_run hr (br_f (by decide) ?_)
  simp only [rf_rc hr, rf_r3 hr, true_and]
  refine br_t hS ⟨5, ?_⟩
  have t0 : nI (r * 4) + 0 = nI (r * 4) := nI_add (r * 4) 0
  have t1 : nI (r * 4) + 1 = nI (r * 4 + 1) := nI_add (r * 4) 1
  have t2 : nI (r * 4) + 2 = nI (r * 4 + 2) := nI_add (r * 4) 2
  have t3 : nI (r * 4) + 3 = nI (r * 4 + 3) := nI_add (r * 4) 3
  rw [wY_start_30]
  simp only [rf_m4, t0, rf_4c hr, rf_412 hr, true_and, forall_eq]
  refine br_f (by decide) ?_
  rw [wY_start_30]
  simp only [rf_m4, show (0 : Int32) + 1 = 1 from rfl, t1, rf_tc hr (show 1 < 4 by decide), rf_t12 hr (show 1 < 4 by decide), true_and, forall_eq]
  refine br_f (by decide) ?_
  rw [wY_start_30]
  simp only [rf_m4, show (1 : Int32) + 1 = 2 from rfl, t2, rf_tc hr (show 2 < 4 by decide), rf_t12 hr (show 2 < 4 by decide), true_and, forall_eq]
  refine br_f (by decide) ?_
  rw [wY_start_30]
  simp only [rf_m4, show (2 : Int32) + 1 = 3 from rfl, t3, rf_tc hr (show 3 < 4 by decide), rf_t12 hr (show 3 < 4 by decide), true_and, forall_eq]
  refine br_f (by decide) ?_
  rw [wY_start_30]
  simp only [rf_m4, show (3 : Int32) + 1 = 4 from rfl, rf_rc hr, rf_r3 hr, rf_4c hr, rf_412 hr, true_and, forall_eq]
  refine br_t (by decide) ?_
  apply hg
  exact h
theorem x_answer {XS1 XP1 XE1 XV1 XW1 XR1 XQ1 XD1 : Nat → Int32} {w : Int32} (hr : r < 3) (hS : XS r = 1) (hP : XP r = nI p) (hp : p < 16) (hG : Tg p = nI g) (hg4 : g < 4) (hV : XV r = nI v)
    (hg : ∀ P : SX → Prop, P (Ln, Lk, Tn, Op, Tg, Od, XS1, XP1, XE1, XV1, XW1, XR1, XQ1, XZ, XC, XD1) → wpX_goOn P (Ln, Lk, Tn, Op, Tg, Od, XS, upd XP r (nI (p + 1)), upd XE r 0, upd XV r (nI (v + 1)), XW, XR, upd XQ (r * 4 + g) w, XZ, XC, XD) (nI r)) (h : post (XS1 r) (Ln, Lk, Tn, Op, Tg, Od, XS1, XP1, XE1, XV1, XW1, XR1, XQ1, XZ, XC, XD1)) : wpX_answer post (Ln, Lk, Tn, Op, Tg, Od, XS, XP, XE, XV, XW, XR, XQ, XZ, XC, XD) (nI r) w := by
  unfold wpX_answer
  refine x_run hr (br_t (by trivial) ?_)
  simp only [rf_rc hr, rf_r3 hr, true_and]
  refine br_t hS (x_tgt hr hP hp hG ?_)
  simp only [rf_tc hr hg4, rf_t12 hr hg4, true_and, forall_eq]
  refine x_fin hr hP hV ?_
  apply hg
  exact h
theorem y_answer {Ys1 Yp1 Ye1 Yq1 Yr1 Yw1 Yv1 Yd1 : Nat → Int32} {w : Int32} (hr : r < 3) (hS : Ys r = 1) (hP : Yp r = nI p) (hp : p < 16) (hG : Tg p = nI g) (hg4 : g < 4) (hV : Yv r = nI v)
    (hg : ∀ Q : SY → Prop, Q (Ln, Lk, Tn, Op, Tg, Od, Ys1, Yp1, Ye1, Yq1, Yr1, Yw1, Yv1, Yn, Yh, Yz, Yd1) → wpY_goOn Q (Ln, Lk, Tn, Op, Tg, Od, Ys, upd Yp r (nI (p + 1)), upd Ye r 0, upd Yq (r * 4 + g) w, Yr, Yw, upd Yv r (nI (v + 1)), Yn, Yh, Yz, Yd) (nI r)) (h : pos (Ys1 r) (Ln, Lk, Tn, Op, Tg, Od, Ys1, Yp1, Ye1, Yq1, Yr1, Yw1, Yv1, Yn, Yh, Yz, Yd1)) : wpY_answer pos (Ln, Lk, Tn, Op, Tg, Od, Ys, Yp, Ye, Yq, Yr, Yw, Yv, Yn, Yh, Yz, Yd) (nI r) w := by
  unfold wpY_answer
  refine y_run hr (br_f (by decide) ?_)
  simp only [rf_rc hr, rf_r3 hr, true_and]
  refine br_t hS (y_past1 hr hP hp hG hg4 hV ?_)
  apply hg
  exact h
end
theorem i_vc_start {k : Nat} {u : SX} {v : SY} (I : i_Rel k u v) (hk : k + 4 ≤ 2048) (v1 : Int32) (v2 : Int32) : wpX_start (fun r u' => wpY_start (fun r' v' => r' = r ∧ i_Rel (k + 4) u' v') v v1 v2) u v1 v2 := by
  have I2 := i_up I
  obtain ⟨len, Ln, Lk, Tn, Op, Tg, Od, XS, XP, XE, XV, XW, XR, XQ, XZ, XC, XD, Ys, Yp, Ye, Yq, Yr, Yw, Yv, Yn, Yh, Yz, Yd, rfl, rfl, hI⟩ := I
  rcases r_or v1 with hx | ⟨r, hr, rfl⟩
  · unfold wpX_start wpY_start
    exact x_nor hx (br_f (by decide) (y_nor hx (br_t (by trivial) ⟨rfl, I2⟩)))
  · have hR := hI.2.2 r hr
    by_cases z : XS r = 0
    · have z' : Ys r = 0 := by rw [← hR.1]; exact z
      obtain ⟨a1, a2, a3, a4, a5, a6, ⟨a7, a8, a9, a10⟩, _⟩ := rr_z0 hR z
      have hC : rr_C r XP XE XV (upd XQ (r * 4) v2) XZ XC XD (upd Yp r 0) (upd Ye r 0) (yq_ Yq r v2) (upd Yv r 0) (upd Yn r 0) Yh Yz Yd 0 0 0 (fun _ => 0) := by
        refine ⟨by rw [pk_us]; exact a2, a3, pk_us, a4, pk_us, by decide, fun j hj => ?_, sg_0 a7 a8 a9 a10⟩
        rw [yq_v hj]
        by_cases zj : j = 0
        · subst zj
          rw [if_pos rfl]
          exact pk_us
        · rw [if_neg zj, pk_un (by omega)]
          exact a6 j hj
      have hF : ∀ q, q < 3 → q ≠ r → rr_R q len Op Od XS XP XE XV XW XR (upd XQ (r * 4) v2) XZ XC XD Ys (upd Yp r 0) (upd Ye r 0) (yq_ Yq r v2) (upd Yr r 0) Yw (upd Yv r 0) (upd Yn r 0) Yh Yz Yd := by
        intro q hq hne
        refine rr_fr hne (hI.2.2 q hq) ?_ ?_ ?_ ?_ ?_ ?_ ?_ ?_ ?_ ?_ ?_ ?_ ?_ ?_ ?_ ?_ ?_ ?_ ?_ ?_ ?_ <;> first | exact ao_rf | exact ao_u1 | exact yq_a | exact ao_u ao_rf (by omega)
      obtain ⟨XS1, XP1, XE1, XV1, XW1, XR1, XQ1, XD1, Ys1, Yp1, Ye1, Yq1, Yr1, Yw1, Yv1, Yd1, b1, b2, b3, b4⟩ := go_0 (Ln := Ln) (Lk := 1) (Tn := Tn) (Op := Op) (Tg := Tg) (Od := Od) hr hI.1 (by decide) hC (by decide) a5 hF
      exact x_start hr z b3 (y_start hr z' b4 ⟨b1.symm, i_mk b2⟩)
    · have z' : ¬ Ys r = 0 := by rw [← hR.1]; exact z
      unfold wpX_start wpY_start
      refine x_run hr (br_t (by trivial) ⟨rf_r3 hr, ?_⟩)
      simp only [rf_rc hr]
      exact br_f z (y_run hr (br_f (by decide) ⟨rf_r3 hr, br_f z' ⟨by trivial, I2⟩⟩))
theorem i_vc_answer {k : Nat} {u : SX} {v : SY} (I : i_Rel k u v) (hk : k + 4 ≤ 2048) (v1 : Int32) (v2 : Int32) : wpX_answer (fun r u' => wpY_answer (fun r' v' => r' = r ∧ i_Rel (k + 4) u' v') v v1 v2) u v1 v2 := by
  have I2 := i_up I
  obtain ⟨len, Ln, Lk, Tn, Op, Tg, Od, XS, XP, XE, XV, XW, XR, XQ, XZ, XC, XD, Ys, Yp, Ye, Yq, Yr, Yw, Yv, Yn, Yh, Yz, Yd, rfl, rfl, hI⟩ := I
  rcases r_or v1 with hx | ⟨r, hr, rfl⟩
  · unfold wpX_answer wpY_answer
    exact x_nor hx (br_f (by decide) (y_nor hx (br_t (by trivial) ⟨rfl, I2⟩)))
  · have hR := hI.2.2 r hr
    by_cases z : XS r = 1
    · have z' : Ys r = 1 := by rw [← hR.1]; exact z
      obtain ⟨s, e, v, n, t, h1, h2, h3, hC, h5, h6⟩ := rr_as hR (by rw [z]; decide)
      have es : s = 1 := rr_s (q := 1) h3 z h2 (by decide)
      obtain ⟨g1, g2, g3, p, hp, hP, _⟩ := h6 (by omega)
      have hp16 : p < 16 := by have := hI.1.2.1; omega
      have hP' : Yp r = nI p := by rw [← hC.1]; exact hP
      obtain ⟨g, hg, hG⟩ := hI.1.2.2.2 p
      have hK : ¬ Lk = 0 := fun q => by have := hI.2.1 q r hr; rw [z] at this; exact absurd this (by decide)
      have hF : ∀ q, q < 3 → q ≠ r → rr_R q len Op Od XS (upd XP r (nI (p + 1))) (upd XE r 0) (upd XV r (nI (v + 1))) XW XR (upd XQ (r * 4 + g) v2) XZ XC XD Ys (upd Yp r (nI (p + 1))) (upd Ye r 0) (upd Yq (r * 4 + g) v2) Yr Yw (upd Yv r (nI (v + 1))) Yn Yh Yz Yd := by
        intro q hq hne
        refine rr_fr hne (hI.2.2 q hq) ?_ ?_ ?_ ?_ ?_ ?_ ?_ ?_ ?_ ?_ ?_ ?_ ?_ ?_ ?_ ?_ ?_ ?_ ?_ ?_ ?_ <;> first | exact ao_rf | exact ao_u1 | exact ao_u ao_rf (by omega)
      obtain ⟨XS1, XP1, XE1, XV1, XW1, XR1, XQ1, XD1, Ys1, Yp1, Ye1, Yq1, Yr1, Yw1, Yv1, Yd1, b1, b2, b3, b4⟩ := go_0 (Ln := Ln) (Lk := Lk) (Tn := Tn) (Op := Op) (Tg := Tg) (Od := Od) hr hI.1 hK (rr_pw (p := p) (w := v2) hC g3 hg) (by decide) g1 hF
      exact x_answer hr z hP hp16 hG hg hC.2.2.2.1 b3 (y_answer hr z' hP' hp16 hG hg hC.2.2.2.2.1 b4 ⟨b1.symm, i_mk b2⟩)
    · have z' : ¬ Ys r = 1 := by rw [← hR.1]; exact z
      unfold wpX_answer wpY_answer
      refine x_run hr (br_t (by trivial) ⟨rf_r3 hr, ?_⟩)
      simp only [rf_rc hr]
      exact br_f z (y_run hr (br_f (by decide) ⟨rf_r3 hr, br_f z' ⟨by trivial, I2⟩⟩))
