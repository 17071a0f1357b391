/-- the two states: the same script, lock and time; each run alike -/
def i_Rel (_ : Nat) (u : SX) (v : SY) : Prop :=
  ∃ (len : Nat) (Ln Lk Tn : Int32) (Op Tg Od XS XP XE XV XW XR XQ XZ XC XD Ys Yp Ye Yq Yr Yw Yv Yn Yh Yz Yd : Nat → Int32), u = (Ln, Lk, Tn, Op, Tg, Od, XS, XP, XE, XV, XW, XR, XQ, XZ, XC, XD) ∧ v = (Ln, Lk, Tn, Op, Tg, Od, Ys, Yp, Ye, Yq, Yr, Yw, Yv, Yn, Yh, Yz, Yd) ∧ rl_R len Ln Lk Op Tg Od XS XP XE XV XW XR XQ XZ XC XD Ys Yp Ye Yq Yr Yw Yv Yn Yh Yz Yd
theorem i_up {k : Nat} {u : SX} {v : SY} (h : i_Rel k u v) : i_Rel (k + 4) u v := h
section
variable {Ln Lk Tn : Int32} {Op Tg Od XS XP XE XV XW XR XQ XZ XC XD Ys Yp Ye Yq Yr Yw Yv Yn Yh Yz Yd : Nat → Int32} {r len e v n : Nat} {t : Nat → Nat}
theorem i_mk {k : Nat} (h : rl_R len Ln Lk Op Tg Od XS XP XE XV XW XR XQ XZ XC XD Ys Yp Ye Yq Yr Yw Yv Yn Yh Yz Yd) : i_Rel k (Ln, Lk, Tn, Op, Tg, Od, XS, XP, XE, XV, XW, XR, XQ, XZ, XC, XD) (Ln, Lk, Tn, Op, Tg, Od, Ys, Yp, Ye, Yq, Yr, Yw, Yv, Yn, Yh, Yz, Yd) := ⟨_, _, _, _, _, _, _, _, _, _, _, _, _, _, _, _, _, _, _, _, _, _, _, _, _, _, _, _, rfl, rfl, h⟩
theorem i_zz (h1 : sc_R len Ln Op Tg) (h : ∀ r, r < 3 → XS r = Ys r ∧ rr_Z r XS XP XE XV XR XQ XC XD Yn) : rl_R len Ln Lk Op Tg Od XS XP XE XV XW XR XQ XZ XC XD Ys Yp Ye Yq Yr Yw Yv Yn Yh Yz Yd :=
  ⟨h1, fun _ r hr => (h r hr).2.1, fun r hr => ⟨(h r hr).1, Or.inl (h r hr).2⟩⟩
end
theorem i_vc0 : wpX_init (fun u => wpY_init (fun v => i_Rel 0 u v)) := by
  exact i_mk (k := 0) (len := 0) (i_zz ⟨rfl, by decide, fun _ => ⟨0, by decide, rfl⟩, fun _ => ⟨0, by decide, rfl⟩⟩ fun r hr => ⟨rfl, rfl, rfl, rfl, rfl, rfl, fun _ _ => rfl, ⟨rfl, rfl, rfl, rfl⟩, 0, by decide, rfl⟩)
theorem i_vc_emit {k : Nat} {u : SX} {v : SY} (I : i_Rel k u v) (hk : k + 4 ≤ 2048) (v1 : Int32) (v2 : Int32) (v3 : Int32) : wpX_emit (fun r u' => wpY_emit (fun r' v' => r' = r ∧ i_Rel (k + 4) u' v') v v1 v2 v3) u v1 v2 v3 := by
  obtain ⟨len, Ln, Lk, Tn, Op, Tg, Od, XS, XP, XE, XV, XW, XR, XQ, XZ, XC, XD, Ys, Yp, Ye, Yq, Yr, Yw, Yv, Yn, Yh, Yz, Yd, rfl, rfl, hI⟩ := I
  obtain ⟨⟨hL, hl, hOp, hTg⟩, hK, hR⟩ := id hI
  unfold wpX_emit
  by_cases h0 : v1 < 0
  · exact br_t h0 (br_t h0 ⟨rfl, i_mk hI⟩)
  by_cases h8 : v1 ≤ 8
  · by_cases hlen : len = 16
    · have e : ¬ Ln < 16 := by rw [hL, hlen]; decide
      have e2 : Ln = 16 := by rw [hL, hlen]; rfl
      exact br_f h0 (br_t h8 (br_f e (br_f h0 (br_t h8 (br_t e2 ⟨rfl, i_mk hI⟩)))))
    · have hlt : len < 16 := by omega
      have e : Ln < 16 := by rw [hL]; exact nI_lt (b := 16) hlt (by decide)
      have e2 : ¬ Ln = 16 := by rw [hL]; exact fun z => hlen ((nI_eq (b := 16) (by omega) (by decide)).mp z)
      by_cases hk0 : Lk = 0
      · have hin : vp_in Ln 16 := by rw [hL]; exact rf_p16 hlt
        refine br_f h0 (br_t h8 (br_t e (br_t hk0 ⟨hin, nm_e ⟨hin, nm_e ⟨hin, nm_e (nm_e ?_)⟩⟩⟩)))
        refine br_f h0 (br_t h8 (br_f e2 (br_t hk0 ⟨hin, nm_e ⟨hin, nm_e ⟨hin, nm_e (nm_e ?_)⟩⟩⟩)))
        refine ⟨by rw [hL, nI_1, nI_pred], i_mk (len := len + 1) (i_zz ⟨by rw [hL, nI_1], hlt, fun j => ?_, fun j => ?_⟩ fun r hr => ⟨(hR r hr).1, rr_z0 (hR r hr) (hK hk0 r hr)⟩)⟩
        · unfold upd
          split
          · obtain ⟨o, ho, eo⟩ := nI_of2 (M := 8) (n := 8) (by decide) h0 h8
            exact ⟨o, by omega, eo⟩
          · exact hOp j
        · unfold upd
          split
          · exact rf_a3 v2
          · exact hTg j
      · exact br_f h0 (br_t h8 (br_t e (br_f hk0 (br_f h0 (br_t h8 (br_f e2 (br_f hk0 ⟨rfl, i_mk hI⟩)))))))
  · exact br_f h0 (br_f h8 (br_f h0 (br_f h8 ⟨rfl, i_mk hI⟩)))
theorem i_vc_forget {k : Nat} {u : SX} {v : SY} (I : i_Rel k u v) (hk : k + 4 ≤ 2048) (v1 : Int32) : wpX_forget (fun r => wpY_forget (fun r' => r' = r ∧ i_Rel (k + 4) u v) v v1) u v1 := by
  have I2 := i_up I
  obtain ⟨len, Ln, Lk, Tn, Op, Tg, Od, XS, XP, XE, XV, XW, XR, XQ, XZ, XC, XD, Ys, Yp, Ye, Yq, Yr, Yw, Yv, Yn, Yh, Yz, Yd, rfl, rfl, hI⟩ := I
  unfold wpX_forget wpY_forget
  rcases r_or v1 with hx | ⟨r, hr, rfl⟩
  · exact x_nor hx (br_f (by decide) (y_nor hx (br_t (by trivial) ⟨rfl, I2⟩)))
  · exact x_run hr (br_t (by trivial) (y_run hr (br_f (by decide) ⟨rfl, I2⟩)))
theorem i_vc_state {k : Nat} {u : SX} {v : SY} (I : i_Rel k u v) (hk : k + 4 ≤ 2048) (v1 : Int32) : wpX_state (fun r => wpY_state (fun r' => r' = r ∧ i_Rel (k + 4) u v) v v1) u v1 := by
  have I2 := i_up I
  obtain ⟨len, Ln, Lk, Tn, Op, Tg, Od, XS, XP, XE, XV, XW, XR, XQ, XZ, XC, XD, Ys, Yp, Ye, Yq, Yr, Yw, Yv, Yn, Yh, Yz, Yd, rfl, rfl, hI⟩ := I
  unfold wpX_state wpY_state
  rcases r_or v1 with hx | ⟨r, hr, rfl⟩
  · exact x_nor hx (br_f (by decide) (y_nor hx (br_t (by trivial) ⟨rfl, I2⟩)))
  · refine x_run hr (br_t (by trivial) ⟨rf_r3 hr, y_run hr (br_f (by decide) ⟨rf_r3 hr, ?_, I2⟩)⟩)
    rw [rf_rc hr]
    exact (hI.2.2 r hr).1.symm
theorem i_vc_register {k : Nat} {u : SX} {v : SY} (I : i_Rel k u v) (hk : k + 4 ≤ 2048) (v1 : Int32) (v2 : Int32) : wpX_register (fun r => wpY_register (fun r' => r' = r ∧ i_Rel (k + 4) u v) v v1 v2) u v1 v2 := by
  have I2 := i_up I
  obtain ⟨len, Ln, Lk, Tn, Op, Tg, Od, XS, XP, XE, XV, XW, XR, XQ, XZ, XC, XD, Ys, Yp, Ye, Yq, Yr, Yw, Yv, Yn, Yh, Yz, Yd, rfl, rfl, hI⟩ := I
  unfold wpX_register wpY_register
  rcases r_or v1 with hx | ⟨r, hr, rfl⟩
  · exact x_nor hx (br_f (by decide) (y_nor hx (br_t (by trivial) ⟨rfl, I2⟩)))
  · obtain ⟨g, hg, eg⟩ := rf_a3 v2
    have hR := hI.2.2 r hr
    simp only [eg, rf_m4, nI_add]
    refine x_run hr (br_t (by trivial) ⟨rf_t12 hr hg, y_run hr (br_f (by decide) ⟨rf_r3 hr, ?_⟩)⟩)
    simp only [rf_rc hr, rf_tc hr hg]
    refine br_c (fun z => ⟨?_, I2⟩) (fun z => ⟨rf_t12 hr hg, ?_, I2⟩)
    · rw [← hR.1] at z
      exact ((rr_z0 hR z).2.2.2.2.2.1 g hg).symm
    · rw [← hR.1] at z
      obtain ⟨s, e, v, n, t, h⟩ := rr_as hR z
      exact (h.2.2.2.1.2.2.2.2.2.2.1 g hg).symm
theorem i_vc_activity {k : Nat} {u : SX} {v : SY} (I : i_Rel k u v) (hk : k + 4 ≤ 2048) (v1 : Int32) : wpX_activity (fun r => wpY_activity (fun r' => r' = r ∧ i_Rel (k + 4) u v) v v1) u v1 := by
  have I2 := i_up I
  obtain ⟨len, Ln, Lk, Tn, Op, Tg, Od, XS, XP, XE, XV, XW, XR, XQ, XZ, XC, XD, Ys, Yp, Ye, Yq, Yr, Yw, Yv, Yn, Yh, Yz, Yd, rfl, rfl, hI⟩ := I
  unfold wpX_activity wpY_activity
  rcases r_or v1 with hx | ⟨r, hr, rfl⟩
  · exact x_nor hx (br_f (by decide) (y_nor hx (br_t (by trivial) ⟨rfl, I2⟩)))
  · have hR := hI.2.2 r hr
    refine x_run hr (br_t (by trivial) ⟨rf_r3 hr, ?_⟩)
    simp only [rf_rc hr]
    by_cases z : XS r = 1
    · obtain ⟨s, e, v, n, t, h⟩ := rr_as hR (by rw [z]; decide)
      obtain ⟨h1, h2, h3, h4, h5, h6⟩ := h
      have es : s = 1 := rr_s (q := 1) h3 z h2 (by decide)
      obtain ⟨_, _, _, p, hp, hP, _⟩ := h6 (by omega)
      have hp16 : p < 16 := by have := hI.1.2.1; omega
      have hP' : Yp r = nI p := by rw [← h4.1]; exact hP
      have z' : Ys r = 1 := by rw [← hR.1]; exact z
      rw [hP]
      refine br_t z ⟨rf_r3 hr, rf_p16 hp16, y_run hr (br_f (by decide) ⟨rf_r3 hr, br_t z' ⟨rf_r3 hr, ?_⟩⟩)⟩
      rw [hP']
      exact ⟨rf_p16 hp16, rfl, I2⟩
    · have z' : ¬ Ys r = 1 := by rw [← hR.1]; exact z
      exact br_f z (y_run hr (br_f (by decide) ⟨rf_r3 hr, br_f z' ⟨by trivial, I2⟩⟩))
theorem i_vc_result {k : Nat} {u : SX} {v : SY} (I : i_Rel k u v) (hk : k + 4 ≤ 2048) (v1 : Int32) : wpX_result (fun r => wpY_result (fun r' => r' = r ∧ i_Rel (k + 4) u v) v v1) u v1 := by
  have I2 := i_up I
  obtain ⟨len, Ln, Lk, Tn, Op, Tg, Od, XS, XP, XE, XV, XW, XR, XQ, XZ, XC, XD, Ys, Yp, Ye, Yq, Yr, Yw, Yv, Yn, Yh, Yz, Yd, rfl, rfl, hI⟩ := I
  unfold wpX_result wpY_result
  rcases r_or v1 with hx | ⟨r, hr, rfl⟩
  · exact x_nor hx (br_f (by decide) (y_nor hx (br_t (by trivial) ⟨rfl, I2⟩)))
  · have hR := hI.2.2 r hr
    refine x_run hr (br_t (by trivial) ⟨rf_r3 hr, y_run hr (br_f (by decide) ⟨rf_r3 hr, ?_⟩)⟩)
    simp only [rf_rc hr]
    by_cases z : XS r = 0
    · have z' : ¬ Ys r = 4 := by rw [← hR.1, z]; decide
      exact br_f z' ⟨(rr_z0 hR z).2.2.2.2.1.symm, I2⟩
    · obtain ⟨s, e, v, n, t, h1, h2, h3, h4, h5, h6⟩ := rr_as hR z
      by_cases z4 : s = 4
      · subst z4
        have z' : Ys r = 4 := by rw [← hR.1]; exact h3
        exact br_t z' ⟨rf_r3 hr, (h5 rfl).symm, I2⟩
      · have z' : ¬ Ys r = 4 := by
          rw [← hR.1]
          exact fun q => z4 (rr_s (q := 4) h3 q h2 (by decide))
        exact br_f z' ⟨(h6 z4).1.symm, I2⟩
theorem i_vc_time {k : Nat} {u : SX} {v : SY} (I : i_Rel k u v) (hk : k + 4 ≤ 2048) : wpX_time (fun r => wpY_time (fun r' => r' = r ∧ i_Rel (k + 4) u v) v) u := by
  have I2 := i_up I
  obtain ⟨len, Ln, Lk, Tn, Op, Tg, Od, XS, XP, XE, XV, XW, XR, XQ, XZ, XC, XD, Ys, Yp, Ye, Yq, Yr, Yw, Yv, Yn, Yh, Yz, Yd, rfl, rfl, hI⟩ := I
  exact ⟨rfl, I2⟩
