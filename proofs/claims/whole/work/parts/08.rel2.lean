section
variable {Ln Lk Tn : Int32} {Op Tg Od XS XP XE XV XW XR XQ XZ XC XD Ys Yp Ye Yq Yr Yw Yv Yn Yh Yz Yd : Nat → Int32} {r len e v n : Nat} {t : Nat → Nat}
def rl_R (len : Nat) (Ln Lk : Int32) (Op Tg Od XS XP XE XV XW XR XQ XZ XC XD Ys Yp Ye Yq Yr Yw Yv Yn Yh Yz Yd : Nat → Int32) : Prop :=
  sc_R len Ln Op Tg ∧ (Lk = 0 → ∀ r, r < 3 → XS r = 0) ∧ ∀ r, r < 3 → rr_R r len Op Od XS XP XE XV XW XR XQ XZ XC XD Ys Yp Ye Yq Yr Yw Yv Yn Yh Yz Yd
theorem rl_up {XS1 XP1 XE1 XV1 XW1 XR1 XQ1 XD1 Ys1 Yp1 Ye1 Yq1 Yr1 Yw1 Yv1 Yd1 : Nat → Int32} (hsc : sc_R len Ln Op Tg) (hK : ¬ Lk = 0) (hF : ∀ q, q < 3 → q ≠ r → rr_R q len Op Od XS XP XE XV XW XR XQ XZ XC XD Ys Yp Ye Yq Yr Yw Yv Yn Yh Yz Yd)
    (hB : rr_B r len Op Od XS1 XP1 XE1 XV1 XW1 XR1 XQ1 XZ XC XD1 Ys1 Yp1 Ye1 Yq1 Yr1 Yw1 Yv1 Yn Yh Yz Yd1) (hfr : fr_ r XS XP XE XV XW XR XQ XD Ys Yp Ye Yq Yr Yw Yv Yd XS1 XP1 XE1 XV1 XW1 XR1 XQ1 XD1 Ys1 Yp1 Ye1 Yq1 Yr1 Yw1 Yv1 Yd1) : rl_R len Ln Lk Op Tg Od XS1 XP1 XE1 XV1 XW1 XR1 XQ1 XZ XC XD1 Ys1 Yp1 Ye1 Yq1 Yr1 Yw1 Yv1 Yn Yh Yz Yd1 := by
  refine ⟨hsc, fun z => absurd z hK, fun q hq => ?_⟩
  by_cases z : q = r
  · subst z
    exact ⟨hB.1, Or.inr hB.2⟩
  · obtain ⟨a1, a2, a3, a4, a5, a6, a7, a8, a9, a10, a11, a12, a13, a14, a15, a16⟩ := hfr
    exact rr_fr z (hF q hq z) a1 a2 a3 a4 a5 a6 a7 ao_rf ao_rf a8 a9 a10 a11 a12 a13 a14 a15 ao_rf ao_rf ao_rf a16
theorem go_k (k : Nat) (hk : k + 2501 ≤ 3000) (hr : r < 3) (hsc : sc_R len Ln Op Tg) (hK : ¬ Lk = 0) (hC : rr_C r XP XE XV XQ XZ XC XD Yp Ye Yq Yv Yn Yh Yz Yd e v n t) (he : e < 60) (hR : XR r = 0)
    (hF : ∀ q, q < 3 → q ≠ r → rr_R q len Op Od XS XP XE XV XW XR XQ XZ XC XD Ys Yp Ye Yq Yr Yw Yv Yn Yh Yz Yd) :
    ∃ XS1 XP1 XE1 XV1 XW1 XR1 XQ1 XD1 Ys1 Yp1 Ye1 Yq1 Yr1 Yw1 Yv1 Yd1 : Nat → Int32, XS1 r = Ys1 r ∧ rl_R len Ln Lk Op Tg Od XS1 XP1 XE1 XV1 XW1 XR1 XQ1 XZ XC XD1 Ys1 Yp1 Ye1 Yq1 Yr1 Yw1 Yv1 Yn Yh Yz Yd1 ∧
      (∀ P : SX → Prop, P (Ln, Lk, Tn, Op, Tg, Od, XS1, XP1, XE1, XV1, XW1, XR1, XQ1, XZ, XC, XD1) → wpX_goOn P (Ln, Lk, Tn, Op, Tg, Od, XS, XP, XE, XV, XW, XR, XQ, XZ, XC, XD) (nI r)) ∧ (∀ Q : SY → Prop, Q (Ln, Lk, Tn, Op, Tg, Od, Ys1, Yp1, Ye1, Yq1, Yr1, Yw1, Yv1, Yn, Yh, Yz, Yd1) → wY_goOn_4 Q (nI r) 2600 1 (nI k) Ln Lk Tn Op Tg Od Ys Yp Ye Yq Yr Yw Yv Yn Yh Yz Yd) := by
  obtain ⟨XS1, XP1, XE1, XV1, XW1, XR1, XQ1, XD1, Ys1, Yp1, Ye1, Yq1, Yr1, Yw1, Yv1, Yd1, a1, a2, a3, a4⟩ := go_ls (Ln := Ln) (Lk := Lk) (Tn := Tn) (Od := Od) hr hsc 2500 (upd XS r 5) XP XE XV XW XR XQ XD Ys Yp Ye Yq Yr Yw Yv Yd e v n 0 k 2600 2600 t pk_us hC he hR (by omega) (by omega) (by omega) (by omega) (by omega)
  refine ⟨XS1, XP1, XE1, XV1, XW1, XR1, XQ1, XD1, Ys1, Yp1, Ye1, Yq1, Yr1, Yw1, Yv1, Yd1, a1.1, ?_, ?_, a4⟩
  · obtain ⟨b1, b2⟩ := a2
    exact rl_up hsc hK hF a1 ⟨ao_tr ao_u1 b1, b2⟩
  · intro P hP
    simp only [wpX_goOn, rf_rc hr, rf_r3 hr, true_and, forall_eq]
    exact ⟨2600, a3 P hP⟩
theorem go_0 (hr : r < 3) (hsc : sc_R len Ln Op Tg) (hK : ¬ Lk = 0) (hC : rr_C r XP XE XV XQ XZ XC XD Yp Ye Yq Yv Yn Yh Yz Yd e v n t) (he : e < 60) (hR : XR r = 0)
    (hF : ∀ q, q < 3 → q ≠ r → rr_R q len Op Od XS XP XE XV XW XR XQ XZ XC XD Ys Yp Ye Yq Yr Yw Yv Yn Yh Yz Yd) :
    ∃ XS1 XP1 XE1 XV1 XW1 XR1 XQ1 XD1 Ys1 Yp1 Ye1 Yq1 Yr1 Yw1 Yv1 Yd1 : Nat → Int32, XS1 r = Ys1 r ∧ rl_R len Ln Lk Op Tg Od XS1 XP1 XE1 XV1 XW1 XR1 XQ1 XZ XC XD1 Ys1 Yp1 Ye1 Yq1 Yr1 Yw1 Yv1 Yn Yh Yz Yd1 ∧
      (∀ P : SX → Prop, P (Ln, Lk, Tn, Op, Tg, Od, XS1, XP1, XE1, XV1, XW1, XR1, XQ1, XZ, XC, XD1) → wpX_goOn P (Ln, Lk, Tn, Op, Tg, Od, XS, XP, XE, XV, XW, XR, XQ, XZ, XC, XD) (nI r)) ∧ (∀ Q : SY → Prop, Q (Ln, Lk, Tn, Op, Tg, Od, Ys1, Yp1, Ye1, Yq1, Yr1, Yw1, Yv1, Yn, Yh, Yz, Yd1) → wpY_goOn Q (Ln, Lk, Tn, Op, Tg, Od, Ys, Yp, Ye, Yq, Yr, Yw, Yv, Yn, Yh, Yz, Yd) (nI r)) := by
  obtain ⟨XS1, XP1, XE1, XV1, XW1, XR1, XQ1, XD1, Ys1, Yp1, Ye1, Yq1, Yr1, Yw1, Yv1, Yd1, a1, a2, a3, a4⟩ := go_k (Ln := Ln) (Lk := Lk) (Tn := Tn) (Op := Op) (Tg := Tg) (Od := Od) 0 (by decide) hr hsc hK hC he hR hF
  refine ⟨XS1, XP1, XE1, XV1, XW1, XR1, XQ1, XD1, Ys1, Yp1, Ye1, Yq1, Yr1, Yw1, Yv1, Yd1, a1, a2, a3, fun Q hQ => ?_⟩
  simp only [wpY_goOn]
  exact ⟨2600, a4 Q hQ⟩
theorem x_run {pr : Int32 → Prop} (hr : r < 3) (h : pr 0) : wpX_isNoRun pr (nI r) := by
  unfold wpX_isNoRun
  exact br_f (nI_pos (by omega)) (br_t (nI_lt (b := 3) hr (by decide)) h)
theorem x_nor {pr : Int32 → Prop} {x : Int32} (hx : x < 0 ∨ ¬ x < 3) (h : pr 1) : wpX_isNoRun pr x := by
  unfold wpX_isNoRun
  refine br_c (fun _ => h) (fun z => br_c (fun z2 => ?_) (fun _ => h))
  rcases hx with a | a
  · exact absurd a z
  · exact absurd z2 a
theorem y_run {pr : Int32 → Prop} (hr : r < 3) (h : pr 1) : wpY_isRun pr (Ln, Lk, Tn, Op, Tg, Od, Ys, Yp, Ye, Yq, Yr, Yw, Yv, Yn, Yh, Yz, Yd) (nI r) := by
  unfold wpY_isRun
  exact br_f (nI_pos (by omega)) (br_f (nI_ge (b := 3) hr (by decide)) h)
theorem y_nor {pr : Int32 → Prop} {x : Int32} (hx : x < 0 ∨ ¬ x < 3) (h : pr 0) : wpY_isRun pr (Ln, Lk, Tn, Op, Tg, Od, Ys, Yp, Ye, Yq, Yr, Yw, Yv, Yn, Yh, Yz, Yd) x := by
  unfold wpY_isRun
  refine br_c (fun _ => h) (fun z => br_c (fun _ => h) (fun z2 => ?_))
  rcases hx with a | a
  · exact absurd a z
  · exact absurd (Int32.not_le.mp z2) a
theorem r_or (x : Int32) : (x < 0 ∨ ¬ x < 3) ∨ ∃ r, r < 3 ∧ x = nI r := by
  by_cases h : x < 0
  · exact Or.inl (Or.inl h)
  · by_cases h2 : x < 3
    · obtain ⟨j, hj, rfl⟩ := nI_of h
      exact Or.inr ⟨j, (nI_ltI (b := 3) hj (by decide)).mp h2, rfl⟩
    · exact Or.inl (Or.inr h2)
theorem rr_z0 (h : rr_R r len Op Od XS XP XE XV XW XR XQ XZ XC XD Ys Yp Ye Yq Yr Yw Yv Yn Yh Yz Yd) (hS : XS r = 0) : rr_Z r XS XP XE XV XR XQ XC XD Yn := by
  obtain ⟨_, h | ⟨s, e, v, n, t, h⟩⟩ := h
  · exact h
  · obtain ⟨a1, a2, a3, _⟩ := h
    rw [hS] at a3
    exact absurd ((nI_eq (a := 0) (by decide) (by omega)).mp a3) (by omega)
theorem rr_as (h : rr_R r len Op Od XS XP XE XV XW XR XQ XZ XC XD Ys Yp Ye Yq Yr Yw Yv Yn Yh Yz Yd) (hS : ¬ XS r = 0) : ∃ s e v n t, rr_A r len Op Od XS XP XE XV XW XR XQ XZ XC XD Ys Yp Ye Yq Yr Yw Yv Yn Yh Yz Yd s e v n t := by
  obtain ⟨_, h | h⟩ := h
  · exact absurd h.1 hS
  · exact h
theorem rr_s {s q : Nat} (h : XS r = nI s) (hq : XS r = nI q) (hs : s ≤ 4) (h2 : q ≤ 4) : s = q := (nI_eq (by omega) (by omega)).mp (h.symm.trans hq)
end
