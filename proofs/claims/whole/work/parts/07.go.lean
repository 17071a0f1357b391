section
variable {Ln Lk Tn : Int32} {Op Tg Od XZ XC Yn Yh Yz : Nat → Int32} {r len : Nat}
theorem x_ne {f : Nat → Int32} {k : Nat} {w : Int32} (hw : ¬ w = 5) : ¬ upd f k w k = 5 := by rw [pk_us]; exact hw
/-- one stretch of run r, in lockstep: e steps since the last wait, v waits over -/
theorem go_ls (hr : r < 3) (hsc : sc_R len Ln Op Tg) : ∀ (m : Nat) (XS XP XE XV XW XR XQ XD Ys Yp Ye Yq Yr Yw Yv Yd : Nat → Int32) (e v n i k nX nY : Nat) (t : Nat → Nat),
    XS r = 5 → rr_C r XP XE XV XQ XZ XC XD Yp Ye Yq Yv Yn Yh Yz Yd e v n t → e < 60 → XR r = 0 → (40 - v) * 61 + (60 - e) ≤ m → i + m ≤ 2501 → k + m + 1 ≤ 3000 → m < nX → m + 1 < nY →
    ∃ XS1 XP1 XE1 XV1 XW1 XR1 XQ1 XD1 Ys1 Yp1 Ye1 Yq1 Yr1 Yw1 Yv1 Yd1 : Nat → Int32, rr_B r len Op Od XS1 XP1 XE1 XV1 XW1 XR1 XQ1 XZ XC XD1 Ys1 Yp1 Ye1 Yq1 Yr1 Yw1 Yv1 Yn Yh Yz Yd1 ∧ fr_ r XS XP XE XV XW XR XQ XD Ys Yp Ye Yq Yr Yw Yv Yd XS1 XP1 XE1 XV1 XW1 XR1 XQ1 XD1 Ys1 Yp1 Ye1 Yq1 Yr1 Yw1 Yv1 Yd1 ∧
      (∀ P : SX → Prop, P (Ln, Lk, Tn, Op, Tg, Od, XS1, XP1, XE1, XV1, XW1, XR1, XQ1, XZ, XC, XD1) → wX_goOn_9 P (nI r) nX (nI i) Ln Lk Tn Op Tg Od XS XP XE XV XW XR XQ XZ XC XD) ∧ (∀ Q : SY → Prop, Q (Ln, Lk, Tn, Op, Tg, Od, Ys1, Yp1, Ye1, Yq1, Yr1, Yw1, Yv1, Yn, Yh, Yz, Yd1) → wY_goOn_4 Q (nI r) nY 1 (nI k) Ln Lk Tn Op Tg Od Ys Yp Ye Yq Yr Yw Yv Yn Yh Yz Yd) := by
  obtain ⟨hL, hl, hOp, hTg⟩ := hsc
  intro m
  induction m with
  | zero => intro XS XP XE XV XW XR XQ XD Ys Yp Ye Yq Yr Yw Yv Yd e v n i k nX nY t _ _ he _ hm; omega
  | succ m ih =>
  intro XS XP XE XV XW XR XQ XD Ys Yp Ye Yq Yr Yw Yv Yd e v n i k nX nY t hS hC he hR hm hi hk hX hY
  obtain ⟨c1, c2, c3, c4, c5, c6, c7, c8⟩ := id hC
  obtain ⟨nX, rfl⟩ : ∃ a, nX = a + 2 := ⟨nX - 2, by omega⟩
  obtain ⟨nY, rfl⟩ : ∃ a, nY = a + 3 := ⟨nY - 3, by omega⟩
  have i1 : i < 2501 := by omega
  have k1 : k < 3000 := by omega
  by_cases hout : XP r < 0 ∨ ¬ XP r < Ln
  · exact ⟨upd XS r 4, XP, XE, XV, XW, upd XR r 0, XQ, XD, upd Ys r 4, Yp, Ye, Yq, upd Yr r 0, Yw, Yv, Yd, rr_e4 rfl hC, (by unfold fr_; refine ⟨?_, ?_, ?_, ?_, ?_, ?_, ?_, ?_, ?_, ?_, ?_, ?_, ?_, ?_, ?_, ?_⟩ <;> first | exact ao_rf | exact ao_u1 | exact lf_Qa hg | exact ao_u ao_rf (by omega)), fun P hP => xg_out hr hS i1 hout (xg_exit hr (x_ne (by decide)) hP), fun Q hQ => yg_out hr k1 (by rw [← c1]; exact hout) (yg_exit hQ)⟩
  obtain ⟨p, hp, hP⟩ : ∃ p, p < len ∧ XP r = nI p := by
    have h0 : ¬ XP r < 0 := fun z => hout (Or.inl z)
    have h1 : XP r < Ln := Decidable.byContradiction fun z => hout (Or.inr z)
    obtain ⟨p, hp, e⟩ := nI_of h0
    rw [e, hL] at h1
    exact ⟨p, (nI_ltI hp (by omega)).mp h1, e⟩
  have hp16 : p < 16 := by omega
  have hP' : Yp r = nI p := by rw [← c1]; exact hP
  obtain ⟨o, ho, hO⟩ := hOp p
  obtain ⟨g, hg, hG⟩ := hTg p
  by_cases h4 : o ≤ 4
  · obtain ⟨b, hb, hB⟩ := rf_a3 (Od p)
    by_cases h59 : e < 59
    · obtain ⟨XS1, XP1, XE1, XV1, XW1, XR1, XQ1, XD1, Ys1, Yp1, Ye1, Yq1, Yr1, Yw1, Yv1, Yd1, a1, a2, a3, a4⟩ := ih XS (upd XP r (lf_P o p (XQ (r * 4 + g)) (Od p))) (upd XE r (nI (e + 1))) XV XW XR (lf_Q o XQ (r * 4 + g) (r * 4 + b) (Od p)) XD Ys (upd Yp r (lf_P o p (Yq (r * 4 + g)) (Od p))) (upd Ye r (nI (e + 1))) (lf_Q o Yq (r * 4 + g) (r * 4 + b) (Od p)) Yr Yw Yv Yd (e + 1) v n (i + 1) (k + 1) (nX + 1) (nY + 2) t hS (rr_pl hC hg hb) (by omega) hR (by omega) (by omega) (by omega) (by omega) (by omega)
      exact ⟨XS1, XP1, XE1, XV1, XW1, XR1, XQ1, XD1, Ys1, Yp1, Ye1, Yq1, Yr1, Yw1, Yv1, Yd1, a1, fr_tr (by unfold fr_; refine ⟨?_, ?_, ?_, ?_, ?_, ?_, ?_, ?_, ?_, ?_, ?_, ?_, ?_, ?_, ?_, ?_⟩ <;> first | exact ao_rf | exact ao_u1 | exact lf_Qa hg | exact ao_u ao_rf (by omega)) a2, fun P hP2 => xg_plainA hr hS i1 hL hl hP hp h4 hO hG hg hB hb c2 h59 (a3 P hP2), fun Q hQ => yg_plain hr k1 hL hl hP' hp h4 hO hG hg hB hb c3 he (a4 Q hQ)⟩
    · have h60 : e = 59 := by omega
      subst h60
      exact ⟨upd XS r 4, upd XP r (lf_P o p (XQ (r * 4 + g)) (Od p)), upd XE r (nI 60), XV, XW, upd XR r 0, lf_Q o XQ (r * 4 + g) (r * 4 + b) (Od p), XD, upd Ys r 4, upd Yp r (lf_P o p (Yq (r * 4 + g)) (Od p)), upd Ye r (nI 60), lf_Q o Yq (r * 4 + g) (r * 4 + b) (Od p), upd Yr r 0, Yw, Yv, Yd, rr_e4 rfl (rr_pl hC hg hb), (by unfold fr_; refine ⟨?_, ?_, ?_, ?_, ?_, ?_, ?_, ?_, ?_, ?_, ?_, ?_, ?_, ?_, ?_, ?_⟩ <;> first | exact ao_rf | exact ao_u1 | exact lf_Qa hg | exact ao_u ao_rf (by omega)), fun P hP2 => xg_plainB hr hS i1 hL hl hP hp h4 hO hG hg hB hb c2 (xg_exit hr (x_ne (by decide)) hP2), fun Q hQ => yg_plain hr k1 hL hl hP' hp h4 hO hG hg hB hb c3 he (yg_60 hr (by omega) pk_us (yg_exit hQ))⟩
  by_cases h8 : o = 8
  · subst h8
    exact ⟨upd XS r 4, XP, XE, XV, XW, upd XR r (XQ (r * 4 + g)), XQ, XD, upd Ys r 4, Yp, Ye, Yq, upd Yr r (Yq (r * 4 + g)), Yw, Yv, Yd, rr_e4 (c7 g hg) hC, (by unfold fr_; refine ⟨?_, ?_, ?_, ?_, ?_, ?_, ?_, ?_, ?_, ?_, ?_, ?_, ?_, ?_, ?_, ?_⟩ <;> first | exact ao_rf | exact ao_u1 | exact lf_Qa hg | exact ao_u ao_rf (by omega)), fun P hP2 => xg_8 hr hS i1 hL hl hP hp hO hG hg (xg_exit hr (x_ne (by decide)) hP2), fun Q hQ => yg_8 hr k1 hL hl hP' hp hO hG hg c3 he (yg_exit hQ)⟩
  have h5 : 5 ≤ o := by omega
  have h7 : o ≤ 7 := by omega
  by_cases h40 : v = 40
  · subst h40
    exact ⟨upd XS r 4, XP, XE, XV, XW, upd XR r 0, XQ, XD, upd Ys r 4, Yp, Ye, Yq, upd Yr r 0, Yw, Yv, Yd, rr_e4 rfl hC, (by unfold fr_; refine ⟨?_, ?_, ?_, ?_, ?_, ?_, ?_, ?_, ?_, ?_, ?_, ?_, ?_, ?_, ?_, ?_⟩ <;> first | exact ao_rf | exact ao_u1 | exact lf_Qa hg | exact ao_u ao_rf (by omega)), fun P hP2 => xg_w hr hS i1 hL hl hP hp h5 h7 hO (fun q hq => x_cwFull hr hP hp16 c4 hq) (xg_exit hr (x_ne (by decide)) hP2), fun Q hQ => yg_full hr k1 hL hl hP' hp h5 h7 hO c3 he c5 (yg_exit hQ)⟩
  have hv : v < 40 := by omega
  have ho3 : o = 5 ∨ o = 6 ∨ o = 7 := by omega
  rcases ho3 with rfl | rfl | rfl
  · exact ⟨upd XS r 1, XP, XE, XV, XW, XR, XQ, XD, upd Ys r 1, Yp, Ye, Yq, Yr, Yw, Yv, Yd, rr_e1 hC hR he hv hp hP hO, (by unfold fr_; refine ⟨?_, ?_, ?_, ?_, ?_, ?_, ?_, ?_, ?_, ?_, ?_, ?_, ?_, ?_, ?_, ?_⟩ <;> first | exact ao_rf | exact ao_u1 | exact lf_Qa hg | exact ao_u ao_rf (by omega)), fun P hP2 => xg_w hr hS i1 hL hl hP hp h5 h7 hO (fun q hq => x_cw5 hr hP hp16 hO c4 hv hq) (xg_exit hr (x_ne (by decide)) hP2), fun Q hQ => yg_w hr k1 hL hl hP' hp h5 h7 hO c3 he c5 hv (fun q hq => y_w5 hr hP' hp16 hO hq) (yg_exit hQ)⟩
  · exact ⟨upd XS r 2, XP, XE, XV, upd XW r (Tn + lf_S (Od p)), XR, XQ, XD, upd Ys r 2, Yp, Ye, Yq, Yr, upd Yw r (Tn + lf_S (Od p)), Yv, Yd, rr_e2 hC hR he hv hp hP hO, (by unfold fr_; refine ⟨?_, ?_, ?_, ?_, ?_, ?_, ?_, ?_, ?_, ?_, ?_, ?_, ?_, ?_, ?_, ?_⟩ <;> first | exact ao_rf | exact ao_u1 | exact lf_Qa hg | exact ao_u ao_rf (by omega)), fun P hP2 => xg_w hr hS i1 hL hl hP hp h5 h7 hO (fun q hq => x_cw6 hr hP hp16 hO c4 hv hq) (xg_exit hr (x_ne (by decide)) hP2), fun Q hQ => yg_w hr k1 hL hl hP' hp h5 h7 hO c3 he c5 hv (fun q hq => y_w6 hr hP' hp16 hO hq) (yg_exit hQ)⟩
  · obtain ⟨c, hc, hB⟩ := rf_a1 (Od p)
    obtain ⟨w, hw, hF⟩ := ys_first (Ln := Ln) (Lk := Lk) (Tn := Tn) (Op := Op) (Tg := Tg) (Od := Od) (Ys := Ys) (Yp := Yp) (Ye := Ye) (Yq := Yq) (Yr := Yr) (Yw := Yw) (Yv := Yv) hr c8 hc
    obtain ⟨d1, d2, d3⟩ := c8.2.2.1 c hc
    rcases hw with ⟨ht, rfl⟩ | ⟨i0, hi0, rfl, hH, hn⟩
    · exact ⟨upd XS r 3, XP, XE, XV, XW, XR, XQ, XD, upd Ys r 3, Yp, Ye, Yq, Yr, Yw, Yv, Yd, rr_e3 hC hR he hv hp hP hO hc hB ht, (by unfold fr_; refine ⟨?_, ?_, ?_, ?_, ?_, ?_, ?_, ?_, ?_, ?_, ?_, ?_, ?_, ?_, ?_, ?_⟩ <;> first | exact ao_rf | exact ao_u1 | exact lf_Qa hg | exact ao_u ao_rf (by omega)), fun P hP2 => xg_w hr hS i1 hL hl hP hp h5 h7 hO (fun q hq => x_cw7w hr hP hp16 hO hB hc c4 hv d2 (by rw [d1, ht]) hq) (xg_exit hr (x_ne (by decide)) hP2), fun Q hQ => yg_w hr k1 hL hl hP' hp h5 h7 hO c3 he c5 hv (fun q hq => y_w7w hr hP' hp16 hO hB hF hq) (yg_exit hQ)⟩
    · have lt := sg_lt hi0 hH
      have le := sg_le Yh (r * 24) (nI c) n
      have n24 := c8.1
      obtain ⟨XS1, XP1, XE1, XV1, XW1, XR1, XQ1, XD1, Ys1, Yp1, Ye1, Yq1, Yr1, Yw1, Yv1, Yd1, a1, a2, a3, a4⟩ := ih XS (upd XP r (nI (p + 1))) (upd XE r 0) (upd XV r (nI (v + 1))) XW XR (upd XQ (r * 4 + g) (XZ ((r * 2 + c) * 24 + t c))) (upd XD (r * 2 + c) (nI (t c + 1))) (upd Ys r 3) (upd Yp r (nI (p + 1))) (upd Ye r 0) (upd Yq (r * 4 + g) (Yz (r * 24 + i0))) Yr Yw (upd Yv r (nI (v + 1))) (upd Yd (r * 24 + i0) 1) 0 (v + 1) n (i + 1) (k + 1) (nX + 1) (nY + 2) (fun d => if d = c then t c + 1 else t d) hS (rr_tk hC hv hc hi0 hH hn hg) (by omega) hR (by omega) (by omega) (by omega) (by omega) (by omega)
      exact ⟨XS1, XP1, XE1, XV1, XW1, XR1, XQ1, XD1, Ys1, Yp1, Ye1, Yq1, Yr1, Yw1, Yv1, Yd1, a1, fr_tr (by unfold fr_; refine ⟨?_, ?_, ?_, ?_, ?_, ?_, ?_, ?_, ?_, ?_, ?_, ?_, ?_, ?_, ?_, ?_⟩ <;> first | exact ao_rf | exact ao_u1 | exact lf_Qa hg | exact ao_u ao_rf (by omega)) a2, fun P hP2 => xg_w hr hS i1 hL hl hP hp h5 h7 hO (fun q hq => x_cw7t hr hP hp16 hO hG hg hB hc c4 hv d2 d1 (by omega) (by omega) hq) (a3 P hP2), fun Q hQ => yg_w hr k1 hL hl hP' hp h5 h7 hO c3 he c5 hv (fun q hq => y_w7t hr hP' hp16 hO hG hg hB (by omega) c5 hF hq) (a4 Q hQ)⟩
end
