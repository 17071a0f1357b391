/-- f with zeros below m -/
def zr_ (f : Nat → Int32) (m : Nat) : Nat → Int32 := fun j => if j < m then 0 else f j
theorem zr_0 (f : Nat → Int32) : zr_ f 0 = f := by
  funext j
  unfold zr_
  rw [if_neg (by omega)]
theorem zr_s (f : Nat → Int32) (m : Nat) : upd (zr_ f m) m 0 = zr_ f (m + 1) := by
  funext j
  unfold zr_ upd
  by_cases h : j = m
  · rw [if_pos h, if_pos (by omega)]
  · rw [if_neg h]
    show (if j < m then (0 : Int32) else f j) = _
    by_cases h2 : j < m
    · rw [if_pos h2, if_pos (by omega)]
    · rw [if_neg h2, if_neg (by omega)]
theorem zr_v {f : Nat → Int32} {m j : Nat} (h : j < m) : zr_ f m j = 0 := if_pos h
section
variable {Ln Lk Tn : Int32} {Op Tg Od XS XP XE XV XW XR XQ XZ XC XD Ys Yp Ye Yq Yr Yw Yv Yn Yh Yz Yd : Nat → Int32} {post : SX → Prop} {pos : SY → Prop} {r len e v n : Nat} {t : Nat → Nat}
theorem xc_93 (h : post (Ln, Lk, Tn, Op, Tg, Od, XS, XP, XE, XV, XW, XR, XQ, XZ, zr_ XC 6, zr_ XD 6)) : ∀ d i, i + d = 6 → wX_clear_93 post Ln Lk Tn (d + 1) (nI i) Op Tg Od XS XP XE XV XW XR XQ XZ (zr_ XC i) (zr_ XD i) := by
  intro d
  induction d with
  | zero =>
    intro i hi
    have e : i = 6 := by omega
    subst e
    rw [wX_clear_93]
    exact br_t (by decide) h
  | succ d ih =>
    intro i hi
    rw [wX_clear_93]
    have hc : (nI i).toNatClampNeg = i := nI_clamp (by omega)
    have hv : vp_in (nI i) 6 := vp_in_nI (by omega) (by decide)
    simp only [hc, hv, zr_s, nI_1, true_and, forall_eq]
    exact br_f (nI_ge (b := 6) (by omega) (by decide)) (ih (i + 1) (by omega))
theorem xc_72 (h : ∃ m, wX_clear_93 post Ln Lk Tn m 0 Op Tg Od XS XP XE XV XW XR (zr_ XQ 12) XZ XC XD) : ∀ d i, i + d = 12 → wX_clear_72 post Ln Lk Tn (d + 1) (nI i) Op Tg Od XS XP XE XV XW XR (zr_ XQ i) XZ XC XD := by
  intro d
  induction d with
  | zero =>
    intro i hi
    have e : i = 12 := by omega
    subst e
    rw [wX_clear_72]
    exact br_t (by decide) h
  | succ d ih =>
    intro i hi
    rw [wX_clear_72]
    have hc : (nI i).toNatClampNeg = i := nI_clamp (by omega)
    have hv : vp_in (nI i) 12 := vp_in_nI (by omega) (by decide)
    simp only [hc, hv, zr_s, nI_1, true_and, forall_eq]
    exact br_f (nI_ge (b := 12) (by omega) (by decide)) (ih (i + 1) (by omega))
theorem xc_17 (h : ∃ m, wX_clear_72 post Ln Lk Tn m 0 Op Tg Od (zr_ XS 3) (zr_ XP 3) (zr_ XE 3) (zr_ XV 3) (zr_ XW 3) (zr_ XR 3) XQ XZ XC XD) : ∀ d i, i + d = 3 → wX_clear_17 post Ln Lk Tn (d + 1) (nI i) Op Tg Od (zr_ XS i) (zr_ XP i) (zr_ XE i) (zr_ XV i) (zr_ XW i) (zr_ XR i) XQ XZ XC XD := by
  intro d
  induction d with
  | zero =>
    intro i hi
    have e : i = 3 := by omega
    subst e
    rw [wX_clear_17]
    exact br_t (by decide) h
  | succ d ih =>
    intro i hi
    rw [wX_clear_17]
    have hc : (nI i).toNatClampNeg = i := nI_clamp (by omega)
    have hv : vp_in (nI i) 3 := vp_in_nI (by omega) (by decide)
    simp only [hc, hv, zr_s, nI_1, true_and, forall_eq]
    exact br_f (nI_ge (b := 3) (by omega) (by decide)) (ih (i + 1) (by omega))
theorem yc_17 (h : pos (Ln, Lk, Tn, Op, Tg, Od, zr_ Ys 3, Yp, Ye, Yq, Yr, Yw, Yv, Yn, Yh, Yz, Yd)) : ∀ d i, i + d = 3 → wY_clear_17 pos Ln Lk Tn (d + 1) (nI i) Op Tg Od (zr_ Ys i) Yp Ye Yq Yr Yw Yv Yn Yh Yz Yd := by
  intro d
  induction d with
  | zero =>
    intro i hi
    have e : i = 3 := by omega
    subst e
    rw [wY_clear_17]
    exact br_t (by decide) h
  | succ d ih =>
    intro i hi
    rw [wY_clear_17]
    have hc : (nI i).toNatClampNeg = i := nI_clamp (by omega)
    have hv : vp_in (nI i) 3 := vp_in_nI (by omega) (by decide)
    simp only [hc, hv, zr_s, nI_1, true_and, forall_eq]
    exact br_f (nI_ge (b := 3) (by omega) (by decide)) (ih (i + 1) (by omega))
theorem x_clear (h : post (0, 0, 0, Op, Tg, Od, zr_ XS 3, zr_ XP 3, zr_ XE 3, zr_ XV 3, zr_ XW 3, zr_ XR 3, zr_ XQ 12, XZ, zr_ XC 6, zr_ XD 6)) : wpX_clear post (Ln, Lk, Tn, Op, Tg, Od, XS, XP, XE, XV, XW, XR, XQ, XZ, XC, XD) := by
  unfold wpX_clear
  have a := xc_17 (post := post) (Ln := 0) (Lk := 0) (Tn := 0) (Op := Op) (Tg := Tg) (Od := Od) (XS := XS) (XP := XP) (XE := XE) (XV := XV) (XW := XW) (XR := XR) (XQ := XQ) (XZ := XZ) (XC := XC) (XD := XD) ⟨13, ?_⟩ 3 0 rfl
  · simp only [zr_0] at a
    exact ⟨4, a⟩
  have b := xc_72 (post := post) (Ln := 0) (Lk := 0) (Tn := 0) (Op := Op) (Tg := Tg) (Od := Od) (XS := zr_ XS 3) (XP := zr_ XP 3) (XE := zr_ XE 3) (XV := zr_ XV 3) (XW := zr_ XW 3) (XR := zr_ XR 3) (XQ := XQ) (XZ := XZ) (XC := XC) (XD := XD) ⟨7, ?_⟩ 12 0 rfl
  · simp only [zr_0] at b
    exact b
  have c := xc_93 (post := post) (Ln := 0) (Lk := 0) (Tn := 0) (Op := Op) (Tg := Tg) (Od := Od) (XS := zr_ XS 3) (XP := zr_ XP 3) (XE := zr_ XE 3) (XV := zr_ XV 3) (XW := zr_ XW 3) (XR := zr_ XR 3) (XQ := zr_ XQ 12) (XZ := XZ) (XC := XC) (XD := XD) h 6 0 rfl
  simp only [zr_0] at c
  exact c
theorem y_clear (h : pos (0, 0, 0, Op, Tg, Od, zr_ Ys 3, Yp, Ye, Yq, Yr, Yw, Yv, Yn, Yh, Yz, Yd)) : wpY_clear pos (Ln, Lk, Tn, Op, Tg, Od, Ys, Yp, Ye, Yq, Yr, Yw, Yv, Yn, Yh, Yz, Yd) := by
  unfold wpY_clear
  have a := yc_17 (pos := pos) (Ln := 0) (Lk := 0) (Tn := 0) (Op := Op) (Tg := Tg) (Od := Od) (Ys := Ys) (Yp := Yp) (Ye := Ye) (Yq := Yq) (Yr := Yr) (Yw := Yw) (Yv := Yv) (Yn := Yn) (Yh := Yh) (Yz := Yz) (Yd := Yd) h 3 0 rfl
  simp only [zr_0] at a
  exact ⟨4, a⟩
theorem yu_0 {pr : Int32 → Prop} (hr : r < 3) (hS : Ys r = 0) (hN : Yn r = nI n) (hn : n ≤ 24) (hp : pr 0) : ∀ d i, i + d = n → wY_untaken_18 pr (nI r) Ln Lk Tn Op Tg Od Ys Yp Ye Yq Yr Yw Yv Yn Yh Yz Yd (d + 1) 0 (nI (r * 24 + i)) := by
  intro d
  induction d with
  | zero =>
    intro i hi
    have e : i = n := by omega
    subst e
    rw [wY_untaken_18]
    simp only [rf_rc hr, rf_r3 hr, hN, rf_m24, nI_add, true_and]
    exact br_t (Int32.le_refl _) hp
  | succ d ih =>
    intro i hi
    rw [wY_untaken_18]
    simp only [rf_rc hr, rf_r3 hr, hN, rf_m24, nI_add, rf_yc hr (show i < 24 by omega), rf_y72 hr (show i < 24 by omega), nI_1, true_and, forall_eq]
    have w := ih (i + 1) (by omega)
    exact br_f (nI_ge (by omega) (by omega)) (br_c (fun _ => br_t hS w) (fun _ => w))
theorem yu_1 {pr : Int32 → Prop} (hr : r < 3) (hS : ¬ Ys r = 0) (h : sg_R r XZ XC XD Yn Yh Yz Yd n t) (hp : pr (nI ((sg_n Yh (r * 24) (nI 0) n - t 0) + (sg_n Yh (r * 24) (nI 1) n - t 1)))) :
    ∀ d i, i + d = n → wY_untaken_18 pr (nI r) Ln Lk Tn Op Tg Od Ys Yp Ye Yq Yr Yw Yv Yn Yh Yz Yd (d + 1) (nI ((sg_n Yh (r * 24) (nI 0) i - t 0) + (sg_n Yh (r * 24) (nI 1) i - t 1))) (nI (r * 24 + i)) := by
  obtain ⟨h1, h2, h3, h4⟩ := h
  intro d
  induction d with
  | zero =>
    intro i hi
    have e : i = n := by omega
    subst e
    rw [wY_untaken_18]
    simp only [rf_rc hr, rf_r3 hr, h2, rf_m24, nI_add, true_and]
    exact br_t (Int32.le_refl _) hp
  | succ d ih =>
    intro i hi
    rw [wY_untaken_18]
    have w := ih (i + 1) (by omega)
    obtain ⟨c, hc, b1, b2, b3⟩ := h4 i (by omega)
    simp only [rf_rc hr, rf_r3 hr, h2, rf_m24, nI_add, rf_yc hr (show i < 24 by omega), rf_y72 hr (show i < 24 by omega), nI_1, b3, true_and, forall_eq]
    refine br_f (nI_ge (by omega) (by omega)) ?_
    have hc2 : c = 0 ∨ c = 1 := by omega
    by_cases hq : sg_n Yh (r * 24) (nI c) i < t c
    · rw [if_pos hq]
      refine br_f (by decide) ?_
      rcases hc2 with rfl | rfl
      · rw [sg_y b1, sg_no (c := nI 1) (by rw [b1]; exact sg_01), show sg_n Yh (r * 24) (nI 0) i + 1 - t 0 = sg_n Yh (r * 24) (nI 0) i - t 0 by omega] at w
        exact w
      · rw [sg_y b1, sg_no (c := nI 0) (by rw [b1]; exact fun z => sg_01 z.symm), show sg_n Yh (r * 24) (nI 1) i + 1 - t 1 = sg_n Yh (r * 24) (nI 1) i - t 1 by omega] at w
        exact w
    · rw [if_neg hq]
      refine br_t (by trivial) (br_f hS ?_)
      rcases hc2 with rfl | rfl
      · rw [sg_y b1, sg_no (c := nI 1) (by rw [b1]; exact sg_01), show sg_n Yh (r * 24) (nI 0) i + 1 - t 0 + (sg_n Yh (r * 24) (nI 1) i - t 1) = sg_n Yh (r * 24) (nI 0) i - t 0 + (sg_n Yh (r * 24) (nI 1) i - t 1) + 1 by omega] at w
        exact w
      · rw [sg_y b1, sg_no (c := nI 0) (by rw [b1]; exact fun z => sg_01 z.symm), show sg_n Yh (r * 24) (nI 0) i - t 0 + (sg_n Yh (r * 24) (nI 1) i + 1 - t 1) = sg_n Yh (r * 24) (nI 0) i - t 0 + (sg_n Yh (r * 24) (nI 1) i - t 1) + 1 by omega] at w
        exact w
end
theorem i_vc_clear {k : Nat} {u : SX} {v : SY} (I : i_Rel k u v) (hk : k + 4 ≤ 2048) : wpX_clear (fun u' => wpY_clear (fun v' => i_Rel (k + 4) u' v') v) u := by
  obtain ⟨len, Ln, Lk, Tn, Op, Tg, Od, XS, XP, XE, XV, XW, XR, XQ, XZ, XC, XD, Ys, Yp, Ye, Yq, Yr, Yw, Yv, Yn, Yh, Yz, Yd, rfl, rfl, hI⟩ := I
  refine x_clear (y_clear (i_mk (len := 0) (i_zz ⟨rfl, by decide, hI.1.2.2⟩ fun r hr => ⟨by rw [zr_v hr, zr_v hr], zr_v hr, zr_v hr, zr_v hr, zr_v hr, zr_v hr, fun j hj => zr_v (by omega), ⟨zr_v (by omega), zr_v (by omega), zr_v (by omega), zr_v (by omega)⟩, ?_⟩)))
  obtain ⟨_, h | ⟨s, e, v, n, t, h⟩⟩ := hI.2.2 r hr
  · exact h.2.2.2.2.2.2.2
  · have q := h.2.2.2.1.2.2.2.2.2.2.2
    exact ⟨n, q.1, q.2.1⟩
theorem i_vc_untaken {k : Nat} {u : SX} {v : SY} (I : i_Rel k u v) (hk : k + 4 ≤ 2048) (v1 : Int32) : wpX_untaken (fun r => wpY_untaken (fun r' => r' = r ∧ i_Rel (k + 4) u v) v v1) u v1 := by
  have I2 := i_up I
  obtain ⟨len, Ln, Lk, Tn, Op, Tg, Od, XS, XP, XE, XV, XW, XR, XQ, XZ, XC, XD, Ys, Yp, Ye, Yq, Yr, Yw, Yv, Yn, Yh, Yz, Yd, rfl, rfl, hI⟩ := I
  unfold wpX_untaken wpY_untaken
  rcases r_or v1 with hx | ⟨r, hr, rfl⟩
  · exact x_nor hx (br_f (by decide) (y_nor hx (br_t (by trivial) ⟨rfl, I2⟩)))
  · have hR := hI.2.2 r hr
    have e0 : (nI (r * 2)).toNatClampNeg = r * 2 := nI_clamp (by omega)
    have e1 : vp_in (nI (r * 2)) 6 := vp_in_nI (by omega) (by decide)
    refine x_run hr (br_t (by trivial) ?_)
    simp only [rf_m2, nI_1, e0, e1, rf_qc hr (show 1 < 2 by decide), rf_q6 hr (show 1 < 2 by decide), true_and, forall_eq]
    refine y_run hr (br_f (by decide) ?_)
    simp only [rf_m24, forall_eq]
    by_cases z : XS r = 0
    · obtain ⟨_, _, _, _, _, _, ⟨a7, a8, a9, a10⟩, n, hn, hN⟩ := rr_z0 hR z
      refine ⟨n + 1, yu_0 hr (by rw [← hR.1]; exact z) hN hn ?_ n 0 (by omega)⟩
      rw [a7, a8, a9, a10]
      exact ⟨by decide, I2⟩
    · obtain ⟨s, e, v, n, t, h⟩ := rr_as hR z
      have q := h.2.2.2.1.2.2.2.2.2.2.2
      have z' : ¬ Ys r = 0 := by rw [← hR.1]; exact z
      obtain ⟨d1, d2, d3⟩ := q.2.2.1 0 (by decide)
      obtain ⟨f1, f2, f3⟩ := q.2.2.1 1 (by decide)
      rw [Nat.add_zero] at d1 d2
      have w := yu_1 (Ln := Ln) (Lk := Lk) (Tn := Tn) (Op := Op) (Tg := Tg) (Od := Od) (Yp := Yp) (Ye := Ye) (Yq := Yq) (Yr := Yr) (Yw := Yw) (Yv := Yv) (pr := fun r' => r' = XC (r * 2) + XC (r * 2 + 1) - XD (r * 2) - XD (r * 2 + 1) ∧ i_Rel (k + 4) (Ln, Lk, Tn, Op, Tg, Od, XS, XP, XE, XV, XW, XR, XQ, XZ, XC, XD) (Ln, Lk, Tn, Op, Tg, Od, Ys, Yp, Ye, Yq, Yr, Yw, Yv, Yn, Yh, Yz, Yd)) hr z' q ⟨?_, I2⟩ n 0 (by omega)
      · simp only [sg_n, Nat.zero_sub, Nat.add_zero] at w
        exact ⟨n + 1, w⟩
      · rw [d1, d2, f1, f2, nI_add, pk_sub (by omega), pk_sub (by omega)]
        exact congrArg nI (by omega)
