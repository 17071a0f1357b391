section
variable {Ln Lk Tn : Int32} {Op Tg Od Ys Yp Ye Yq Yr Yw Yv Yn Yh Yz Yd : Nat → Int32} {post : SY → Prop} {po : Int32 → SY → Prop} {pr : Int32 → Prop} {r p g k o e v len : Nat}
theorem y_end {w : Int32} (hr : r < 3) (h : post (Ln, Lk, Tn, Op, Tg, Od, upd Ys r 4, Yp, Ye, Yq, upd Yr r w, Yw, Yv, Yn, Yh, Yz, Yd)) : wpY_end post (Ln, Lk, Tn, Op, Tg, Od, Ys, Yp, Ye, Yq, Yr, Yw, Yv, Yn, Yh, Yz, Yd) (nI r) w := by
  simp only [wpY_end, rf_rc hr, rf_r3 hr, true_and, forall_eq]
  exact h
theorem y_past0 {w : Int32} (hr : r < 3) (hP : Yp r = nI p) (hV : Yv r = nI v) (h : post (Ln, Lk, Tn, Op, Tg, Od, Ys, upd Yp r (nI (p + 1)), upd Ye r 0, Yq, Yr, Yw, upd Yv r (nI (v + 1)), Yn, Yh, Yz, Yd)) : wpY_pastWait post (Ln, Lk, Tn, Op, Tg, Od, Ys, Yp, Ye, Yq, Yr, Yw, Yv, Yn, Yh, Yz, Yd) (nI r) 0 w := by
  simp only [wpY_pastWait, wY_pastWait_25, rf_rc hr, rf_r3 hr, hP, hV, nI_1, true_and, forall_eq]
  exact br_t (by trivial) h
theorem y_past1 {w : Int32} (hr : r < 3) (hP : Yp r = nI p) (hp : p < 16) (hG : Tg p = nI g) (hg : g < 4) (hV : Yv r = nI v) (h : post (Ln, Lk, Tn, Op, Tg, Od, Ys, upd Yp r (nI (p + 1)), upd Ye r 0, upd Yq (r * 4 + g) w, Yr, Yw, upd Yv r (nI (v + 1)), Yn, Yh, Yz, Yd)) : wpY_pastWait post (Ln, Lk, Tn, Op, Tg, Od, Ys, Yp, Ye, Yq, Yr, Yw, Yv, Yn, Yh, Yz, Yd) (nI r) 1 w := by
  simp only [wpY_pastWait, wY_pastWait_25, rf_rc hr, rf_r3 hr, hP, hV, rf_pc hp, rf_p16 hp, hG, rf_m4, nI_add, rf_tc hr hg, rf_t12 hr hg, nI_1, true_and, forall_eq]
  exact br_f (by decide) h
theorem y_plain (hr : r < 3) (hP : Yp r = nI p) (hp : p < 16) (ho : o ≤ 4) (hO : Op p = nI o) (hG : Tg p = nI g) (hg : g < 4) (hB : Od p &&& 3 = nI k) (hk : k < 4)
    (h : post (Ln, Lk, Tn, Op, Tg, Od, Ys, upd Yp r (lf_P o p (Yq (r * 4 + g)) (Od p)), Ye, lf_Q o Yq (r * 4 + g) (r * 4 + k) (Od p), Yr, Yw, Yv, Yn, Yh, Yz, Yd)) : wpY_plain post (Ln, Lk, Tn, Op, Tg, Od, Ys, Yp, Ye, Yq, Yr, Yw, Yv, Yn, Yh, Yz, Yd) (nI r) := by
  have ho2 : o = 0 ∨ o = 1 ∨ o = 2 ∨ o = 3 ∨ o = 4 := by omega
  rcases ho2 with rfl | rfl | rfl | rfl | rfl
  · have hO : Op p = 0 := hO
    simp only [wpY_plain, wY_plain_67, wY_plain_88, wY_plain_109, rf_rc hr, rf_r3 hr, hP, rf_pc hp, rf_p16 hp, hO, hG, hB, rf_m4, nI_add, nI_1, rf_tc hr hg, rf_t12 hr hg, rf_tc hr hk, rf_t12 hr hk, rf_uu, true_and, forall_eq]
    exact br_t (by trivial) (br_f (by decide) (br_f (by decide) (br_f (by decide) (br_f (by decide) h))))
  · have hO : Op p = 1 := hO
    simp only [wpY_plain, wY_plain_67, wY_plain_88, wY_plain_109, rf_rc hr, rf_r3 hr, hP, rf_pc hp, rf_p16 hp, hO, hG, hB, rf_m4, nI_add, nI_1, rf_tc hr hg, rf_t12 hr hg, rf_tc hr hk, rf_t12 hr hk, rf_uu, true_and, forall_eq]
    exact br_f (by decide) (br_t (by trivial) (br_f (by decide) (br_f (by decide) (br_f (by decide) h))))
  · have hO : Op p = 2 := hO
    simp only [wpY_plain, wY_plain_67, wY_plain_88, wY_plain_109, rf_rc hr, rf_r3 hr, hP, rf_pc hp, rf_p16 hp, hO, hG, hB, rf_m4, nI_add, nI_1, rf_tc hr hg, rf_t12 hr hg, rf_tc hr hk, rf_t12 hr hk, rf_uu, true_and, forall_eq]
    exact br_f (by decide) (br_f (by decide) (br_t (by trivial) (br_f (by decide) (br_f (by decide) h))))
  · have hO : Op p = 3 := hO
    simp only [wpY_plain, wY_plain_67, wY_plain_88, wY_plain_109, rf_rc hr, rf_r3 hr, hP, rf_pc hp, rf_p16 hp, hO, hG, hB, rf_m4, nI_add, nI_1, rf_tc hr hg, rf_t12 hr hg, rf_tc hr hk, rf_t12 hr hk, rf_uu, true_and, forall_eq]
    exact br_f (by decide) (br_f (by decide) (br_f (by decide) (br_t (by trivial) h)))
  · have hO : Op p = 4 := hO
    simp only [wpY_plain, wY_plain_67, wY_plain_88, wY_plain_109, rf_rc hr, rf_r3 hr, hP, rf_pc hp, rf_p16 hp, hO, hG, hB, rf_m4, nI_add, nI_1, rf_tc hr hg, rf_t12 hr hg, rf_tc hr hk, rf_t12 hr hk, rf_uu, true_and, forall_eq]
    by_cases hq : Yq (r * 4 + g) ≤ 0
    · have e : lf_P 4 p (Yq (r * 4 + g)) (Od p) = nI (p + 1) := if_pos hq
      rw [e] at h
      exact br_f (by decide) (br_f (by decide) (br_f (by decide) (br_f (by decide) (br_t (by trivial) (br_t hq h)))))
    · have e : lf_P 4 p (Yq (r * 4 + g)) (Od p) = Od p := if_neg hq
      rw [e] at h
      exact br_f (by decide) (br_f (by decide) (br_f (by decide) (br_f (by decide) (br_t (by trivial) (br_f hq h)))))
theorem ys_scan {XZ XC XD : Nat → Int32} {n c : Nat} {t : Nat → Nat} (hr : r < 3) (h : sg_R r XZ XC XD Yn Yh Yz Yd n t) (hc : c < 2) : ∀ d i, i + d = n → sg_n Yh (r * 24) (nI c) i ≤ t c →
    ∃ w : Int32, ((t c = sg_n Yh (r * 24) (nI c) n ∧ w = -1) ∨ ∃ i0, i0 < n ∧ w = nI (r * 24 + i0) ∧ Yh (r * 24 + i0) = nI c ∧ sg_n Yh (r * 24) (nI c) i0 = t c) ∧
      ∀ pr : Int32 → Prop, pr w → wY_firstSignal_5 pr (nI r) (nI c) Ln Lk Tn Op Tg Od Ys Yp Ye Yq Yr Yw Yv Yn Yh Yz Yd (d + 1) (nI (r * 24 + i)) := by
  obtain ⟨h1, h2, h3, h4⟩ := h
  intro d
  induction d with
  | zero =>
    intro i hi hs
    have : i = n := by omega
    subst this
    refine ⟨-1, Or.inl ⟨by have := (h3 c hc).2.2; omega, rfl⟩, fun pr hp => ?_⟩
    simp only [wY_firstSignal_5, rf_rc hr, rf_r3 hr, h2, rf_m24, nI_add, true_and]
    exact br_t (Int32.le_refl _) hp
  | succ d ih =>
    intro i hi hs
    have hin : i < n := by omega
    obtain ⟨b, hb, b1, b2, b3⟩ := h4 i hin
    by_cases e : b = c
    · subst e
      by_cases hq : sg_n Yh (r * 24) (nI b) i < t b
      · rw [if_pos hq] at b3
        obtain ⟨w, hw, hY⟩ := ih (i + 1) (by omega) (by rw [sg_y b1]; omega)
        refine ⟨w, hw, fun pr hp => ?_⟩
        rw [wY_firstSignal_5]
        simp only [rf_rc hr, rf_r3 hr, h2, rf_m24, nI_add, rf_yc hr (show i < 24 by omega), rf_y72 hr (show i < 24 by omega), b1, b3, nI_1, true_and, forall_eq]
        exact br_f (nI_ge (by omega) (by omega)) (br_t (by trivial) (br_f (by decide) (hY pr hp)))
      · rw [if_neg hq] at b3
        refine ⟨nI (r * 24 + i), Or.inr ⟨i, hin, rfl, b1, by omega⟩, fun pr hp => ?_⟩
        rw [wY_firstSignal_5]
        simp only [rf_rc hr, rf_r3 hr, h2, rf_m24, nI_add, rf_yc hr (show i < 24 by omega), rf_y72 hr (show i < 24 by omega), b1, b3, nI_1, true_and, forall_eq]
        exact br_f (nI_ge (by omega) (by omega)) (br_t (by trivial) (br_t (by trivial) hp))
    · have hne : ¬ Yh (r * 24 + i) = nI c := by rw [b1]; exact fun z => e (sg_cc hb hc z)
      obtain ⟨w, hw, hY⟩ := ih (i + 1) (by omega) (by rw [sg_no hne]; exact hs)
      refine ⟨w, hw, fun pr hp => ?_⟩
      rw [wY_firstSignal_5]
      simp only [rf_rc hr, rf_r3 hr, h2, rf_m24, nI_add, rf_yc hr (show i < 24 by omega), rf_y72 hr (show i < 24 by omega), nI_1, true_and, forall_eq]
      exact br_f (nI_ge (by omega) (by omega)) (br_f hne (hY pr hp))
theorem ys_first {XZ XC XD : Nat → Int32} {n c : Nat} {t : Nat → Nat} (hr : r < 3) (h : sg_R r XZ XC XD Yn Yh Yz Yd n t) (hc : c < 2) :
    ∃ w : Int32, ((t c = sg_n Yh (r * 24) (nI c) n ∧ w = -1) ∨ ∃ i0, i0 < n ∧ w = nI (r * 24 + i0) ∧ Yh (r * 24 + i0) = nI c ∧ sg_n Yh (r * 24) (nI c) i0 = t c) ∧
      ∀ pr : Int32 → Prop, pr w → wpY_firstSignal pr (Ln, Lk, Tn, Op, Tg, Od, Ys, Yp, Ye, Yq, Yr, Yw, Yv, Yn, Yh, Yz, Yd) (nI r) (nI c) := by
  obtain ⟨w, hw, hY⟩ := ys_scan (Ln := Ln) (Lk := Lk) (Tn := Tn) (Op := Op) (Tg := Tg) (Od := Od) (Ys := Ys) (Yp := Yp) (Ye := Ye) (Yq := Yq) (Yr := Yr) (Yw := Yw) (Yv := Yv) hr h hc n 0 (by omega) (Nat.zero_le _)
  refine ⟨w, hw, fun pr hp => ?_⟩
  simp only [wpY_firstSignal, rf_m24, forall_eq]
  exact ⟨n + 1, hY pr hp⟩
theorem y_w8 (hr : r < 3) (hP : Yp r = nI p) (hp : p < 16) (hO : Op p = 8) (hG : Tg p = nI g) (hg : g < 4) (h : po 0 (Ln, Lk, Tn, Op, Tg, Od, upd Ys r 4, Yp, Ye, Yq, upd Yr r (Yq (r * 4 + g)), Yw, Yv, Yn, Yh, Yz, Yd)) : wpY_waits po (Ln, Lk, Tn, Op, Tg, Od, Ys, Yp, Ye, Yq, Yr, Yw, Yv, Yn, Yh, Yz, Yd) (nI r) := by
  simp only [wpY_waits, rf_rc hr, rf_r3 hr, hP, rf_pc hp, rf_p16 hp, hO, hG, rf_m4, nI_add, rf_tc hr hg, rf_t12 hr hg, true_and, forall_eq]
  refine br_t (by trivial) (y_end hr ?_)
  simp only [wY_waits_40, wY_waits_52, wY_waits_112]
  exact br_f (by decide) (br_f (by decide) (br_f (by decide) h))
theorem y_w5 (hr : r < 3) (hP : Yp r = nI p) (hp : p < 16) (hO : Op p = 5) (h : po 0 (Ln, Lk, Tn, Op, Tg, Od, upd Ys r 1, Yp, Ye, Yq, Yr, Yw, Yv, Yn, Yh, Yz, Yd)) : wpY_waits po (Ln, Lk, Tn, Op, Tg, Od, Ys, Yp, Ye, Yq, Yr, Yw, Yv, Yn, Yh, Yz, Yd) (nI r) := by
  simp only [wpY_waits, rf_rc hr, rf_r3 hr, hP, rf_pc hp, rf_p16 hp, hO, true_and, forall_eq]
  refine br_f (by decide) ?_
  simp only [wY_waits_40, wY_waits_52, wY_waits_112, rf_rc hr, rf_r3 hr, true_and, forall_eq]
  exact br_t (by trivial) (br_f (by decide) (br_f (by decide) h))
theorem y_w6 (hr : r < 3) (hP : Yp r = nI p) (hp : p < 16) (hO : Op p = 6) (h : po 0 (Ln, Lk, Tn, Op, Tg, Od, upd Ys r 2, Yp, Ye, Yq, Yr, upd Yw r (Tn + lf_S (Od p)), Yv, Yn, Yh, Yz, Yd)) : wpY_waits po (Ln, Lk, Tn, Op, Tg, Od, Ys, Yp, Ye, Yq, Yr, Yw, Yv, Yn, Yh, Yz, Yd) (nI r) := by
  simp only [wpY_waits, rf_rc hr, rf_r3 hr, hP, rf_pc hp, rf_p16 hp, hO, true_and, forall_eq]
  refine br_f (by decide) ?_
  unfold lf_S at h
  simp only [wY_waits_40, wY_waits_52, wY_waits_110, wY_waits_112, rf_rc hr, rf_r3 hr, rf_pc hp, rf_p16 hp, true_and, forall_eq]
  refine br_f (by decide) (br_t (by trivial) ?_)
  by_cases h1 : 1 ≤ Od p
  · rw [if_pos h1] at h
    by_cases h2 : Od p ≤ 100
    · rw [if_pos h2] at h
      exact br_t h1 (br_t h2 (br_f (by decide) h))
    · rw [if_neg h2] at h
      exact br_t h1 (br_f h2 (br_f (by decide) h))
  · rw [if_neg h1] at h
    exact br_f h1 (br_f (by decide) h)
theorem y_w7w {c : Nat} (hr : r < 3) (hP : Yp r = nI p) (hp : p < 16) (hO : Op p = 7) (hB : Od p &&& 1 = nI c) (hF : ∀ pr : Int32 → Prop, pr (-1) → wpY_firstSignal pr (Ln, Lk, Tn, Op, Tg, Od, Ys, Yp, Ye, Yq, Yr, Yw, Yv, Yn, Yh, Yz, Yd) (nI r) (nI c)) (h : po 0 (Ln, Lk, Tn, Op, Tg, Od, upd Ys r 3, Yp, Ye, Yq, Yr, Yw, Yv, Yn, Yh, Yz, Yd)) : wpY_waits po (Ln, Lk, Tn, Op, Tg, Od, Ys, Yp, Ye, Yq, Yr, Yw, Yv, Yn, Yh, Yz, Yd) (nI r) := by
  simp only [wpY_waits, rf_rc hr, rf_r3 hr, hP, rf_pc hp, rf_p16 hp, hO, true_and, forall_eq]
  refine br_f (by decide) ?_
  unfold wY_waits_40
  refine br_f (by decide) ?_
  unfold wY_waits_52
  refine br_f (by decide) ?_
  unfold wY_waits_112
  refine br_t (by trivial) ⟨rf_p16 hp, ?_⟩
  rw [rf_pc hp, hB]
  apply hF
  simp only [rf_rc hr, rf_r3 hr, true_and, forall_eq]
  exact br_f (by decide) h
theorem y_b1 : vp_nar .boolean 1 = 1 := by decide
theorem y_b0 : vp_nar .boolean 0 = 0 := by decide
theorem y_w7t {c i : Nat} (hr : r < 3) (hP : Yp r = nI p) (hp : p < 16) (hO : Op p = 7) (hG : Tg p = nI g) (hg : g < 4) (hB : Od p &&& 1 = nI c) (hi : i < 24) (hV : Yv r = nI v) (hF : ∀ pr : Int32 → Prop, pr (nI (r * 24 + i)) → wpY_firstSignal pr (Ln, Lk, Tn, Op, Tg, Od, Ys, Yp, Ye, Yq, Yr, Yw, Yv, Yn, Yh, Yz, Yd) (nI r) (nI c))
    (h : po 1 (Ln, Lk, Tn, Op, Tg, Od, upd Ys r 3, upd Yp r (nI (p + 1)), upd Ye r 0, upd Yq (r * 4 + g) (Yz (r * 24 + i)), Yr, Yw, upd Yv r (nI (v + 1)), Yn, Yh, Yz, upd Yd (r * 24 + i) 1)) : wpY_waits po (Ln, Lk, Tn, Op, Tg, Od, Ys, Yp, Ye, Yq, Yr, Yw, Yv, Yn, Yh, Yz, Yd) (nI r) := by
  simp only [wpY_waits, rf_rc hr, rf_r3 hr, hP, rf_pc hp, rf_p16 hp, hO, true_and, forall_eq]
  refine br_f (by decide) ?_
  unfold wY_waits_40
  refine br_f (by decide) ?_
  unfold wY_waits_52
  refine br_f (by decide) ?_
  unfold wY_waits_112
  refine br_t (by trivial) ⟨rf_p16 hp, ?_⟩
  rw [rf_pc hp, hB]
  apply hF
  simp only [rf_rc hr, rf_r3 hr, rf_yc hr hi, rf_y72 hr hi, y_b1, true_and, forall_eq]
  exact br_t (nI_pos' (by omega)) (y_past1 hr hP hp hG hg hV h)
theorem yg_exit {n i : Nat} (h : post (Ln, Lk, Tn, Op, Tg, Od, Ys, Yp, Ye, Yq, Yr, Yw, Yv, Yn, Yh, Yz, Yd)) : wY_goOn_4 post (nI r) (n + 1) 0 (nI i) Ln Lk Tn Op Tg Od Ys Yp Ye Yq Yr Yw Yv Yn Yh Yz Yd := by
  simp only [wY_goOn_4]
  exact br_c (fun _ => h) (fun _ => br_t (by trivial) h)
theorem yg_84 {J : Int32 → Int32 → Int32 → Int32 → Int32 → (Nat → Int32) → (Nat → Int32) → (Nat → Int32) → (Nat → Int32) → (Nat → Int32) → (Nat → Int32) → (Nat → Int32) → (Nat → Int32) → (Nat → Int32) → (Nat → Int32) → (Nat → Int32) → (Nat → Int32) → (Nat → Int32) → (Nat → Int32) → Prop} {i : Nat} (hr : r < 3)
    (h : J 0 (nI (i + 1)) Ln Lk Tn Op Tg Od (upd Ys r 4) Yp Ye Yq (upd Yr r 0) Yw Yv Yn Yh Yz Yd) : wY_goOn_84 post J (nI r) (nI i) Ln Lk Tn Op Tg Od Ys Yp Ye Yq Yr Yw Yv Yn Yh Yz Yd := by
  simp only [wY_goOn_84, nI_1, forall_eq]
  exact y_end hr h
theorem yg_out {n i : Nat} (hr : r < 3) (hi : i < 3000) (ho : Yp r < 0 ∨ ¬ Yp r < Ln) (h : wY_goOn_4 post (nI r) n 0 (nI (i + 1)) Ln Lk Tn Op Tg Od (upd Ys r 4) Yp Ye Yq (upd Yr r 0) Yw Yv Yn Yh Yz Yd) : wY_goOn_4 post (nI r) (n + 1) 1 (nI i) Ln Lk Tn Op Tg Od Ys Yp Ye Yq Yr Yw Yv Yn Yh Yz Yd := by
  simp only [wY_goOn_4, wY_goOn_41, rf_rc hr, rf_r3 hr, true_and]
  refine br_f (nI_ge (b := 3000) hi (by decide)) (br_f (by decide) ?_)
  by_cases h0 : Yp r < 0
  · exact br_t h0 (br_t (by trivial) (yg_84 hr h))
  · have h1 : ¬ Yp r < Ln := by rcases ho with z | z; exact absurd z h0; exact z
    exact br_f h0 (br_t (Int32.not_lt.mp h1) (br_t (by trivial) (yg_84 hr h)))
theorem yg_60 {n i : Nat} (hr : r < 3) (hi : i < 3000) (hE : Ye r = nI 60) (h : wY_goOn_4 post (nI r) n 0 (nI (i + 1)) Ln Lk Tn Op Tg Od (upd Ys r 4) Yp Ye Yq (upd Yr r 0) Yw Yv Yn Yh Yz Yd) : wY_goOn_4 post (nI r) (n + 1) 1 (nI i) Ln Lk Tn Op Tg Od Ys Yp Ye Yq Yr Yw Yv Yn Yh Yz Yd := by
  simp only [wY_goOn_4, wY_goOn_41, rf_rc hr, rf_r3 hr, true_and]
  refine br_f (nI_ge (b := 3000) hi (by decide)) (br_f (by decide) ?_)
  refine br_c (fun _ => br_t (by trivial) (yg_84 hr h)) (fun _ => br_c (fun _ => br_t (by trivial) (yg_84 hr h)) (fun _ => br_f (by decide) ?_))
  simp only [rf_rc hr, rf_r3 hr, true_and]
  exact br_t hE (yg_84 hr h)
theorem yg_in {n i : Nat} (hr : r < 3) (hi : i < 3000) (hL : Ln = nI len) (hl : len ≤ 16) (hP : Yp r = nI p) (hp : p < len) (h : wY_goOn_42 post (wY_goOn_4 post (nI r) n) (nI r) 1 (nI i) 1 Ln Lk Tn Op Tg Od Ys Yp Ye Yq Yr Yw Yv Yn Yh Yz Yd) : wY_goOn_4 post (nI r) (n + 1) 1 (nI i) Ln Lk Tn Op Tg Od Ys Yp Ye Yq Yr Yw Yv Yn Yh Yz Yd := by
  rw [wY_goOn_4]
  simp only [rf_rc hr, rf_r3 hr, true_and]
  refine br_f (nI_ge (b := 3000) hi (by decide)) (br_f (by decide) (br_f ?_ (br_f ?_ h)))
  · rw [hP]; exact nI_pos (by omega)
  · rw [hP, hL]; exact nI_ge hp (by omega)
end
