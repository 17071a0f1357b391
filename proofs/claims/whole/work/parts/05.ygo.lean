section
variable {Ln Lk Tn : Int32} {Op Tg Od Ys Yp Ye Yq Yr Yw Yv Yn Yh Yz Yd : Nat → Int32} {post : SY → Prop} {r p g k o e v len : Nat}
theorem y_isW {pr : Int32 → Prop} (hp : p < 16) (hO : Op p = nI o) (h5 : 5 ≤ o) (h7 : o ≤ 7) (h : pr 1) : wpY_isWait pr (Ln, Lk, Tn, Op, Tg, Od, Ys, Yp, Ye, Yq, Yr, Yw, Yv, Yn, Yh, Yz, Yd) (nI p) := by
  simp only [wpY_isWait, rf_pc hp, rf_p16 hp, hO, true_and]
  exact br_f (nI_nlt (b := 5) h5 (by omega)) (br_f (nI_nlt (a := 7) h7 (by decide)) h)
theorem y_isP {pr : Int32 → Prop} (hp : p < 16) (hO : Op p = nI o) (h4 : o ≤ 4) (h : pr 0) : wpY_isWait pr (Ln, Lk, Tn, Op, Tg, Od, Ys, Yp, Ye, Yq, Yr, Yw, Yv, Yn, Yh, Yz, Yd) (nI p) := by
  simp only [wpY_isWait, rf_pc hp, rf_p16 hp, hO, true_and]
  exact br_t (nI_lt (b := 5) (by omega) (by decide)) h
theorem y_is8 {pr : Int32 → Prop} (hp : p < 16) (hO : Op p = 8) (h : pr 0) : wpY_isWait pr (Ln, Lk, Tn, Op, Tg, Od, Ys, Yp, Ye, Yq, Yr, Yw, Yv, Yn, Yh, Yz, Yd) (nI p) := by
  simp only [wpY_isWait, rf_pc hp, rf_p16 hp, hO, true_and]
  exact br_f (by decide) (br_t (by decide) h)
theorem y_n60 (he : e < 60) (hE : Ye r = nI e) : ¬ Ye r = 60 := by
  rw [hE]
  exact fun z => absurd ((nI_eq (b := 60) (by omega) (by decide)).mp z) (by omega)
theorem y_n40 (he : v < 40) (hE : Yv r = nI v) : ¬ Yv r = 40 := by
  rw [hE]
  exact fun z => absurd ((nI_eq (b := 40) (by omega) (by decide)).mp z) (by omega)
theorem yg_plain {n i : Nat} (hr : r < 3) (hi : i < 3000) (hL : Ln = nI len) (hl : len ≤ 16) (hP : Yp r = nI p) (hp : p < len) (ho : o ≤ 4) (hO : Op p = nI o) (hG : Tg p = nI g) (hg : g < 4) (hB : Od p &&& 3 = nI k) (hk : k < 4) (hE : Ye r = nI e) (he : e < 60)
    (h : wY_goOn_4 post (nI r) n 1 (nI (i + 1)) Ln Lk Tn Op Tg Od Ys (upd Yp r (lf_P o p (Yq (r * 4 + g)) (Od p))) (upd Ye r (nI (e + 1))) (lf_Q o Yq (r * 4 + g) (r * 4 + k) (Od p)) Yr Yw Yv Yn Yh Yz Yd) : wY_goOn_4 post (nI r) (n + 1) 1 (nI i) Ln Lk Tn Op Tg Od Ys Yp Ye Yq Yr Yw Yv Yn Yh Yz Yd := by
  have hp16 : p < 16 := by omega
  refine yg_in hr hi hL hl hP hp ?_
  unfold wY_goOn_42
  simp only [rf_rc hr, rf_r3 hr, true_and]
  refine br_f (by decide) (br_f (y_n60 he hE) ?_)
  rw [hP]
  refine y_isP hp16 hO ho ?_
  refine br_t (by trivial) ?_
  simp only [wY_goOn_95, rf_rc hr, rf_r3 hr, hP, rf_pc hp16, rf_p16 hp16, hO, hE, nI_1, true_and, forall_eq]
  refine br_t (nI_lt (b := 5) (by omega) (by decide)) ?_
  exact y_plain hr hP hp16 ho hO hG hg hB hk h
theorem yg_8 {n i : Nat} (hr : r < 3) (hi : i < 3000) (hL : Ln = nI len) (hl : len ≤ 16) (hP : Yp r = nI p) (hp : p < len) (hO : Op p = 8) (hG : Tg p = nI g) (hg : g < 4) (hE : Ye r = nI e) (he : e < 60)
    (h : wY_goOn_4 post (nI r) n 0 (nI (i + 1)) Ln Lk Tn Op Tg Od (upd Ys r 4) Yp Ye Yq (upd Yr r (Yq (r * 4 + g))) Yw Yv Yn Yh Yz Yd) : wY_goOn_4 post (nI r) (n + 1) 1 (nI i) Ln Lk Tn Op Tg Od Ys Yp Ye Yq Yr Yw Yv Yn Yh Yz Yd := by
  have hp16 : p < 16 := by omega
  refine yg_in hr hi hL hl hP hp ?_
  unfold wY_goOn_42
  simp only [rf_rc hr, rf_r3 hr, true_and]
  refine br_f (by decide) (br_f (y_n60 he hE) ?_)
  rw [hP]
  refine y_is8 hp16 hO ?_
  refine br_t (by trivial) ?_
  simp only [wY_goOn_95, rf_rc hr, rf_r3 hr, hP, rf_pc hp16, rf_p16 hp16, hO, nI_1, true_and, forall_eq]
  refine br_f (by decide) ?_
  exact y_w8 hr hP hp16 hO hG hg h
theorem yg_full {n i : Nat} (hr : r < 3) (hi : i < 3000) (hL : Ln = nI len) (hl : len ≤ 16) (hP : Yp r = nI p) (hp : p < len) (h5 : 5 ≤ o) (h7 : o ≤ 7) (hO : Op p = nI o) (hE : Ye r = nI e) (he : e < 60) (hV : Yv r = nI 40)
    (h : wY_goOn_4 post (nI r) n 0 (nI (i + 1)) Ln Lk Tn Op Tg Od (upd Ys r 4) Yp Ye Yq (upd Yr r 0) Yw Yv Yn Yh Yz Yd) : wY_goOn_4 post (nI r) (n + 1) 1 (nI i) Ln Lk Tn Op Tg Od Ys Yp Ye Yq Yr Yw Yv Yn Yh Yz Yd := by
  have hp16 : p < 16 := by omega
  refine yg_in hr hi hL hl hP hp ?_
  unfold wY_goOn_42
  simp only [rf_rc hr, rf_r3 hr, true_and]
  refine br_f (by decide) (br_f (y_n60 he hE) ?_)
  rw [hP]
  refine y_isW hp16 hO h5 h7 ?_
  exact br_f (by decide) (br_t hV (yg_84 hr h))
theorem yg_w {n i : Nat} {w : Int32} {u : SY} (hr : r < 3) (hi : i < 3000) (hL : Ln = nI len) (hl : len ≤ 16) (hP : Yp r = nI p) (hp : p < len) (h5 : 5 ≤ o) (h7 : o ≤ 7) (hO : Op p = nI o) (hE : Ye r = nI e) (he : e < 60) (hV : Yv r = nI v) (hv : v < 40)
    (hu : ∀ q : Int32 → SY → Prop, q w u → wpY_waits q (Ln, Lk, Tn, Op, Tg, Od, Ys, Yp, Ye, Yq, Yr, Yw, Yv, Yn, Yh, Yz, Yd) (nI r))
    (h : wY_goOn_4 post (nI r) n w (nI (i + 1)) u.1 u.2.1 u.2.2.1 u.2.2.2.1 u.2.2.2.2.1 u.2.2.2.2.2.1 u.2.2.2.2.2.2.1 u.2.2.2.2.2.2.2.1 u.2.2.2.2.2.2.2.2.1 u.2.2.2.2.2.2.2.2.2.1 u.2.2.2.2.2.2.2.2.2.2.1 u.2.2.2.2.2.2.2.2.2.2.2.1 u.2.2.2.2.2.2.2.2.2.2.2.2.1 u.2.2.2.2.2.2.2.2.2.2.2.2.2.1 u.2.2.2.2.2.2.2.2.2.2.2.2.2.2.1 u.2.2.2.2.2.2.2.2.2.2.2.2.2.2.2.1 u.2.2.2.2.2.2.2.2.2.2.2.2.2.2.2.2) : wY_goOn_4 post (nI r) (n + 1) 1 (nI i) Ln Lk Tn Op Tg Od Ys Yp Ye Yq Yr Yw Yv Yn Yh Yz Yd := by
  have hp16 : p < 16 := by omega
  refine yg_in hr hi hL hl hP hp ?_
  unfold wY_goOn_42
  simp only [rf_rc hr, rf_r3 hr, true_and]
  refine br_f (by decide) (br_f (y_n60 he hE) ?_)
  rw [hP]
  refine y_isW hp16 hO h5 h7 ?_
  refine br_f (by decide) (br_f (y_n40 hv hV) ?_)
  simp only [wY_goOn_95, rf_rc hr, rf_r3 hr, hP, rf_pc hp16, rf_p16 hp16, hO, nI_1, true_and, forall_eq]
  refine br_f (nI_nlt (b := 5) h5 (by omega)) ?_
  apply hu
  exact h
end
