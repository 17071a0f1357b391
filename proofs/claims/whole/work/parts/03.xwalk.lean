def lf_Q (o : Nat) (Q : Nat → Int32) (t s : Nat) (b : Int32) : Nat → Int32 :=
  if o = 0 then upd Q t b else if o = 1 then upd Q t (Q t + Q s) else if o = 2 then upd Q t (Q t - Q s) else Q
def lf_P (o p : Nat) (q b : Int32) : Int32 :=
  if o = 3 then b else if o = 4 then (if q ≤ 0 then nI (p + 1) else b) else nI (p + 1)
def lf_S (b : Int32) : Int32 := if 1 ≤ b then (if b ≤ 100 then b else 100) else 1
section
variable {Ln Lk Tn : Int32} {Op Tg Od XS XP XE XV XW XR XQ XZ XC XD : Nat → Int32} {post : SX → Prop} {pr : Int32 → Prop} {r p g k o e v len : Nat}
theorem x_end {w : Int32} (hr : r < 3) (h : post (Ln, Lk, Tn, Op, Tg, Od, upd XS r 4, XP, XE, XV, XW, upd XR r w, XQ, XZ, XC, XD)) : wpX_endRun post (Ln, Lk, Tn, Op, Tg, Od, XS, XP, XE, XV, XW, XR, XQ, XZ, XC, XD) (nI r) w := by
  simp only [wpX_endRun, rf_rc hr, rf_r3 hr, true_and, forall_eq]
  exact h
theorem x_tgt (hr : r < 3) (hP : XP r = nI p) (hp : p < 16) (hG : Tg p = nI g) (h : pr (nI (r * 4 + g))) : wpX_targetRegister pr (Ln, Lk, Tn, Op, Tg, Od, XS, XP, XE, XV, XW, XR, XQ, XZ, XC, XD) (nI r) := by
  simp only [wpX_targetRegister, rf_rc hr, rf_r3 hr, hP, rf_pc hp, rf_p16 hp, hG, rf_m4, nI_add, true_and]
  exact h
theorem x_que (hr : r < 3) (hP : XP r = nI p) (hp : p < 16) (hG : Od p &&& 1 = nI g) (h : pr (nI (r * 2 + g))) : wpX_awaitedQueue pr (Ln, Lk, Tn, Op, Tg, Od, XS, XP, XE, XV, XW, XR, XQ, XZ, XC, XD) (nI r) := by
  simp only [wpX_awaitedQueue, rf_rc hr, rf_r3 hr, hP, rf_pc hp, rf_p16 hp, hG, rf_m2, nI_add, true_and]
  exact h
theorem x_slp (hr : r < 3) (hP : XP r = nI p) (hp : p < 16) (h : pr (lf_S (Od p))) : wpX_sleepLength pr (Ln, Lk, Tn, Op, Tg, Od, XS, XP, XE, XV, XW, XR, XQ, XZ, XC, XD) (nI r) := by
  simp only [wpX_sleepLength, rf_rc hr, rf_r3 hr, hP, rf_pc hp, rf_p16 hp, true_and, forall_eq]
  unfold lf_S at h
  by_cases h1 : 1 ≤ Od p
  · rw [if_pos h1] at h
    by_cases h2 : Od p ≤ 100
    · rw [if_pos h2] at h
      exact br_t h1 (br_t h2 h)
    · rw [if_neg h2] at h
      exact br_t h1 (br_f h2 h)
  · rw [if_neg h1] at h
    exact br_f h1 h
theorem x_fin (hr : r < 3) (hP : XP r = nI p) (hV : XV r = nI v) (h : post (Ln, Lk, Tn, Op, Tg, Od, XS, upd XP r (nI (p + 1)), upd XE r 0, upd XV r (nI (v + 1)), XW, XR, XQ, XZ, XC, XD)) : wpX_finishWait post (Ln, Lk, Tn, Op, Tg, Od, XS, XP, XE, XV, XW, XR, XQ, XZ, XC, XD) (nI r) := by
  simp only [wpX_finishWait, rf_rc hr, rf_r3 hr, hP, hV, nI_1, true_and, forall_eq]
  exact h
theorem x_147a {nx : Int32} (hr : r < 3) (hE : XE r = nI e) (he : e < 59) (h : post (Ln, Lk, Tn, Op, Tg, Od, XS, upd XP r nx, upd XE r (nI (e + 1)), XV, XW, XR, XQ, XZ, XC, XD)) : wX_carryOutStep_147 post (nI r) nx Ln Lk Tn Op Tg Od XS XP XE XV XW XR XQ XZ XC XD := by
  simp only [wX_carryOutStep_147, rf_rc hr, rf_r3 hr, hE, nI_1, pk_us, true_and, forall_eq]
  exact br_t (nI_lt (b := 60) (by omega) (by decide)) h
theorem x_147b {nx : Int32} (hr : r < 3) (hE : XE r = nI 59) (h : post (Ln, Lk, Tn, Op, Tg, Od, upd XS r 4, upd XP r nx, upd XE r (nI 60), XV, XW, upd XR r 0, XQ, XZ, XC, XD)) : wX_carryOutStep_147 post (nI r) nx Ln Lk Tn Op Tg Od XS XP XE XV XW XR XQ XZ XC XD := by
  simp only [wX_carryOutStep_147, rf_rc hr, rf_r3 hr, hE, nI_1, pk_us, true_and, forall_eq]
  exact br_f (by decide) (x_end hr h)
theorem x_plain (hr : r < 3) (hP : XP r = nI p) (hp : p < 16) (ho : o ≤ 4) (hO : Op p = nI o) (hG : Tg p = nI g) (hg : g < 4) (hB : Od p &&& 3 = nI k) (hk : k < 4)
    (h : wX_carryOutStep_147 post (nI r) (lf_P o p (XQ (r * 4 + g)) (Od p)) Ln Lk Tn Op Tg Od XS XP XE XV XW XR (lf_Q o XQ (r * 4 + g) (r * 4 + k) (Od p)) XZ XC XD) : wpX_carryOutStep post (Ln, Lk, Tn, Op, Tg, Od, XS, XP, XE, XV, XW, XR, XQ, XZ, XC, XD) (nI r) := by
  simp only [wpX_carryOutStep, rf_rc hr, rf_r3 hr, hP, rf_pc hp, rf_p16 hp, true_and, forall_eq]
  refine x_tgt hr hP hp hG ?_
  have ho2 : o = 0 ∨ o = 1 ∨ o = 2 ∨ o = 3 ∨ o = 4 := by omega
  rcases ho2 with rfl | rfl | rfl | rfl | rfl
  · have hO : Op p = 0 := hO
    simp only [hO, hB, rf_m4, nI_add, nI_1, rf_tc hr hg, rf_t12 hr hg, rf_tc hr hk, rf_t12 hr hk, true_and, forall_eq]
    exact br_f (by decide) (br_f (by decide) (br_t (by trivial) h))
  · have hO : Op p = 1 := hO
    simp only [hO, hB, rf_m4, nI_add, nI_1, rf_tc hr hg, rf_t12 hr hg, rf_tc hr hk, rf_t12 hr hk, true_and, forall_eq]
    exact br_f (by decide) (br_f (by decide) (br_f (by decide) (br_t (by trivial) h)))
  · have hO : Op p = 2 := hO
    simp only [hO, hB, rf_m4, nI_add, nI_1, rf_tc hr hg, rf_t12 hr hg, rf_tc hr hk, rf_t12 hr hk, true_and, forall_eq]
    exact br_f (by decide) (br_f (by decide) (br_f (by decide) (br_f (by decide) (br_t (by trivial) h))))
  · have hO : Op p = 3 := hO
    simp only [hO, hB, rf_m4, nI_add, nI_1, rf_tc hr hg, rf_t12 hr hg, rf_tc hr hk, rf_t12 hr hk, true_and, forall_eq]
    exact br_f (by decide) (br_f (by decide) (br_f (by decide) (br_f (by decide) (br_f (by decide) (br_t (by trivial) h)))))
  · have hO : Op p = 4 := hO
    simp only [hO, hB, rf_m4, nI_add, nI_1, rf_tc hr hg, rf_t12 hr hg, rf_tc hr hk, rf_t12 hr hk, true_and, forall_eq]
    by_cases hq : XQ (r * 4 + g) ≤ 0
    · have e : lf_P 4 p (XQ (r * 4 + g)) (Od p) = nI (p + 1) := if_pos hq
      rw [e] at h
      exact br_f (by decide) (br_t (by decide) (br_t hq h))
    · have e : lf_P 4 p (XQ (r * 4 + g)) (Od p) = Od p := if_neg hq
      rw [e] at h
      exact br_f (by decide) (br_t (by decide) (br_f hq h))
theorem x_take {c t : Nat} (hr : r < 3) (hP : XP r = nI p) (hp : p < 16) (hG : Tg p = nI g) (hg : g < 4) (hB : Od p &&& 1 = nI c) (hc : c < 2) (hV : XV r = nI v) (hD : XD (r * 2 + c) = nI t) (ht : t < 24)
    (h : post (Ln, Lk, Tn, Op, Tg, Od, XS, upd XP r (nI (p + 1)), upd XE r 0, upd XV r (nI (v + 1)), XW, XR, upd XQ (r * 4 + g) (XZ ((r * 2 + c) * 24 + t)), XZ, XC, upd XD (r * 2 + c) (nI (t + 1)))) : wpX_takeSignal post (Ln, Lk, Tn, Op, Tg, Od, XS, XP, XE, XV, XW, XR, XQ, XZ, XC, XD) (nI r) := by
  unfold wpX_takeSignal
  refine x_que hr hP hp hB (x_tgt hr hP hp hG ?_)
  simp only [rf_qc hr hc, rf_q6 hr hc, hD, rf_m24, nI_add, nI_1, rf_zc hr hc ht, rf_z144 hr hc ht, rf_tc hr hg, rf_t12 hr hg, true_and, forall_eq]
  exact x_fin hr hP hV h
theorem x_cwFull (hr : r < 3) (hP : XP r = nI p) (hp : p < 16) (hV : XV r = nI 40) (h : post (Ln, Lk, Tn, Op, Tg, Od, upd XS r 4, XP, XE, XV, XW, upd XR r 0, XQ, XZ, XC, XD)) : wpX_comeToWait post (Ln, Lk, Tn, Op, Tg, Od, XS, XP, XE, XV, XW, XR, XQ, XZ, XC, XD) (nI r) := by
  simp only [wpX_comeToWait, rf_rc hr, rf_r3 hr, hP, rf_pc hp, rf_p16 hp, hV, true_and, forall_eq]
  exact br_f (by decide) (x_end hr h)
theorem x_cw5 (hr : r < 3) (hP : XP r = nI p) (hp : p < 16) (hO : Op p = 5) (hV : XV r = nI v) (hv : v < 40) (h : post (Ln, Lk, Tn, Op, Tg, Od, upd XS r 1, XP, XE, XV, XW, XR, XQ, XZ, XC, XD)) : wpX_comeToWait post (Ln, Lk, Tn, Op, Tg, Od, XS, XP, XE, XV, XW, XR, XQ, XZ, XC, XD) (nI r) := by
  simp only [wpX_comeToWait, rf_rc hr, rf_r3 hr, hP, rf_pc hp, rf_p16 hp, hV, hO, true_and, forall_eq]
  exact br_t (nI_lt (b := 40) hv (by decide)) (br_t (by trivial) h)
theorem x_cw6 (hr : r < 3) (hP : XP r = nI p) (hp : p < 16) (hO : Op p = 6) (hV : XV r = nI v) (hv : v < 40) (h : post (Ln, Lk, Tn, Op, Tg, Od, upd XS r 2, XP, XE, XV, upd XW r (Tn + lf_S (Od p)), XR, XQ, XZ, XC, XD)) : wpX_comeToWait post (Ln, Lk, Tn, Op, Tg, Od, XS, XP, XE, XV, XW, XR, XQ, XZ, XC, XD) (nI r) := by
  simp only [wpX_comeToWait, rf_rc hr, rf_r3 hr, hP, rf_pc hp, rf_p16 hp, hV, hO, true_and, forall_eq]
  exact br_t (nI_lt (b := 40) hv (by decide)) (br_f (by decide) (br_t (by trivial) (x_slp hr hP hp h)))
theorem x_cw7t {c t m : Nat} (hr : r < 3) (hP : XP r = nI p) (hp : p < 16) (hO : Op p = 7) (hG : Tg p = nI g) (hg : g < 4) (hB : Od p &&& 1 = nI c) (hc : c < 2) (hV : XV r = nI v) (hv : v < 40) (hD : XD (r * 2 + c) = nI t) (hC : XC (r * 2 + c) = nI m) (ht : t < m) (hm : m ≤ 24)
    (h : post (Ln, Lk, Tn, Op, Tg, Od, XS, upd XP r (nI (p + 1)), upd XE r 0, upd XV r (nI (v + 1)), XW, XR, upd XQ (r * 4 + g) (XZ ((r * 2 + c) * 24 + t)), XZ, XC, upd XD (r * 2 + c) (nI (t + 1)))) : wpX_comeToWait post (Ln, Lk, Tn, Op, Tg, Od, XS, XP, XE, XV, XW, XR, XQ, XZ, XC, XD) (nI r) := by
  simp only [wpX_comeToWait, wpX_hasSignal, rf_rc hr, rf_r3 hr, hP, rf_pc hp, rf_p16 hp, hV, hO, true_and, forall_eq]
  refine br_t (nI_lt (b := 40) hv (by decide)) (br_f (by decide) (br_f (by decide) (x_que hr hP hp hB ?_)))
  simp only [rf_qc hr hc, rf_q6 hr hc, hD, hC, true_and]
  exact br_f (nI_ge ht (by omega)) (br_f (by decide) (x_take hr hP hp hG hg hB hc hV hD (by omega) h))
theorem x_cw7w {c t : Nat} (hr : r < 3) (hP : XP r = nI p) (hp : p < 16) (hO : Op p = 7) (hB : Od p &&& 1 = nI c) (hc : c < 2) (hV : XV r = nI v) (hv : v < 40) (hD : XD (r * 2 + c) = nI t) (hC : XC (r * 2 + c) = nI t)
    (h : post (Ln, Lk, Tn, Op, Tg, Od, upd XS r 3, XP, XE, XV, XW, XR, XQ, XZ, XC, XD)) : wpX_comeToWait post (Ln, Lk, Tn, Op, Tg, Od, XS, XP, XE, XV, XW, XR, XQ, XZ, XC, XD) (nI r) := by
  simp only [wpX_comeToWait, wpX_hasSignal, rf_rc hr, rf_r3 hr, hP, rf_pc hp, rf_p16 hp, hV, hO, true_and, forall_eq]
  refine br_t (nI_lt (b := 40) hv (by decide)) (br_f (by decide) (br_f (by decide) (x_que hr hP hp hB ?_)))
  simp only [rf_qc hr hc, rf_q6 hr hc, hD, hC, true_and]
  exact br_t (Int32.le_refl _) (br_t (by trivial) h)
theorem xg_exit {n i : Nat} (hr : r < 3) (hS : ¬ XS r = 5) (h : post (Ln, Lk, Tn, Op, Tg, Od, XS, XP, XE, XV, XW, XR, XQ, XZ, XC, XD)) : wX_goOn_9 post (nI r) (n + 1) (nI i) Ln Lk Tn Op Tg Od XS XP XE XV XW XR XQ XZ XC XD := by
  simp only [wX_goOn_9, rf_rc hr, rf_r3 hr, true_and]
  exact br_c (fun _ => h) (fun _ => br_f hS h)
theorem xg_out {n i : Nat} (hr : r < 3) (hS : XS r = 5) (hi : i < 2501) (ho : XP r < 0 ∨ ¬ XP r < Ln) (h : wX_goOn_9 post (nI r) n (nI (i + 1)) Ln Lk Tn Op Tg Od (upd XS r 4) XP XE XV XW (upd XR r 0) XQ XZ XC XD) : wX_goOn_9 post (nI r) (n + 1) (nI i) Ln Lk Tn Op Tg Od XS XP XE XV XW XR XQ XZ XC XD := by
  simp only [wX_goOn_9, wX_goOn_45, rf_rc hr, rf_r3 hr, hS, true_and, forall_eq]
  refine br_f (nI_ge (b := 2501) hi (by decide)) (br_t (by trivial) ?_)
  by_cases h0 : XP r < 0
  · exact br_t h0 (x_end hr (by rw [nI_1]; exact h))
  · have h1 : ¬ XP r < Ln := by rcases ho with z | z; exact absurd z h0; exact z
    exact br_f h0 (br_f h1 (x_end hr (by rw [nI_1]; exact h)))
theorem xg_plainA {n i : Nat} (hr : r < 3) (hS : XS r = 5) (hi : i < 2501) (hL : Ln = nI len) (hl : len ≤ 16) (hP : XP r = nI p) (hp : p < len) (ho : o ≤ 4) (hO : Op p = nI o) (hG : Tg p = nI g) (hg : g < 4) (hB : Od p &&& 3 = nI k) (hk : k < 4) (hE : XE r = nI e) (he : e < 59)
    (h : wX_goOn_9 post (nI r) n (nI (i + 1)) Ln Lk Tn Op Tg Od XS (upd XP r (lf_P o p (XQ (r * 4 + g)) (Od p))) (upd XE r (nI (e + 1))) XV XW XR (lf_Q o XQ (r * 4 + g) (r * 4 + k) (Od p)) XZ XC XD) : wX_goOn_9 post (nI r) (n + 1) (nI i) Ln Lk Tn Op Tg Od XS XP XE XV XW XR XQ XZ XC XD := by
  have hp16 : p < 16 := by omega
  simp only [wX_goOn_9, rf_rc hr, rf_r3 hr, hS, hP, hL, rf_pc hp16, rf_p16 hp16, hO, true_and, forall_eq]
  refine br_f (nI_ge (b := 2501) hi (by decide)) (br_t (by trivial) (br_f (nI_pos (by omega)) (br_t (nI_lt hp (by omega)) (br_f (nI_nlt (a := 4) ho (by decide)) ?_))))
  subst hL
  exact x_plain hr hP hp16 ho hO hG hg hB hk (x_147a hr hE he (by rw [nI_1]; exact h))
theorem xg_plainB {n i : Nat} (hr : r < 3) (hS : XS r = 5) (hi : i < 2501) (hL : Ln = nI len) (hl : len ≤ 16) (hP : XP r = nI p) (hp : p < len) (ho : o ≤ 4) (hO : Op p = nI o) (hG : Tg p = nI g) (hg : g < 4) (hB : Od p &&& 3 = nI k) (hk : k < 4) (hE : XE r = nI 59)
    (h : wX_goOn_9 post (nI r) n (nI (i + 1)) Ln Lk Tn Op Tg Od (upd XS r 4) (upd XP r (lf_P o p (XQ (r * 4 + g)) (Od p))) (upd XE r (nI 60)) XV XW (upd XR r 0) (lf_Q o XQ (r * 4 + g) (r * 4 + k) (Od p)) XZ XC XD) : wX_goOn_9 post (nI r) (n + 1) (nI i) Ln Lk Tn Op Tg Od XS XP XE XV XW XR XQ XZ XC XD := by
  have hp16 : p < 16 := by omega
  simp only [wX_goOn_9, rf_rc hr, rf_r3 hr, hS, hP, hL, rf_pc hp16, rf_p16 hp16, hO, true_and, forall_eq]
  refine br_f (nI_ge (b := 2501) hi (by decide)) (br_t (by trivial) (br_f (nI_pos (by omega)) (br_t (nI_lt hp (by omega)) (br_f (nI_nlt (a := 4) ho (by decide)) ?_))))
  subst hL
  exact x_plain hr hP hp16 ho hO hG hg hB hk (x_147b hr hE (by rw [nI_1]; exact h))
theorem xg_8 {n i : Nat} (hr : r < 3) (hS : XS r = 5) (hi : i < 2501) (hL : Ln = nI len) (hl : len ≤ 16) (hP : XP r = nI p) (hp : p < len) (hO : Op p = 8) (hG : Tg p = nI g) (hg : g < 4)
    (h : wX_goOn_9 post (nI r) n (nI (i + 1)) Ln Lk Tn Op Tg Od (upd XS r 4) XP XE XV XW (upd XR r (XQ (r * 4 + g))) XQ XZ XC XD) : wX_goOn_9 post (nI r) (n + 1) (nI i) Ln Lk Tn Op Tg Od XS XP XE XV XW XR XQ XZ XC XD := by
  have hp16 : p < 16 := by omega
  simp only [wX_goOn_9, rf_rc hr, rf_r3 hr, hS, hP, hL, rf_pc hp16, rf_p16 hp16, hO, true_and, forall_eq]
  refine br_f (nI_ge (b := 2501) hi (by decide)) (br_t (by trivial) (br_f (nI_pos (by omega)) (br_t (nI_lt hp (by omega)) (br_t (by decide) (br_t (by trivial) ?_)))))
  subst hL
  refine x_tgt hr hP hp16 hG ?_
  simp only [rf_tc hr hg, rf_t12 hr hg, true_and]
  exact x_end hr (by rw [nI_1]; exact h)
/-- a wait: what comeToWait asks -/
theorem xg_w {n i : Nat} {u : SX} (hr : r < 3) (hS : XS r = 5) (hi : i < 2501) (hL : Ln = nI len) (hl : len ≤ 16) (hP : XP r = nI p) (hp : p < len) (h5 : 5 ≤ o) (h7 : o ≤ 7) (hO : Op p = nI o)
    (hu : ∀ q : SX → Prop, q u → wpX_comeToWait q (Ln, Lk, Tn, Op, Tg, Od, XS, XP, XE, XV, XW, XR, XQ, XZ, XC, XD) (nI r))
    (h : wX_goOn_9 post (nI r) n (nI (i + 1)) u.1 u.2.1 u.2.2.1 u.2.2.2.1 u.2.2.2.2.1 u.2.2.2.2.2.1 u.2.2.2.2.2.2.1 u.2.2.2.2.2.2.2.1 u.2.2.2.2.2.2.2.2.1 u.2.2.2.2.2.2.2.2.2.1 u.2.2.2.2.2.2.2.2.2.2.1 u.2.2.2.2.2.2.2.2.2.2.2.1 u.2.2.2.2.2.2.2.2.2.2.2.2.1 u.2.2.2.2.2.2.2.2.2.2.2.2.2.1 u.2.2.2.2.2.2.2.2.2.2.2.2.2.2.1 u.2.2.2.2.2.2.2.2.2.2.2.2.2.2.2) : wX_goOn_9 post (nI r) (n + 1) (nI i) Ln Lk Tn Op Tg Od XS XP XE XV XW XR XQ XZ XC XD := by
  have hp16 : p < 16 := by omega
  have hu2 := hu
  simp only [wX_goOn_9, rf_rc hr, rf_r3 hr, hS, hP, hL, rf_pc hp16, rf_p16 hp16, hO, true_and, forall_eq]
  subst hL
  refine br_f (nI_ge (b := 2501) hi (by decide)) (br_t (by trivial) (br_f (nI_pos (by omega)) (br_t (nI_lt hp (by omega)) (br_t (nI_lt (a := 4) (by omega) (by omega)) (br_f (fun z => absurd ((nI_eq (b := 8) (by omega) (by omega)).mp z) (by omega)) ?_)))))
  apply hu
  rw [nI_1]
  exact h
end
