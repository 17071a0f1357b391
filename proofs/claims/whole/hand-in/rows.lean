section
theorem pk_us {f : Nat → Int32} {k : Nat} {x : Int32} : upd f k x k = x := if_pos rfl
theorem pk_un {f : Nat → Int32} {k j : Nat} {x : Int32} (h : j ≠ k) : upd f k x j = f j := if_neg h
theorem pk_sub {a b : Nat} (h : b ≤ a) : nI a - nI b = nI (a - b) := by
  obtain ⟨c, rfl⟩ : ∃ c, a = c + b := ⟨a - b, by omega⟩
  rw [← nI_add, Int32.add_sub_cancel, Nat.add_sub_cancel]
theorem pk_mul (a b : Nat) : nI a * nI b = nI (a * b) := (Int32.ofNat_mul a b).symm
theorem pk_tn {n : Nat} (h : n < 2 ^ 32) : (nI n).toBitVec.toNat = n := Nat.mod_eq_of_lt h
theorem pk_and (x : Int32) {m : Int32} (k : Nat) (hm : m.toBitVec.toNat = 2 ^ k - 1) : x &&& m = nI (x.toBitVec.toNat % 2 ^ k) := by
  apply Int32.toBitVec_inj.mp
  apply BitVec.eq_of_toNat_eq
  rw [Int32.toBitVec_and, BitVec.toNat_and, hm, Nat.and_two_pow_sub_one_eq_mod]
  show _ = (BitVec.ofNat 32 _).toNat
  rw [BitVec.toNat_ofNat]
  exact (Nat.mod_eq_of_lt (Nat.lt_of_le_of_lt (Nat.mod_le _ _) x.toBitVec.isLt)).symm
theorem pk_andE (x : Int32) {m : Int32} (k : Nat) (hm : m.toBitVec.toNat = 2 ^ k - 1) : ∃ j : Nat, j < 2 ^ k ∧ x &&& m = nI j := ⟨_, Nat.mod_lt _ (Nat.two_pow_pos k), pk_and x k hm⟩
theorem rf_a3 (x : Int32) : ∃ j : Nat, j < 4 ∧ x &&& 3 = nI j := pk_andE x 2 (by decide)
theorem rf_a1 (x : Int32) : ∃ j : Nat, j < 2 ∧ x &&& 1 = nI j := pk_andE x 1 (by decide)
theorem rf_uu (f : Nat → Int32) (k : Nat) (x y : Int32) : upd (upd f k x) k y = upd f k y := by
  funext j
  unfold upd
  by_cases h : j = k
  · simp only [h, if_true]
  · simp only [h, if_false]
theorem rf_rc {r : Nat} (hr : r < 3) : (nI r).toNatClampNeg = r := nI_clamp (by omega)
theorem rf_r3 {r : Nat} (hr : r < 3) : vp_in (nI r) 3 := vp_in_nI hr (by decide)
theorem rf_pc {p : Nat} (hp : p < 16) : (nI p).toNatClampNeg = p := nI_clamp (by omega)
theorem rf_p16 {p : Nat} (hp : p < 16) : vp_in (nI p) 16 := vp_in_nI hp (by decide)
theorem rf_m4 (r : Nat) : nI r * 4 = nI (r * 4) := pk_mul r 4
theorem rf_m2 (r : Nat) : nI r * 2 = nI (r * 2) := pk_mul r 2
theorem rf_m24 (r : Nat) : nI r * 24 = nI (r * 24) := pk_mul r 24
theorem rf_tc {r g : Nat} (hr : r < 3) (hg : g < 4) : (nI (r * 4 + g)).toNatClampNeg = r * 4 + g := nI_clamp (by omega)
theorem rf_t12 {r g : Nat} (hr : r < 3) (hg : g < 4) : vp_in (nI (r * 4 + g)) 12 := vp_in_nI (by omega) (by decide)
theorem rf_4c {r : Nat} (hr : r < 3) : (nI (r * 4)).toNatClampNeg = r * 4 := nI_clamp (by omega)
theorem rf_412 {r : Nat} (hr : r < 3) : vp_in (nI (r * 4)) 12 := vp_in_nI (by omega) (by decide)
theorem rf_qc {r c : Nat} (hr : r < 3) (hc : c < 2) : (nI (r * 2 + c)).toNatClampNeg = r * 2 + c := nI_clamp (by omega)
theorem rf_q6 {r c : Nat} (hr : r < 3) (hc : c < 2) : vp_in (nI (r * 2 + c)) 6 := vp_in_nI (by omega) (by decide)
theorem rf_zc {r c k : Nat} (hr : r < 3) (hc : c < 2) (hk : k < 24) : (nI ((r * 2 + c) * 24 + k)).toNatClampNeg = (r * 2 + c) * 24 + k := nI_clamp (by omega)
theorem rf_z144 {r c k : Nat} (hr : r < 3) (hc : c < 2) (hk : k < 24) : vp_in (nI ((r * 2 + c) * 24 + k)) 144 := vp_in_nI (by omega) (by decide)
theorem rf_yc {r k : Nat} (hr : r < 3) (hk : k < 24) : (nI (r * 24 + k)).toNatClampNeg = r * 24 + k := nI_clamp (by omega)
theorem rf_y72 {r k : Nat} (hr : r < 3) (hk : k < 24) : vp_in (nI (r * 24 + k)) 72 := vp_in_nI (by omega) (by decide)
/-- outside of the region of run r (d cells a run) the two agree -/
def ao_ (d r : Nat) (f g : Nat → Int32) : Prop := ∀ i, i / d ≠ r → g i = f i
theorem ao_rf {d r : Nat} {f : Nat → Int32} : ao_ d r f f := fun _ _ => rfl
theorem ao_u {d r k : Nat} {f g : Nat → Int32} {x : Int32} (h : ao_ d r f g) (hk : k / d = r) : ao_ d r f (upd g k x) := fun i hi => by
  rw [pk_un (by intro e; subst e; exact hi hk)]; exact h i hi
theorem ao_tr {d r : Nat} {f g l : Nat → Int32} (h : ao_ d r f g) (h2 : ao_ d r g l) : ao_ d r f l := fun i hi => (h2 i hi).trans (h i hi)
theorem ao_1 {r : Nat} {f g : Nat → Int32} (h : ao_ 1 r f g) {i : Nat} (hi : i ≠ r) : g i = f i := h i (by rw [Nat.div_one]; exact hi)
theorem ao_u1 {r : Nat} {f : Nat → Int32} {x : Int32} : ao_ 1 r f (upd f r x) := ao_u ao_rf (Nat.div_one r)
/-- how many of the first i cells from b on hold c -/
def sg_n (H : Nat → Int32) (b : Nat) (c : Int32) : Nat → Nat
  | 0 => 0
  | i + 1 => sg_n H b c i + (if H (b + i) = c then 1 else 0)
theorem sg_y {H : Nat → Int32} {b i : Nat} {c : Int32} (h : H (b + i) = c) : sg_n H b c (i + 1) = sg_n H b c i + 1 := by
  show sg_n H b c i + _ = _
  rw [if_pos h]
theorem sg_no {H : Nat → Int32} {b i : Nat} {c : Int32} (h : ¬ H (b + i) = c) : sg_n H b c (i + 1) = sg_n H b c i := by
  show sg_n H b c i + _ = _
  rw [if_neg h]; rfl
theorem sg_s (H : Nat → Int32) (b i : Nat) (c : Int32) : sg_n H b c i ≤ sg_n H b c (i + 1) ∧ sg_n H b c (i + 1) ≤ sg_n H b c i + 1 := by
  by_cases h : H (b + i) = c
  · rw [sg_y h]; omega
  · rw [sg_no h]; omega
theorem sg_m (H : Nat → Int32) (b : Nat) (c : Int32) (i d : Nat) : sg_n H b c i ≤ sg_n H b c (i + d) := by
  induction d with
  | zero => exact Nat.le_refl _
  | succ d ih => exact Nat.le_trans ih (sg_s H b (i + d) c).1
theorem sg_mono {H : Nat → Int32} {b : Nat} {c : Int32} {i j : Nat} (h : i ≤ j) : sg_n H b c i ≤ sg_n H b c j := by
  obtain ⟨d, rfl⟩ : ∃ d, j = i + d := ⟨j - i, by omega⟩
  exact sg_m H b c i d
theorem sg_lt {H : Nat → Int32} {b : Nat} {c : Int32} {i j : Nat} (h : i < j) (hc : H (b + i) = c) : sg_n H b c i < sg_n H b c j := by
  have := sg_mono (H := H) (b := b) (c := c) (i := i + 1) (j := j) h
  rw [sg_y hc] at this
  exact this
theorem sg_le (H : Nat → Int32) (b : Nat) (c : Int32) (i : Nat) : sg_n H b c i ≤ i := by
  induction i with
  | zero => exact Nat.le_refl _
  | succ i ih => exact Nat.le_trans (sg_s H b i c).2 (Nat.succ_le_succ ih)
theorem sg_cg {H H1 : Nat → Int32} {b : Nat} {c : Int32} : ∀ i, (∀ k, k < i → H1 (b + k) = H (b + k)) → sg_n H1 b c i = sg_n H b c i := by
  intro i
  induction i with
  | zero => intro _; rfl
  | succ i ih =>
    intro h
    show sg_n H1 b c i + _ = sg_n H b c i + _
    rw [ih (fun k hk => h k (by omega)), h i (by omega)]
theorem sg_01 : ¬ nI 0 = nI 1 := by decide
theorem sg_sum {H : Nat → Int32} {b : Nat} : ∀ i, (∀ k, k < i → ∃ c, c < 2 ∧ H (b + k) = nI c) → sg_n H b (nI 0) i + sg_n H b (nI 1) i = i := by
  intro i
  induction i with
  | zero => intro _; rfl
  | succ i ih =>
    intro h
    have := ih (fun k hk => h k (by omega))
    obtain ⟨c, hc, e⟩ := h i (by omega)
    have hc2 : c = 0 ∨ c = 1 := by omega
    rcases hc2 with rfl | rfl
    · rw [sg_y e, sg_no (c := nI 1) (by rw [e]; exact sg_01)]; omega
    · rw [sg_y e, sg_no (c := nI 0) (by rw [e]; exact fun z => sg_01 z.symm)]; omega
theorem sg_cc {c d : Nat} (hc : c < 2) (hd : d < 2) (h : nI c = nI d) : c = d := (nI_eq (by omega) (by omega)).mp h
end
section
section
variable {XZ XC XD Yn Yh Yz Yd : Nat → Int32} {r n : Nat} {t : Nat → Nat}
/-- the signals of run r: X keeps them by channel, Y in the order in which they came; n came, t c of channel c are taken -/
def sg_R (r : Nat) (XZ XC XD Yn Yh Yz Yd : Nat → Int32) (n : Nat) (t : Nat → Nat) : Prop :=
  n ≤ 24 ∧ Yn r = nI n ∧
  (∀ c, c < 2 → XC (r * 2 + c) = nI (sg_n Yh (r * 24) (nI c) n) ∧ XD (r * 2 + c) = nI (t c) ∧ t c ≤ sg_n Yh (r * 24) (nI c) n) ∧
  (∀ i, i < n → ∃ c, c < 2 ∧ Yh (r * 24 + i) = nI c ∧ Yz (r * 24 + i) = XZ ((r * 2 + c) * 24 + sg_n Yh (r * 24) (nI c) i) ∧ Yd (r * 24 + i) = (if sg_n Yh (r * 24) (nI c) i < t c then 1 else 0))
theorem sg_all (h : sg_R r XZ XC XD Yn Yh Yz Yd n t) : sg_n Yh (r * 24) (nI 0) n + sg_n Yh (r * 24) (nI 1) n = n :=
  sg_sum n (fun k hk => by obtain ⟨c, hc, e, _⟩ := h.2.2.2 k hk; exact ⟨c, hc, e⟩)
theorem sg_take (h : sg_R r XZ XC XD Yn Yh Yz Yd n t) {c i0 : Nat} (hc : c < 2) (hi : i0 < n) (hH : Yh (r * 24 + i0) = nI c) (hn : sg_n Yh (r * 24) (nI c) i0 = t c) :
    sg_R r XZ XC (upd XD (r * 2 + c) (nI (t c + 1))) Yn Yh Yz (upd Yd (r * 24 + i0) 1) n (fun d => if d = c then t c + 1 else t d) := by
  obtain ⟨h1, h2, h3, h4⟩ := h
  refine ⟨h1, h2, ?_, ?_⟩
  · intro d hd
    obtain ⟨a1, a2, a3⟩ := h3 d hd
    refine ⟨a1, ?_⟩
    by_cases e : d = c
    · subst e
      have := sg_lt hi hH
      rw [pk_us]
      simp only [if_true]
      exact ⟨by trivial, by omega⟩
    · rw [pk_un (by omega)]
      simp only [e, if_false]
      exact ⟨a2, a3⟩
  · intro i hi2
    obtain ⟨d, hd, b1, b2, b3⟩ := h4 i hi2
    refine ⟨d, hd, b1, b2, ?_⟩
    by_cases e : i = i0
    · subst e
      have ed : d = c := sg_cc hd hc (b1.symm.trans hH)
      subst ed
      rw [pk_us]
      simp only [if_true]
      rw [if_pos (by omega)]
    · rw [pk_un (by omega), b3]
      by_cases ed : d = c
      · subst ed
        simp only [if_true]
        have hne : sg_n Yh (r * 24) (nI d) i ≠ sg_n Yh (r * 24) (nI d) i0 := by
          by_cases hl : i < i0
          · have := sg_lt hl b1; omega
          · have := sg_lt (show i0 < i by omega) hH; omega
        by_cases hq : sg_n Yh (r * 24) (nI d) i < t d
        · rw [if_pos hq, if_pos (by omega)]
        · rw [if_neg hq, if_neg (by omega)]
      · simp only [ed, if_false]
theorem sg_add (h : sg_R r XZ XC XD Yn Yh Yz Yd n t) {c : Nat} (hc : c < 2) (hn : n < 24) (v : Int32) :
    sg_R r (upd XZ ((r * 2 + c) * 24 + sg_n Yh (r * 24) (nI c) n) v) (upd XC (r * 2 + c) (nI (sg_n Yh (r * 24) (nI c) n + 1))) XD (upd Yn r (nI (n + 1))) (upd Yh (r * 24 + n) (nI c)) (upd Yz (r * 24 + n) v) (upd Yd (r * 24 + n) 0) (n + 1) t := by
  obtain ⟨h1, h2, h3, h4⟩ := h
  have cg : ∀ (d : Int32) (i : Nat), i ≤ n → sg_n (upd Yh (r * 24 + n) (nI c)) (r * 24) d i = sg_n Yh (r * 24) d i := by
    intro d i hi
    exact sg_cg i (fun k hk => pk_un (by omega))
  refine ⟨hn, pk_us, ?_, ?_⟩
  · intro d hd
    obtain ⟨a1, a2, a3⟩ := h3 d hd
    by_cases e : d = c
    · subst e
      rw [sg_y pk_us, cg _ n (Nat.le_refl n), pk_us]
      exact ⟨rfl, a2, by omega⟩
    · rw [sg_no (by rw [pk_us]; exact fun z => e (sg_cc hd hc z.symm)), cg _ n (Nat.le_refl n), pk_un (by omega)]
      exact ⟨a1, a2, a3⟩
  · intro i hi
    by_cases e : i = n
    · subst e
      refine ⟨c, hc, pk_us, ?_, ?_⟩
      · rw [pk_us, cg _ i (Nat.le_refl i), pk_us]
      · rw [pk_us, cg _ i (Nat.le_refl i), if_neg]
        have := (h3 c hc).2.2
        omega
    · have hi3 : i < n := by omega
      obtain ⟨d, hd, b1, b2, b3⟩ := h4 i hi3
      refine ⟨d, hd, by rw [pk_un (by omega)]; exact b1, ?_, ?_⟩
      · rw [pk_un (by omega), cg _ i (by omega), pk_un, b2]
        have l1 := sg_le Yh (r * 24) (nI d) i
        have l2 := sg_le Yh (r * 24) (nI c) n
        by_cases ed : d = c
        · subst ed
          have := sg_lt hi3 b1
          omega
        · omega
      · rw [pk_un (by omega), cg _ i (by omega)]
        exact b3
theorem sg_0 (h1 : XC (r * 2) = 0) (h2 : XC (r * 2 + 1) = 0) (h3 : XD (r * 2) = 0) (h4 : XD (r * 2 + 1) = 0) : sg_R r XZ XC XD (upd Yn r 0) Yh Yz Yd 0 (fun _ => 0) := by
  refine ⟨by omega, pk_us, ?_, fun i hi => absurd hi (by omega)⟩
  intro c hc
  have hc2 : c = 0 ∨ c = 1 := by omega
  rcases hc2 with rfl | rfl
  · exact ⟨h1, h3, Nat.le_refl _⟩
  · exact ⟨h2, h4, Nat.le_refl _⟩
/-- other runs' regions -/
theorem sg_fr {q : Nat} {XZ1 XC1 XD1 Yn1 Yh1 Yz1 Yd1 : Nat → Int32} (hq : r ≠ q) (h : sg_R r XZ XC XD Yn Yh Yz Yd n t)
    (z : ao_ 48 q XZ XZ1) (c : ao_ 2 q XC XC1) (d : ao_ 2 q XD XD1) (yn : ao_ 1 q Yn Yn1) (yh : ao_ 24 q Yh Yh1) (yz : ao_ 24 q Yz Yz1) (yd : ao_ 24 q Yd Yd1) :
    sg_R r XZ1 XC1 XD1 Yn1 Yh1 Yz1 Yd1 n t := by
  obtain ⟨h1, h2, h3, h4⟩ := h
  have cg : ∀ (d : Int32) (i : Nat), i ≤ n → sg_n Yh1 (r * 24) d i = sg_n Yh (r * 24) d i := by
    intro d i hi
    exact sg_cg i (fun k hk => yh _ (by omega))
  refine ⟨h1, (ao_1 yn hq).trans h2, ?_, ?_⟩
  · intro b hb
    obtain ⟨a1, a2, a3⟩ := h3 b hb
    rw [cg _ n (Nat.le_refl n), c _ (by omega), d _ (by omega)]
    exact ⟨a1, a2, a3⟩
  · intro i hi
    obtain ⟨b, hb, b1, b2, b3⟩ := h4 i hi
    have l1 := sg_le Yh (r * 24) (nI b) i
    refine ⟨b, hb, by rw [yh _ (by omega)]; exact b1, ?_, ?_⟩
    · rw [yz _ (by omega), cg _ i (by omega), z _ (by omega)]; exact b2
    · rw [yd _ (by omega), cg _ i (by omega)]; exact b3
end
section
variable {XS XP XE XV XW XR XQ XZ XC XD Ys Yp Ye Yq Yr Yw Yv Yn Yh Yz Yd : Nat → Int32} {Op Od : Nat → Int32}
/-- what both sides keep alike of a run that has been started: e steps since the last wait, v waits over -/
def rr_C (r : Nat) (XP XE XV XQ XZ XC XD Yp Ye Yq Yv Yn Yh Yz Yd : Nat → Int32) (e v n : Nat) (t : Nat → Nat) : Prop :=
  XP r = Yp r ∧ XE r = nI e ∧ Ye r = nI e ∧ XV r = nI v ∧ Yv r = nI v ∧ v ≤ 40 ∧ (∀ j, j < 4 → XQ (r * 4 + j) = Yq (r * 4 + j)) ∧ sg_R r XZ XC XD Yn Yh Yz Yd n t
/-- a run that has not been started -/
def rr_Z (r : Nat) (XS XP XE XV XR XQ XC XD Yn : Nat → Int32) : Prop :=
  XS r = 0 ∧ XP r = 0 ∧ XE r = 0 ∧ XV r = 0 ∧ XR r = 0 ∧ (∀ j, j < 4 → XQ (r * 4 + j) = 0) ∧ (XC (r * 2) = 0 ∧ XC (r * 2 + 1) = 0 ∧ XD (r * 2) = 0 ∧ XD (r * 2 + 1) = 0) ∧ ∃ n, n ≤ 24 ∧ Yn r = nI n
/-- a run in state s -/
def rr_A (r len : Nat) (Op Od XS XP XE XV XW XR XQ XZ XC XD Ys Yp Ye Yq Yr Yw Yv Yn Yh Yz Yd : Nat → Int32) (s e v n : Nat) (t : Nat → Nat) : Prop :=
  1 ≤ s ∧ s ≤ 4 ∧ XS r = nI s ∧ rr_C r XP XE XV XQ XZ XC XD Yp Ye Yq Yv Yn Yh Yz Yd e v n t ∧
  (s = 4 → XR r = Yr r) ∧
  (s ≠ 4 → XR r = 0 ∧ e < 60 ∧ v < 40 ∧ ∃ p, p < len ∧ XP r = nI p ∧ Op p = nI (s + 4) ∧ (s = 2 → XW r = Yw r) ∧
    (s = 3 → ∃ c, c < 2 ∧ Od p &&& 1 = nI c ∧ t c = sg_n Yh (r * 24) (nI c) n))
def rr_R (r len : Nat) (Op Od XS XP XE XV XW XR XQ XZ XC XD Ys Yp Ye Yq Yr Yw Yv Yn Yh Yz Yd : Nat → Int32) : Prop :=
  XS r = Ys r ∧ (rr_Z r XS XP XE XV XR XQ XC XD Yn ∨ ∃ s e v n t, rr_A r len Op Od XS XP XE XV XW XR XQ XZ XC XD Ys Yp Ye Yq Yr Yw Yv Yn Yh Yz Yd s e v n t)
theorem rr_of {r q k n : Nat} (hq : r ≠ q) (hk : k < n) (hn : n ≤ 24) : (r * 24 + k) / 24 ≠ q := by omega
theorem rr_fr {r q len : Nat} {XS1 XP1 XE1 XV1 XW1 XR1 XQ1 XZ1 XC1 XD1 Ys1 Yp1 Ye1 Yq1 Yr1 Yw1 Yv1 Yn1 Yh1 Yz1 Yd1 : Nat → Int32}
    (hq : r ≠ q) (h : rr_R r len Op Od XS XP XE XV XW XR XQ XZ XC XD Ys Yp Ye Yq Yr Yw Yv Yn Yh Yz Yd)
    (xs : ao_ 1 q XS XS1) (xp : ao_ 1 q XP XP1) (xe : ao_ 1 q XE XE1) (xv : ao_ 1 q XV XV1) (xw : ao_ 1 q XW XW1) (xr : ao_ 1 q XR XR1) (xq : ao_ 4 q XQ XQ1) (xz : ao_ 48 q XZ XZ1) (xc : ao_ 2 q XC XC1) (xd : ao_ 2 q XD XD1)
    (ys : ao_ 1 q Ys Ys1) (yp : ao_ 1 q Yp Yp1) (ye : ao_ 1 q Ye Ye1) (yq : ao_ 4 q Yq Yq1) (yr : ao_ 1 q Yr Yr1) (yw : ao_ 1 q Yw Yw1) (yv : ao_ 1 q Yv Yv1) (yn : ao_ 1 q Yn Yn1) (yh : ao_ 24 q Yh Yh1) (yz : ao_ 24 q Yz Yz1) (yd : ao_ 24 q Yd Yd1) :
    rr_R r len Op Od XS1 XP1 XE1 XV1 XW1 XR1 XQ1 XZ1 XC1 XD1 Ys1 Yp1 Ye1 Yq1 Yr1 Yw1 Yv1 Yn1 Yh1 Yz1 Yd1 := by
  obtain ⟨h0, h⟩ := h
  have e1 := ao_1 xs hq
  have e2 := ao_1 xp hq
  have e3 := ao_1 xe hq
  have e4 := ao_1 xv hq
  have e5 := ao_1 xw hq
  have e6 := ao_1 xr hq
  have f1 := ao_1 ys hq
  have f2 := ao_1 yp hq
  have f3 := ao_1 ye hq
  have f4 := ao_1 yr hq
  have f5 := ao_1 yw hq
  have f6 := ao_1 yv hq
  have f7 := ao_1 yn hq
  have g1 : ∀ j, j < 4 → XQ1 (r * 4 + j) = XQ (r * 4 + j) := fun j hj => xq _ (by omega)
  have g2 : ∀ j, j < 4 → Yq1 (r * 4 + j) = Yq (r * 4 + j) := fun j hj => yq _ (by omega)
  refine ⟨by rw [e1, f1]; exact h0, ?_⟩
  rcases h with h | ⟨s, e, v, n, t, h⟩
  · left
    obtain ⟨a1, a2, a3, a4, a5, a6, ⟨a7, a8, a9, a10⟩, a11⟩ := h
    refine ⟨by rw [e1]; exact a1, by rw [e2]; exact a2, by rw [e3]; exact a3, by rw [e4]; exact a4, by rw [e6]; exact a5, fun j hj => by rw [g1 j hj]; exact a6 j hj, ⟨?_, ?_, ?_, ?_⟩, by rw [f7]; exact a11⟩
    · rw [xc _ (by omega)]; exact a7
    · rw [xc _ (by omega)]; exact a8
    · rw [xd _ (by omega)]; exact a9
    · rw [xd _ (by omega)]; exact a10
  · right
    obtain ⟨a1, a2, a3, ⟨c1, c2, c3, c4, c5, c6, c7, c8⟩, a5, a6⟩ := h
    refine ⟨s, e, v, n, t, a1, a2, by rw [e1]; exact a3, ⟨by rw [e2, f2]; exact c1, by rw [e3]; exact c2, by rw [f3]; exact c3, by rw [e4]; exact c4, by rw [f6]; exact c5, c6, fun j hj => by rw [g1 j hj, g2 j hj]; exact c7 j hj, sg_fr hq c8 xz xc xd yn yh yz yd⟩, fun hs => by rw [e6, f4]; exact a5 hs, fun hs => ?_⟩
    obtain ⟨b1, b2, b3, p, b4, b5, b6, b7, b8⟩ := a6 hs
    refine ⟨by rw [e6]; exact b1, b2, b3, p, b4, by rw [e2]; exact b5, b6, fun h2 => by rw [e5, f5]; exact b7 h2, fun h3 => ?_⟩
    obtain ⟨c, d1, d2, d3⟩ := b8 h3
    exact ⟨c, d1, d2, by rw [d3]; exact (sg_cg n (fun k hk => yh _ (rr_of hq hk c8.1))).symm⟩
end
/-- the script -/
def sc_R (len : Nat) (Ln : Int32) (Op Tg : Nat → Int32) : Prop :=
  Ln = nI len ∧ len ≤ 16 ∧ (∀ j, ∃ o, o < 9 ∧ Op j = nI o) ∧ (∀ j, ∃ g, g < 4 ∧ Tg j = nI g)
end
section
def lf_Q (o : Nat) (Q : Nat → Int32) (t s : Nat) (b : Int32) : Nat → Int32 :=
  if o = 0 then upd Q t b else if o = 1 then upd Q t (Q t + Q s) else if o = 2 then upd Q t (Q t - Q s) else Q
def lf_P (o p : Nat) (q b : Int32) : Int32 :=
  if o = 3 then b else if o = 4 then (if q ≤ 0 then nI (p + 1) else b) else nI (p + 1)
def lf_S (b : Int32) : Int32 := if 1 ≤ b then (if b ≤ 100 then b else 100) else 1
section
variable {Ln Lk Tn : Int32} {Op Tg Od XS XP XE XV XW XR XQ XZ XC XD : Nat → Int32} {post : SX → Prop} {pr : Int32 → Prop} {r p g k o e v len : Nat}
theorem x_end {w : Int32} (hr : r < 3) (h : post (Ln, Lk, Tn, Op, Tg, Od, upd XS r 4, XP, XE, XV, XW, upd XR r w, XQ, XZ, XC, XD)) : wpX_endRun post (Ln, Lk, Tn, Op, Tg, Od, XS, XP, XE, XV, XW, XR, XQ, XZ, XC, XD) (nI r) w := by
  simp only [wpX_endRun, rf_rc hr, rf_r3 hr, true_and, forall_eq]
  exact h
theorem x_tgt (hr : r < 3) (hP : XP r = nI p) (hp : p < 16) (hG : Tg p = nI g) (h : pr (nI (r * 4 + g))) : wpX_targetRegister pr (Ln, Lk, Tn, Op, Tg, Od, XS, XP, XE, XV, XW, XR, XQ, XZ, XC, XD) (nI r) := by
  simp only [wpX_targetRegister, rf_rc hr, rf_r3 hr, hP, rf_pc hp, rf_p16 hp, hG, rf_m4, nI_add, true_and]
  exact h
theorem x_que (hr : r < 3) (hP : XP r = nI p) (hp : p < 16) (hG : Od p &&& 1 = nI g) (h : pr (nI (r * 2 + g))) : wpX_awaitedQueue pr (Ln, Lk, Tn, Op, Tg, Od, XS, XP, XE, XV, XW, XR, XQ, XZ, XC, XD) (nI r) := by
  simp only [wpX_awaitedQueue, rf_rc hr, rf_r3 hr, hP, rf_pc hp, rf_p16 hp, hG, rf_m2, nI_add, true_and]
  exact h
theorem x_slp (hr : r < 3) (hP : XP r = nI p) (hp : p < 16) (h : pr (lf_S (Od p))) : wpX_sleepLength pr (Ln, Lk, Tn, Op, Tg, Od, XS, XP, XE, XV, XW, XR, XQ, XZ, XC, XD) (nI r) := by
  simp only [wpX_sleepLength, rf_rc hr, rf_r3 hr, hP, rf_pc hp, rf_p16 hp, true_and, forall_eq]
  unfold lf_S at h
  by_cases h1 : 1 ≤ Od p
  · rw [if_pos h1] at h
    by_cases h2 : Od p ≤ 100
    · rw [if_pos h2] at h
      exact br_t h1 (br_t h2 h)
    · rw [if_neg h2] at h
      exact br_t h1 (br_f h2 h)
  · rw [if_neg h1] at h
    exact br_f h1 h
theorem x_fin (hr : r < 3) (hP : XP r = nI p) (hV : XV r = nI v) (h : post (Ln, Lk, Tn, Op, Tg, Od, XS, upd XP r (nI (p + 1)), upd XE r 0, upd XV r (nI (v + 1)), XW, XR, XQ, XZ, XC, XD)) : wpX_finishWait post (Ln, Lk, Tn, Op, Tg, Od, XS, XP, XE, XV, XW, XR, XQ, XZ, XC, XD) (nI r) := by
  simp only [wpX_finishWait, rf_rc hr, rf_r3 hr, hP, hV, nI_1, true_and, forall_eq]
  exact h
theorem x_147a {nx : Int32} (hr : r < 3) (hE : XE r = nI e) (he : e < 59) (h : post (Ln, Lk, Tn, Op, Tg, Od, XS, upd XP r nx, upd XE r (nI (e + 1)), XV, XW, XR, XQ, XZ, XC, XD)) : wX_carryOutStep_147 post (nI r) nx Ln Lk Tn Op Tg Od XS XP XE XV XW XR XQ XZ XC XD := by
  simp only [wX_carryOutStep_147, rf_rc hr, rf_r3 hr, hE, nI_1, pk_us, true_and, forall_eq]
  exact br_t (nI_lt (b := 60) (by omega) (by decide)) h
theorem x_147b {nx : Int32} (hr : r < 3) (hE : XE r = nI 59) (h : post (Ln, Lk, Tn, Op, Tg, Od, upd XS r 4, upd XP r nx, upd XE r (nI 60), XV, XW, upd XR r 0, XQ, XZ, XC, XD)) : wX_carryOutStep_147 post (nI r) nx Ln Lk Tn Op Tg Od XS XP XE XV XW XR XQ XZ XC XD := by
  simp only [wX_carryOutStep_147, rf_rc hr, rf_r3 hr, hE, nI_1, pk_us, true_and, forall_eq]
  exact br_f (by decide) (x_end hr h)
theorem x_plain (hr : r < 3) (hP : XP r = nI p) (hp : p < 16) (ho : o ≤ 4) (hO : Op p = nI o) (hG : Tg p = nI g) (hg : g < 4) (hB : Od p &&& 3 = nI k) (hk : k < 4)
    (h : wX_carryOutStep_147 post (nI r) (lf_P o p (XQ (r * 4 + g)) (Od p)) Ln Lk Tn Op Tg Od XS XP XE XV XW XR (lf_Q o XQ (r * 4 + g) (r * 4 + k) (Od p)) XZ XC XD) : wpX_carryOutStep post (Ln, Lk, Tn, Op, Tg, Od, XS, XP, XE, XV, XW, XR, XQ, XZ, XC, XD) (nI r) := by
  simp only [wpX_carryOutStep, rf_rc hr, rf_r3 hr, hP, rf_pc hp, rf_p16 hp, true_and, forall_eq]
  refine x_tgt hr hP hp hG ?_
  have ho2 : o = 0 ∨ o = 1 ∨ o = 2 ∨ o = 3 ∨ o = 4 := by omega
  rcases ho2 with rfl | rfl | rfl | rfl | rfl
  · have hO : Op p = 0 := hO
    simp only [hO, hB, rf_m4, nI_add, nI_1, rf_tc hr hg, rf_t12 hr hg, rf_tc hr hk, rf_t12 hr hk, true_and, forall_eq]
    exact br_f (by decide) (br_f (by decide) (br_t (by trivial) h))
  · have hO : Op p = 1 := hO
    simp only [hO, hB, rf_m4, nI_add, nI_1, rf_tc hr hg, rf_t12 hr hg, rf_tc hr hk, rf_t12 hr hk, true_and, forall_eq]
    exact br_f (by decide) (br_f (by decide) (br_f (by decide) (br_t (by trivial) h)))
  · have hO : Op p = 2 := hO
    simp only [hO, hB, rf_m4, nI_add, nI_1, rf_tc hr hg, rf_t12 hr hg, rf_tc hr hk, rf_t12 hr hk, true_and, forall_eq]
    exact br_f (by decide) (br_f (by decide) (br_f (by decide) (br_f (by decide) (br_t (by trivial) h))))
  · have hO : Op p = 3 := hO
    simp only [hO, hB, rf_m4, nI_add, nI_1, rf_tc hr hg, rf_t12 hr hg, rf_tc hr hk, rf_t12 hr hk, true_and, forall_eq]
    exact br_f (by decide) (br_f (by decide) (br_f (by decide) (br_f (by decide) (br_f (by decide) (br_t (by trivial) h)))))
  · have hO : Op p = 4 := hO
    simp only [hO, hB, rf_m4, nI_add, nI_1, rf_tc hr hg, rf_t12 hr hg, rf_tc hr hk, rf_t12 hr hk, true_and, forall_eq]
    by_cases hq : XQ (r * 4 + g) ≤ 0
    · have e : lf_P 4 p (XQ (r * 4 + g)) (Od p) = nI (p + 1) := if_pos hq
      rw [e] at h
      exact br_f (by decide) (br_t (by decide) (br_t hq h))
    · have e : lf_P 4 p (XQ (r * 4 + g)) (Od p) = Od p := if_neg hq
      rw [e] at h
      exact br_f (by decide) (br_t (by decide) (br_f hq h))
theorem x_take {c t : Nat} (hr : r < 3) (hP : XP r = nI p) (hp : p < 16) (hG : Tg p = nI g) (hg : g < 4) (hB : Od p &&& 1 = nI c) (hc : c < 2) (hV : XV r = nI v) (hD : XD (r * 2 + c) = nI t) (ht : t < 24)
    (h : post (Ln, Lk, Tn, Op, Tg, Od, XS, upd XP r (nI (p + 1)), upd XE r 0, upd XV r (nI (v + 1)), XW, XR, upd XQ (r * 4 + g) (XZ ((r * 2 + c) * 24 + t)), XZ, XC, upd XD (r * 2 + c) (nI (t + 1)))) : wpX_takeSignal post (Ln, Lk, Tn, Op, Tg, Od, XS, XP, XE, XV, XW, XR, XQ, XZ, XC, XD) (nI r) := by
  unfold wpX_takeSignal
  refine x_que hr hP hp hB (x_tgt hr hP hp hG ?_)
  simp only [rf_qc hr hc, rf_q6 hr hc, hD, rf_m24, nI_add, nI_1, rf_zc hr hc ht, rf_z144 hr hc ht, rf_tc hr hg, rf_t12 hr hg, true_and, forall_eq]
  exact x_fin hr hP hV h
theorem x_cwFull (hr : r < 3) (hP : XP r = nI p) (hp : p < 16) (hV : XV r = nI 40) (h : post (Ln, Lk, Tn, Op, Tg, Od, upd XS r 4, XP, XE, XV, XW, upd XR r 0, XQ, XZ, XC, XD)) : wpX_comeToWait post (Ln, Lk, Tn, Op, Tg, Od, XS, XP, XE, XV, XW, XR, XQ, XZ, XC, XD) (nI r) := by
  simp only [wpX_comeToWait, rf_rc hr, rf_r3 hr, hP, rf_pc hp, rf_p16 hp, hV, true_and, forall_eq]
  exact br_f (by decide) (x_end hr h)
theorem x_cw5 (hr : r < 3) (hP : XP r = nI p) (hp : p < 16) (hO : Op p = 5) (hV : XV r = nI v) (hv : v < 40) (h : post (Ln, Lk, Tn, Op, Tg, Od, upd XS r 1, XP, XE, XV, XW, XR, XQ, XZ, XC, XD)) : wpX_comeToWait post (Ln, Lk, Tn, Op, Tg, Od, XS, XP, XE, XV, XW, XR, XQ, XZ, XC, XD) (nI r) := by
  simp only [wpX_comeToWait, rf_rc hr, rf_r3 hr, hP, rf_pc hp, rf_p16 hp, hV, hO, true_and, forall_eq]
  exact br_t (nI_lt (b := 40) hv (by decide)) (br_t (by trivial) h)
theorem x_cw6 (hr : r < 3) (hP : XP r = nI p) (hp : p < 16) (hO : Op p = 6) (hV : XV r = nI v) (hv : v < 40) (h : post (Ln, Lk, Tn, Op, Tg, Od, upd XS r 2, XP, XE, XV, upd XW r (Tn + lf_S (Od p)), XR, XQ, XZ, XC, XD)) : wpX_comeToWait post (Ln, Lk, Tn, Op, Tg, Od, XS, XP, XE, XV, XW, XR, XQ, XZ, XC, XD) (nI r) := by
  simp only [wpX_comeToWait, rf_rc hr, rf_r3 hr, hP, rf_pc hp, rf_p16 hp, hV, hO, true_and, forall_eq]
  exact br_t (nI_lt (b := 40) hv (by decide)) (br_f (by decide) (br_t (by trivial) (x_slp hr hP hp h)))
theorem x_cw7t {c t m : Nat} (hr : r < 3) (hP : XP r = nI p) (hp : p < 16) (hO : Op p = 7) (hG : Tg p = nI g) (hg : g < 4) (hB : Od p &&& 1 = nI c) (hc : c < 2) (hV : XV r = nI v) (hv : v < 40) (hD : XD (r * 2 + c) = nI t) (hC : XC (r * 2 + c) = nI m) (ht : t < m) (hm : m ≤ 24)
    (h : post (Ln, Lk, Tn, Op, Tg, Od, XS, upd XP r (nI (p + 1)), upd XE r 0, upd XV r (nI (v + 1)), XW, XR, upd XQ (r * 4 + g) (XZ ((r * 2 + c) * 24 + t)), XZ, XC, upd XD (r * 2 + c) (nI (t + 1)))) : wpX_comeToWait post (Ln, Lk, Tn, Op, Tg, Od, XS, XP, XE, XV, XW, XR, XQ, XZ, XC, XD) (nI r) := by
  simp only [wpX_comeToWait, wpX_hasSignal, rf_rc hr, rf_r3 hr, hP, rf_pc hp, rf_p16 hp, hV, hO, true_and, forall_eq]
  refine br_t (nI_lt (b := 40) hv (by decide)) (br_f (by decide) (br_f (by decide) (x_que hr hP hp hB ?_)))
  simp only [rf_qc hr hc, rf_q6 hr hc, hD, hC, true_and]
  exact br_f (nI_ge ht (by omega)) (br_f (by decide) (x_take hr hP hp hG hg hB hc hV hD (by omega) h))
theorem x_cw7w {c t : Nat} (hr : r < 3) (hP : XP r = nI p) (hp : p < 16) (hO : Op p = 7) (hB : Od p &&& 1 = nI c) (hc : c < 2) (hV : XV r = nI v) (hv : v < 40) (hD : XD (r * 2 + c) = nI t) (hC : XC (r * 2 + c) = nI t)
    (h : post (Ln, Lk, Tn, Op, Tg, Od, upd XS r 3, XP, XE, XV, XW, XR, XQ, XZ, XC, XD)) : wpX_comeToWait post (Ln, Lk, Tn, Op, Tg, Od, XS, XP, XE, XV, XW, XR, XQ, XZ, XC, XD) (nI r) := by
  simp only [wpX_comeToWait, wpX_hasSignal, rf_rc hr, rf_r3 hr, hP, rf_pc hp, rf_p16 hp, hV, hO, true_and, forall_eq]
  refine br_t (nI_lt (b := 40) hv (by decide)) (br_f (by decide) (br_f (by decide) (x_que hr hP hp hB ?_)))
  simp only [rf_qc hr hc, rf_q6 hr hc, hD, hC, true_and]
  exact br_t (Int32.le_refl _) (br_t (by trivial) h)
theorem xg_exit {n i : Nat} (hr : r < 3) (hS : ¬ XS r = 5) (h : post (Ln, Lk, Tn, Op, Tg, Od, XS, XP, XE, XV, XW, XR, XQ, XZ, XC, XD)) : wX_goOn_9 post (nI r) (n + 1) (nI i) Ln Lk Tn Op Tg Od XS XP XE XV XW XR XQ XZ XC XD := by
  simp only [wX_goOn_9, rf_rc hr, rf_r3 hr, true_and]
  exact br_c (fun _ => h) (fun _ => br_f hS h)
theorem xg_out {n i : Nat} (hr : r < 3) (hS : XS r = 5) (hi : i < 2501) (ho : XP r < 0 ∨ ¬ XP r < Ln) (h : wX_goOn_9 post (nI r) n (nI (i + 1)) Ln Lk Tn Op Tg Od (upd XS r 4) XP XE XV XW (upd XR r 0) XQ XZ XC XD) : wX_goOn_9 post (nI r) (n + 1) (nI i) Ln Lk Tn Op Tg Od XS XP XE XV XW XR XQ XZ XC XD := by
  simp only [wX_goOn_9, wX_goOn_45, rf_rc hr, rf_r3 hr, hS, true_and, forall_eq]
  refine br_f (nI_ge (b := 2501) hi (by decide)) (br_t (by trivial) ?_)
  by_cases h0 : XP r < 0
  · exact br_t h0 (x_end hr (by rw [nI_1]; exact h))
  · have h1 : ¬ XP r < Ln := by rcases ho with z | z; exact absurd z h0; exact z
    exact br_f h0 (br_f h1 (x_end hr (by rw [nI_1]; exact h)))
theorem xg_plainA {n i : Nat} (hr : r < 3) (hS : XS r = 5) (hi : i < 2501) (hL : Ln = nI len) (hl : len ≤ 16) (hP : XP r = nI p) (hp : p < len) (ho : o ≤ 4) (hO : Op p = nI o) (hG : Tg p = nI g) (hg : g < 4) (hB : Od p &&& 3 = nI k) (hk : k < 4) (hE : XE r = nI e) (he : e < 59)
    (h : wX_goOn_9 post (nI r) n (nI (i + 1)) Ln Lk Tn Op Tg Od XS (upd XP r (lf_P o p (XQ (r * 4 + g)) (Od p))) (upd XE r (nI (e + 1))) XV XW XR (lf_Q o XQ (r * 4 + g) (r * 4 + k) (Od p)) XZ XC XD) : wX_goOn_9 post (nI r) (n + 1) (nI i) Ln Lk Tn Op Tg Od XS XP XE XV XW XR XQ XZ XC XD := by
  have hp16 : p < 16 := by omega
  simp only [wX_goOn_9, rf_rc hr, rf_r3 hr, hS, hP, hL, rf_pc hp16, rf_p16 hp16, hO, true_and, forall_eq]
  refine br_f (nI_ge (b := 2501) hi (by decide)) (br_t (by trivial) (br_f (nI_pos (by omega)) (br_t (nI_lt hp (by omega)) (br_f (nI_nlt (a := 4) ho (by decide)) ?_))))
  subst hL
  exact x_plain hr hP hp16 ho hO hG hg hB hk (x_147a hr hE he (by rw [nI_1]; exact h))
theorem xg_plainB {n i : Nat} (hr : r < 3) (hS : XS r = 5) (hi : i < 2501) (hL : Ln = nI len) (hl : len ≤ 16) (hP : XP r = nI p) (hp : p < len) (ho : o ≤ 4) (hO : Op p = nI o) (hG : Tg p = nI g) (hg : g < 4) (hB : Od p &&& 3 = nI k) (hk : k < 4) (hE : XE r = nI 59)
    (h : wX_goOn_9 post (nI r) n (nI (i + 1)) Ln Lk Tn Op Tg Od (upd XS r 4) (upd XP r (lf_P o p (XQ (r * 4 + g)) (Od p))) (upd XE r (nI 60)) XV XW (upd XR r 0) (lf_Q o XQ (r * 4 + g) (r * 4 + k) (Od p)) XZ XC XD) : wX_goOn_9 post (nI r) (n + 1) (nI i) Ln Lk Tn Op Tg Od XS XP XE XV XW XR XQ XZ XC XD := by
  have hp16 : p < 16 := by omega
  simp only [wX_goOn_9, rf_rc hr, rf_r3 hr, hS, hP, hL, rf_pc hp16, rf_p16 hp16, hO, true_and, forall_eq]
  refine br_f (nI_ge (b := 2501) hi (by decide)) (br_t (by trivial) (br_f (nI_pos (by omega)) (br_t (nI_lt hp (by omega)) (br_f (nI_nlt (a := 4) ho (by decide)) ?_))))
  subst hL
  exact x_plain hr hP hp16 ho hO hG hg hB hk (x_147b hr hE (by rw [nI_1]; exact h))
theorem xg_8 {n i : Nat} (hr : r < 3) (hS : XS r = 5) (hi : i < 2501) (hL : Ln = nI len) (hl : len ≤ 16) (hP : XP r = nI p) (hp : p < len) (hO : Op p = 8) (hG : Tg p = nI g) (hg : g < 4)
    (h : wX_goOn_9 post (nI r) n (nI (i + 1)) Ln Lk Tn Op Tg Od (upd XS r 4) XP XE XV XW (upd XR r (XQ (r * 4 + g))) XQ XZ XC XD) : wX_goOn_9 post (nI r) (n + 1) (nI i) Ln Lk Tn Op Tg Od XS XP XE XV XW XR XQ XZ XC XD := by
  have hp16 : p < 16 := by omega
  simp only [wX_goOn_9, rf_rc hr, rf_r3 hr, hS, hP, hL, rf_pc hp16, rf_p16 hp16, hO, true_and, forall_eq]
  refine br_f (nI_ge (b := 2501) hi (by decide)) (br_t (by trivial) (br_f (nI_pos (by omega)) (br_t (nI_lt hp (by omega)) (br_t (by decide) (br_t (by trivial) ?_)))))
  subst hL
  refine x_tgt hr hP hp16 hG ?_
  simp only [rf_tc hr hg, rf_t12 hr hg, true_and]
  exact x_end hr (by rw [nI_1]; exact h)
/-- a wait: what comeToWait asks -/
theorem xg_w {n i : Nat} {u : SX} (hr : r < 3) (hS : XS r = 5) (hi : i < 2501) (hL : Ln = nI len) (hl : len ≤ 16) (hP : XP r = nI p) (hp : p < len) (h5 : 5 ≤ o) (h7 : o ≤ 7) (hO : Op p = nI o)
    (hu : ∀ q : SX → Prop, q u → wpX_comeToWait q (Ln, Lk, Tn, Op, Tg, Od, XS, XP, XE, XV, XW, XR, XQ, XZ, XC, XD) (nI r))
    (h : wX_goOn_9 post (nI r) n (nI (i + 1)) u.1 u.2.1 u.2.2.1 u.2.2.2.1 u.2.2.2.2.1 u.2.2.2.2.2.1 u.2.2.2.2.2.2.1 u.2.2.2.2.2.2.2.1 u.2.2.2.2.2.2.2.2.1 u.2.2.2.2.2.2.2.2.2.1 u.2.2.2.2.2.2.2.2.2.2.1 u.2.2.2.2.2.2.2.2.2.2.2.1 u.2.2.2.2.2.2.2.2.2.2.2.2.1 u.2.2.2.2.2.2.2.2.2.2.2.2.2.1 u.2.2.2.2.2.2.2.2.2.2.2.2.2.2.1 u.2.2.2.2.2.2.2.2.2.2.2.2.2.2.2) : wX_goOn_9 post (nI r) (n + 1) (nI i) Ln Lk Tn Op Tg Od XS XP XE XV XW XR XQ XZ XC XD := by
  have hp16 : p < 16 := by omega
  have hu2 := hu
  simp only [wX_goOn_9, rf_rc hr, rf_r3 hr, hS, hP, hL, rf_pc hp16, rf_p16 hp16, hO, true_and, forall_eq]
  subst hL
  refine br_f (nI_ge (b := 2501) hi (by decide)) (br_t (by trivial) (br_f (nI_pos (by omega)) (br_t (nI_lt hp (by omega)) (br_t (nI_lt (a := 4) (by omega) (by omega)) (br_f (fun z => absurd ((nI_eq (b := 8) (by omega) (by omega)).mp z) (by omega)) ?_)))))
  apply hu
  rw [nI_1]
  exact h
end
end
section
section
variable {Ln Lk Tn : Int32} {Op Tg Od Ys Yp Ye Yq Yr Yw Yv Yn Yh Yz Yd : Nat → Int32} {post : SY → Prop} {po : Int32 → SY → Prop} {pr : Int32 → Prop} {r p g k o e v len : Nat}
theorem y_end {w : Int32} (hr : r < 3) (h : post (Ln, Lk, Tn, Op, Tg, Od, upd Ys r 4, Yp, Ye, Yq, upd Yr r w, Yw, Yv, Yn, Yh, Yz, Yd)) : wpY_end post (Ln, Lk, Tn, Op, Tg, Od, Ys, Yp, Ye, Yq, Yr, Yw, Yv, Yn, Yh, Yz, Yd) (nI r) w := by
  simp only [wpY_end, rf_rc hr, rf_r3 hr, true_and, forall_eq]
  exact h
theorem y_past0 {w : Int32} (hr : r < 3) (hP : Yp r = nI p) (hV : Yv r = nI v) (h : post (Ln, Lk, Tn, Op, Tg, Od, Ys, upd Yp r (nI (p + 1)), upd Ye r 0, Yq, Yr, Yw, upd Yv r (nI (v + 1)), Yn, Yh, Yz, Yd)) : wpY_pastWait post (Ln, Lk, Tn, Op, Tg, Od, Ys, Yp, Ye, Yq, Yr, Yw, Yv, Yn, Yh, Yz, Yd) (nI r) 0 w := by
  simp only [wpY_pastWait, wY_pastWait_25, rf_rc hr, rf_r3 hr, hP, hV, nI_1, true_and, forall_eq]
  exact br_t (by trivial) h
theorem y_past1 {w : Int32} (hr : r < 3) (hP : Yp r = nI p) (hp : p < 16) (hG : Tg p = nI g) (hg : g < 4) (hV : Yv r = nI v) (h : post (Ln, Lk, Tn, Op, Tg, Od, Ys, upd Yp r (nI (p + 1)), upd Ye r 0, upd Yq (r * 4 + g) w, Yr, Yw, upd Yv r (nI (v + 1)), Yn, Yh, Yz, Yd)) : wpY_pastWait post (Ln, Lk, Tn, Op, Tg, Od, Ys, Yp, Ye, Yq, Yr, Yw, Yv, Yn, Yh, Yz, Yd) (nI r) 1 w := by
  simp only [wpY_pastWait, wY_pastWait_25, rf_rc hr, rf_r3 hr, hP, hV, rf_pc hp, rf_p16 hp, hG, rf_m4, nI_add, rf_tc hr hg, rf_t12 hr hg, nI_1, true_and, forall_eq]
  exact br_f (by decide) h
theorem y_plain (hr : r < 3) (hP : Yp r = nI p) (hp : p < 16) (ho : o ≤ 4) (hO : Op p = nI o) (hG : Tg p = nI g) (hg : g < 4) (hB : Od p &&& 3 = nI k) (hk : k < 4)
    (h : post (Ln, Lk, Tn, Op, Tg, Od, Ys, upd Yp r (lf_P o p (Yq (r * 4 + g)) (Od p)), Ye, lf_Q o Yq (r * 4 + g) (r * 4 + k) (Od p), Yr, Yw, Yv, Yn, Yh, Yz, Yd)) : wpY_plain post (Ln, Lk, Tn, Op, Tg, Od, Ys, Yp, Ye, Yq, Yr, Yw, Yv, Yn, Yh, Yz, Yd) (nI r) := by
  have ho2 : o = 0 ∨ o = 1 ∨ o = 2 ∨ o = 3 ∨ o = 4 := by omega
  rcases ho2 with rfl | rfl | rfl | rfl | rfl
  · have hO : Op p = 0 := hO
    simp only [wpY_plain, wY_plain_67, wY_plain_88, wY_plain_109, rf_rc hr, rf_r3 hr, hP, rf_pc hp, rf_p16 hp, hO, hG, hB, rf_m4, nI_add, nI_1, rf_tc hr hg, rf_t12 hr hg, rf_tc hr hk, rf_t12 hr hk, rf_uu, true_and, forall_eq]
    exact br_t (by trivial) (br_f (by decide) (br_f (by decide) (br_f (by decide) (br_f (by decide) h))))
  · have hO : Op p = 1 := hO
    simp only [wpY_plain, wY_plain_67, wY_plain_88, wY_plain_109, rf_rc hr, rf_r3 hr, hP, rf_pc hp, rf_p16 hp, hO, hG, hB, rf_m4, nI_add, nI_1, rf_tc hr hg, rf_t12 hr hg, rf_tc hr hk, rf_t12 hr hk, rf_uu, true_and, forall_eq]
    exact br_f (by decide) (br_t (by trivial) (br_f (by decide) (br_f (by decide) (br_f (by decide) h))))
  · have hO : Op p = 2 := hO
    simp only [wpY_plain, wY_plain_67, wY_plain_88, wY_plain_109, rf_rc hr, rf_r3 hr, hP, rf_pc hp, rf_p16 hp, hO, hG, hB, rf_m4, nI_add, nI_1, rf_tc hr hg, rf_t12 hr hg, rf_tc hr hk, rf_t12 hr hk, rf_uu, true_and, forall_eq]
    exact br_f (by decide) (br_f (by decide) (br_t (by trivial) (br_f (by decide) (br_f (by decide) h))))
  · have hO : Op p = 3 := hO
    simp only [wpY_plain, wY_plain_67, wY_plain_88, wY_plain_109, rf_rc hr, rf_r3 hr, hP, rf_pc hp, rf_p16 hp, hO, hG, hB, rf_m4, nI_add, nI_1, rf_tc hr hg, rf_t12 hr hg, rf_tc hr hk, rf_t12 hr hk, rf_uu, true_and, forall_eq]
    exact br_f (by decide) (br_f (by decide) (br_f (by decide) (br_t (by trivial) h)))
  · have hO : Op p = 4 := hO
    simp only [wpY_plain, wY_plain_67, wY_plain_88, wY_plain_109, rf_rc hr, rf_r3 hr, hP, rf_pc hp, rf_p16 hp, hO, hG, hB, rf_m4, nI_add, nI_1, rf_tc hr hg, rf_t12 hr hg, rf_tc hr hk, rf_t12 hr hk, rf_uu, true_and, forall_eq]
    by_cases hq : Yq (r * 4 + g) ≤ 0
    · have e : lf_P 4 p (Yq (r * 4 + g)) (Od p) = nI (p + 1) := if_pos hq
      rw [e] at h
      exact br_f (by decide) (br_f (by decide) (br_f (by decide) (br_f (by decide) (br_t (by trivial) (br_t hq h)))))
    · have e : lf_P 4 p (Yq (r * 4 + g)) (Od p) = Od p := if_neg hq
      rw [e] at h
      exact br_f (by decide) (br_f (by decide) (br_f (by decide) (br_f (by decide) (br_t (by trivial) (br_f hq h)))))
theorem ys_scan {XZ XC XD : Nat → Int32} {n c : Nat} {t : Nat → Nat} (hr : r < 3) (h : sg_R r XZ XC XD Yn Yh Yz Yd n t) (hc : c < 2) : ∀ d i, i + d = n → sg_n Yh (r * 24) (nI c) i ≤ t c →
    ∃ w : Int32, ((t c = sg_n Yh (r * 24) (nI c) n ∧ w = -1) ∨ ∃ i0, i0 < n ∧ w = nI (r * 24 + i0) ∧ Yh (r * 24 + i0) = nI c ∧ sg_n Yh (r * 24) (nI c) i0 = t c) ∧
      ∀ pr : Int32 → Prop, pr w → wY_firstSignal_5 pr (nI r) (nI c) Ln Lk Tn Op Tg Od Ys Yp Ye Yq Yr Yw Yv Yn Yh Yz Yd (d + 1) (nI (r * 24 + i)) := by
  obtain ⟨h1, h2, h3, h4⟩ := h
  intro d
  induction d with
  | zero =>
    intro i hi hs
    have : i = n := by omega
    subst this
    refine ⟨-1, Or.inl ⟨by have := (h3 c hc).2.2; omega, rfl⟩, fun pr hp => ?_⟩
    simp only [wY_firstSignal_5, rf_rc hr, rf_r3 hr, h2, rf_m24, nI_add, true_and]
    exact br_t (Int32.le_refl _) hp
  | succ d ih =>
    intro i hi hs
    have hin : i < n := by omega
    obtain ⟨b, hb, b1, b2, b3⟩ := h4 i hin
    by_cases e : b = c
    · subst e
      by_cases hq : sg_n Yh (r * 24) (nI b) i < t b
      · rw [if_pos hq] at b3
        obtain ⟨w, hw, hY⟩ := ih (i + 1) (by omega) (by rw [sg_y b1]; omega)
        refine ⟨w, hw, fun pr hp => ?_⟩
        rw [wY_firstSignal_5]
        simp only [rf_rc hr, rf_r3 hr, h2, rf_m24, nI_add, rf_yc hr (show i < 24 by omega), rf_y72 hr (show i < 24 by omega), b1, b3, nI_1, true_and, forall_eq]
        exact br_f (nI_ge (by omega) (by omega)) (br_t (by trivial) (br_f (by decide) (hY pr hp)))
      · rw [if_neg hq] at b3
        refine ⟨nI (r * 24 + i), Or.inr ⟨i, hin, rfl, b1, by omega⟩, fun pr hp => ?_⟩
        rw [wY_firstSignal_5]
        simp only [rf_rc hr, rf_r3 hr, h2, rf_m24, nI_add, rf_yc hr (show i < 24 by omega), rf_y72 hr (show i < 24 by omega), b1, b3, nI_1, true_and, forall_eq]
        exact br_f (nI_ge (by omega) (by omega)) (br_t (by trivial) (br_t (by trivial) hp))
    · have hne : ¬ Yh (r * 24 + i) = nI c := by rw [b1]; exact fun z => e (sg_cc hb hc z)
      obtain ⟨w, hw, hY⟩ := ih (i + 1) (by omega) (by rw [sg_no hne]; exact hs)
      refine ⟨w, hw, fun pr hp => ?_⟩
      rw [wY_firstSignal_5]
      simp only [rf_rc hr, rf_r3 hr, h2, rf_m24, nI_add, rf_yc hr (show i < 24 by omega), rf_y72 hr (show i < 24 by omega), nI_1, true_and, forall_eq]
      exact br_f (nI_ge (by omega) (by omega)) (br_f hne (hY pr hp))
theorem ys_first {XZ XC XD : Nat → Int32} {n c : Nat} {t : Nat → Nat} (hr : r < 3) (h : sg_R r XZ XC XD Yn Yh Yz Yd n t) (hc : c < 2) :
    ∃ w : Int32, ((t c = sg_n Yh (r * 24) (nI c) n ∧ w = -1) ∨ ∃ i0, i0 < n ∧ w = nI (r * 24 + i0) ∧ Yh (r * 24 + i0) = nI c ∧ sg_n Yh (r * 24) (nI c) i0 = t c) ∧
      ∀ pr : Int32 → Prop, pr w → wpY_firstSignal pr (Ln, Lk, Tn, Op, Tg, Od, Ys, Yp, Ye, Yq, Yr, Yw, Yv, Yn, Yh, Yz, Yd) (nI r) (nI c) := by
  obtain ⟨w, hw, hY⟩ := ys_scan (Ln := Ln) (Lk := Lk) (Tn := Tn) (Op := Op) (Tg := Tg) (Od := Od) (Ys := Ys) (Yp := Yp) (Ye := Ye) (Yq := Yq) (Yr := Yr) (Yw := Yw) (Yv := Yv) hr h hc n 0 (by omega) (Nat.zero_le _)
  refine ⟨w, hw, fun pr hp => ?_⟩
  simp only [wpY_firstSignal, rf_m24, forall_eq]
  exact ⟨n + 1, hY pr hp⟩
theorem y_w8 (hr : r < 3) (hP : Yp r = nI p) (hp : p < 16) (hO : Op p = 8) (hG : Tg p = nI g) (hg : g < 4) (h : po 0 (Ln, Lk, Tn, Op, Tg, Od, upd Ys r 4, Yp, Ye, Yq, upd Yr r (Yq (r * 4 + g)), Yw, Yv, Yn, Yh, Yz, Yd)) : wpY_waits po (Ln, Lk, Tn, Op, Tg, Od, Ys, Yp, Ye, Yq, Yr, Yw, Yv, Yn, Yh, Yz, Yd) (nI r) := by
  simp only [wpY_waits, rf_rc hr, rf_r3 hr, hP, rf_pc hp, rf_p16 hp, hO, hG, rf_m4, nI_add, rf_tc hr hg, rf_t12 hr hg, true_and, forall_eq]
  refine br_t (by trivial) (y_end hr ?_)
  simp only [wY_waits_40, wY_waits_52, wY_waits_112]
  exact br_f (by decide) (br_f (by decide) (br_f (by decide) h))
theorem y_w5 (hr : r < 3) (hP : Yp r = nI p) (hp : p < 16) (hO : Op p = 5) (h : po 0 (Ln, Lk, Tn, Op, Tg, Od, upd Ys r 1, Yp, Ye, Yq, Yr, Yw, Yv, Yn, Yh, Yz, Yd)) : wpY_waits po (Ln, Lk, Tn, Op, Tg, Od, Ys, Yp, Ye, Yq, Yr, Yw, Yv, Yn, Yh, Yz, Yd) (nI r) := by
  simp only [wpY_waits, rf_rc hr, rf_r3 hr, hP, rf_pc hp, rf_p16 hp, hO, true_and, forall_eq]
  refine br_f (by decide) ?_
  simp only [wY_waits_40, wY_waits_52, wY_waits_112, rf_rc hr, rf_r3 hr, true_and, forall_eq]
  exact br_t (by trivial) (br_f (by decide) (br_f (by decide) h))
theorem y_w6 (hr : r < 3) (hP : Yp r = nI p) (hp : p < 16) (hO : Op p = 6) (h : po 0 (Ln, Lk, Tn, Op, Tg, Od, upd Ys r 2, Yp, Ye, Yq, Yr, upd Yw r (Tn + lf_S (Od p)), Yv, Yn, Yh, Yz, Yd)) : wpY_waits po (Ln, Lk, Tn, Op, Tg, Od, Ys, Yp, Ye, Yq, Yr, Yw, Yv, Yn, Yh, Yz, Yd) (nI r) := by
  simp only [wpY_waits, rf_rc hr, rf_r3 hr, hP, rf_pc hp, rf_p16 hp, hO, true_and, forall_eq]
  refine br_f (by decide) ?_
  unfold lf_S at h
  simp only [wY_waits_40, wY_waits_52, wY_waits_110, wY_waits_112, rf_rc hr, rf_r3 hr, rf_pc hp, rf_p16 hp, true_and, forall_eq]
  refine br_f (by decide) (br_t (by trivial) ?_)
  by_cases h1 : 1 ≤ Od p
  · rw [if_pos h1] at h
    by_cases h2 : Od p ≤ 100
    · rw [if_pos h2] at h
      exact br_t h1 (br_t h2 (br_f (by decide) h))
    · rw [if_neg h2] at h
      exact br_t h1 (br_f h2 (br_f (by decide) h))
  · rw [if_neg h1] at h
    exact br_f h1 (br_f (by decide) h)
theorem y_w7w {c : Nat} (hr : r < 3) (hP : Yp r = nI p) (hp : p < 16) (hO : Op p = 7) (hB : Od p &&& 1 = nI c) (hF : ∀ pr : Int32 → Prop, pr (-1) → wpY_firstSignal pr (Ln, Lk, Tn, Op, Tg, Od, Ys, Yp, Ye, Yq, Yr, Yw, Yv, Yn, Yh, Yz, Yd) (nI r) (nI c)) (h : po 0 (Ln, Lk, Tn, Op, Tg, Od, upd Ys r 3, Yp, Ye, Yq, Yr, Yw, Yv, Yn, Yh, Yz, Yd)) : wpY_waits po (Ln, Lk, Tn, Op, Tg, Od, Ys, Yp, Ye, Yq, Yr, Yw, Yv, Yn, Yh, Yz, Yd) (nI r) := by
  simp only [wpY_waits, rf_rc hr, rf_r3 hr, hP, rf_pc hp, rf_p16 hp, hO, true_and, forall_eq]
  refine br_f (by decide) ?_
  unfold wY_waits_40
  refine br_f (by decide) ?_
  unfold wY_waits_52
  refine br_f (by decide) ?_
  unfold wY_waits_112
  refine br_t (by trivial) ⟨rf_p16 hp, ?_⟩
  rw [rf_pc hp, hB]
  apply hF
  simp only [rf_rc hr, rf_r3 hr, true_and, forall_eq]
  exact br_f (by decide) h
theorem y_b1 : vp_nar .boolean 1 = 1 := by decide
theorem y_b0 : vp_nar .boolean 0 = 0 := by decide
theorem y_w7t {c i : Nat} (hr : r < 3) (hP : Yp r = nI p) (hp : p < 16) (hO : Op p = 7) (hG : Tg p = nI g) (hg : g < 4) (hB : Od p &&& 1 = nI c) (hi : i < 24) (hV : Yv r = nI v) (hF : ∀ pr : Int32 → Prop, pr (nI (r * 24 + i)) → wpY_firstSignal pr (Ln, Lk, Tn, Op, Tg, Od, Ys, Yp, Ye, Yq, Yr, Yw, Yv, Yn, Yh, Yz, Yd) (nI r) (nI c))
    (h : po 1 (Ln, Lk, Tn, Op, Tg, Od, upd Ys r 3, upd Yp r (nI (p + 1)), upd Ye r 0, upd Yq (r * 4 + g) (Yz (r * 24 + i)), Yr, Yw, upd Yv r (nI (v + 1)), Yn, Yh, Yz, upd Yd (r * 24 + i) 1)) : wpY_waits po (Ln, Lk, Tn, Op, Tg, Od, Ys, Yp, Ye, Yq, Yr, Yw, Yv, Yn, Yh, Yz, Yd) (nI r) := by
  simp only [wpY_waits, rf_rc hr, rf_r3 hr, hP, rf_pc hp, rf_p16 hp, hO, true_and, forall_eq]
  refine br_f (by decide) ?_
  unfold wY_waits_40
  refine br_f (by decide) ?_
  unfold wY_waits_52
  refine br_f (by decide) ?_
  unfold wY_waits_112
  refine br_t (by trivial) ⟨rf_p16 hp, ?_⟩
  rw [rf_pc hp, hB]
  apply hF
  simp only [rf_rc hr, rf_r3 hr, rf_yc hr hi, rf_y72 hr hi, y_b1, true_and, forall_eq]
  exact br_t (nI_pos' (by omega)) (y_past1 hr hP hp hG hg hV h)
theorem yg_exit {n i : Nat} (h : post (Ln, Lk, Tn, Op, Tg, Od, Ys, Yp, Ye, Yq, Yr, Yw, Yv, Yn, Yh, Yz, Yd)) : wY_goOn_4 post (nI r) (n + 1) 0 (nI i) Ln Lk Tn Op Tg Od Ys Yp Ye Yq Yr Yw Yv Yn Yh Yz Yd := by
  simp only [wY_goOn_4]
  exact br_c (fun _ => h) (fun _ => br_t (by trivial) h)
theorem yg_84 {J : Int32 → Int32 → Int32 → Int32 → Int32 → (Nat → Int32) → (Nat → Int32) → (Nat → Int32) → (Nat → Int32) → (Nat → Int32) → (Nat → Int32) → (Nat → Int32) → (Nat → Int32) → (Nat → Int32) → (Nat → Int32) → (Nat → Int32) → (Nat → Int32) → (Nat → Int32) → (Nat → Int32) → Prop} {i : Nat} (hr : r < 3)
    (h : J 0 (nI (i + 1)) Ln Lk Tn Op Tg Od (upd Ys r 4) Yp Ye Yq (upd Yr r 0) Yw Yv Yn Yh Yz Yd) : wY_goOn_84 post J (nI r) (nI i) Ln Lk Tn Op Tg Od Ys Yp Ye Yq Yr Yw Yv Yn Yh Yz Yd := by
  simp only [wY_goOn_84, nI_1, forall_eq]
  exact y_end hr h
theorem yg_out {n i : Nat} (hr : r < 3) (hi : i < 3000) (ho : Yp r < 0 ∨ ¬ Yp r < Ln) (h : wY_goOn_4 post (nI r) n 0 (nI (i + 1)) Ln Lk Tn Op Tg Od (upd Ys r 4) Yp Ye Yq (upd Yr r 0) Yw Yv Yn Yh Yz Yd) : wY_goOn_4 post (nI r) (n + 1) 1 (nI i) Ln Lk Tn Op Tg Od Ys Yp Ye Yq Yr Yw Yv Yn Yh Yz Yd := by
  simp only [wY_goOn_4, wY_goOn_41, rf_rc hr, rf_r3 hr, true_and]
  refine br_f (nI_ge (b := 3000) hi (by decide)) (br_f (by decide) ?_)
  by_cases h0 : Yp r < 0
  · exact br_t h0 (br_t (by trivial) (yg_84 hr h))
  · have h1 : ¬ Yp r < Ln := by rcases ho with z | z; exact absurd z h0; exact z
    exact br_f h0 (br_t (Int32.not_lt.mp h1) (br_t (by trivial) (yg_84 hr h)))
theorem yg_60 {n i : Nat} (hr : r < 3) (hi : i < 3000) (hE : Ye r = nI 60) (h : wY_goOn_4 post (nI r) n 0 (nI (i + 1)) Ln Lk Tn Op Tg Od (upd Ys r 4) Yp Ye Yq (upd Yr r 0) Yw Yv Yn Yh Yz Yd) : wY_goOn_4 post (nI r) (n + 1) 1 (nI i) Ln Lk Tn Op Tg Od Ys Yp Ye Yq Yr Yw Yv Yn Yh Yz Yd := by
  simp only [wY_goOn_4, wY_goOn_41, rf_rc hr, rf_r3 hr, true_and]
  refine br_f (nI_ge (b := 3000) hi (by decide)) (br_f (by decide) ?_)
  refine br_c (fun _ => br_t (by trivial) (yg_84 hr h)) (fun _ => br_c (fun _ => br_t (by trivial) (yg_84 hr h)) (fun _ => br_f (by decide) ?_))
  simp only [rf_rc hr, rf_r3 hr, true_and]
  exact br_t hE (yg_84 hr h)
theorem yg_in {n i : Nat} (hr : r < 3) (hi : i < 3000) (hL : Ln = nI len) (hl : len ≤ 16) (hP : Yp r = nI p) (hp : p < len) (h : wY_goOn_42 post (wY_goOn_4 post (nI r) n) (nI r) 1 (nI i) 1 Ln Lk Tn Op Tg Od Ys Yp Ye Yq Yr Yw Yv Yn Yh Yz Yd) : wY_goOn_4 post (nI r) (n + 1) 1 (nI i) Ln Lk Tn Op Tg Od Ys Yp Ye Yq Yr Yw Yv Yn Yh Yz Yd := by
  rw [wY_goOn_4]
  simp only [rf_rc hr, rf_r3 hr, true_and]
  refine br_f (nI_ge (b := 3000) hi (by decide)) (br_f (by decide) (br_f ?_ (br_f ?_ h)))
  · rw [hP]; exact nI_pos (by omega)
  · rw [hP, hL]; exact nI_ge hp (by omega)
end
end
section
section
variable {Ln Lk Tn : Int32} {Op Tg Od Ys Yp Ye Yq Yr Yw Yv Yn Yh Yz Yd : Nat → Int32} {post : SY → Prop} {r p g k o e v len : Nat}
theorem y_isW {pr : Int32 → Prop} (hp : p < 16) (hO : Op p = nI o) (h5 : 5 ≤ o) (h7 : o ≤ 7) (h : pr 1) : wpY_isWait pr (Ln, Lk, Tn, Op, Tg, Od, Ys, Yp, Ye, Yq, Yr, Yw, Yv, Yn, Yh, Yz, Yd) (nI p) := by
  simp only [wpY_isWait, rf_pc hp, rf_p16 hp, hO, true_and]
  exact br_f (nI_nlt (b := 5) h5 (by omega)) (br_f (nI_nlt (a := 7) h7 (by decide)) h)
theorem y_isP {pr : Int32 → Prop} (hp : p < 16) (hO : Op p = nI o) (h4 : o ≤ 4) (h : pr 0) : wpY_isWait pr (Ln, Lk, Tn, Op, Tg, Od, Ys, Yp, Ye, Yq, Yr, Yw, Yv, Yn, Yh, Yz, Yd) (nI p) := by
  simp only [wpY_isWait, rf_pc hp, rf_p16 hp, hO, true_and]
  exact br_t (nI_lt (b := 5) (by omega) (by decide)) h
theorem y_is8 {pr : Int32 → Prop} (hp : p < 16) (hO : Op p = 8) (h : pr 0) : wpY_isWait pr (Ln, Lk, Tn, Op, Tg, Od, Ys, Yp, Ye, Yq, Yr, Yw, Yv, Yn, Yh, Yz, Yd) (nI p) := by
  simp only [wpY_isWait, rf_pc hp, rf_p16 hp, hO, true_and]
  exact br_f (by decide) (br_t (by decide) h)
theorem y_n60 (he : e < 60) (hE : Ye r = nI e) : ¬ Ye r = 60 := by
  rw [hE]
  exact fun z => absurd ((nI_eq (b := 60) (by omega) (by decide)).mp z) (by omega)
theorem y_n40 (he : v < 40) (hE : Yv r = nI v) : ¬ Yv r = 40 := by
  rw [hE]
  exact fun z => absurd ((nI_eq (b := 40) (by omega) (by decide)).mp z) (by omega)
theorem yg_plain {n i : Nat} (hr : r < 3) (hi : i < 3000) (hL : Ln = nI len) (hl : len ≤ 16) (hP : Yp r = nI p) (hp : p < len) (ho : o ≤ 4) (hO : Op p = nI o) (hG : Tg p = nI g) (hg : g < 4) (hB : Od p &&& 3 = nI k) (hk : k < 4) (hE : Ye r = nI e) (he : e < 60)
    (h : wY_goOn_4 post (nI r) n 1 (nI (i + 1)) Ln Lk Tn Op Tg Od Ys (upd Yp r (lf_P o p (Yq (r * 4 + g)) (Od p))) (upd Ye r (nI (e + 1))) (lf_Q o Yq (r * 4 + g) (r * 4 + k) (Od p)) Yr Yw Yv Yn Yh Yz Yd) : wY_goOn_4 post (nI r) (n + 1) 1 (nI i) Ln Lk Tn Op Tg Od Ys Yp Ye Yq Yr Yw Yv Yn Yh Yz Yd := by
  have hp16 : p < 16 := by omega
  refine yg_in hr hi hL hl hP hp ?_
  unfold wY_goOn_42
  simp only [rf_rc hr, rf_r3 hr, true_and]
  refine br_f (by decide) (br_f (y_n60 he hE) ?_)
  rw [hP]
  refine y_isP hp16 hO ho ?_
  refine br_t (by trivial) ?_
  simp only [wY_goOn_95, rf_rc hr, rf_r3 hr, hP, rf_pc hp16, rf_p16 hp16, hO, hE, nI_1, true_and, forall_eq]
  refine br_t (nI_lt (b := 5) (by omega) (by decide)) ?_
  exact y_plain hr hP hp16 ho hO hG hg hB hk h
theorem yg_8 {n i : Nat} (hr : r < 3) (hi : i < 3000) (hL : Ln = nI len) (hl : len ≤ 16) (hP : Yp r = nI p) (hp : p < len) (hO : Op p = 8) (hG : Tg p = nI g) (hg : g < 4) (hE : Ye r = nI e) (he : e < 60)
    (h : wY_goOn_4 post (nI r) n 0 (nI (i + 1)) Ln Lk Tn Op Tg Od (upd Ys r 4) Yp Ye Yq (upd Yr r (Yq (r * 4 + g))) Yw Yv Yn Yh Yz Yd) : wY_goOn_4 post (nI r) (n + 1) 1 (nI i) Ln Lk Tn Op Tg Od Ys Yp Ye Yq Yr Yw Yv Yn Yh Yz Yd := by
  have hp16 : p < 16 := by omega
  refine yg_in hr hi hL hl hP hp ?_
  unfold wY_goOn_42
  simp only [rf_rc hr, rf_r3 hr, true_and]
  refine br_f (by decide) (br_f (y_n60 he hE) ?_)
  rw [hP]
  refine y_is8 hp16 hO ?_
  refine br_t (by trivial) ?_
  simp only [wY_goOn_95, rf_rc hr, rf_r3 hr, hP, rf_pc hp16, rf_p16 hp16, hO, nI_1, true_and, forall_eq]
  refine br_f (by decide) ?_
  exact y_w8 hr hP hp16 hO hG hg h
theorem yg_full {n i : Nat} (hr : r < 3) (hi : i < 3000) (hL : Ln = nI len) (hl : len ≤ 16) (hP : Yp r = nI p) (hp : p < len) (h5 : 5 ≤ o) (h7 : o ≤ 7) (hO : Op p = nI o) (hE : Ye r = nI e) (he : e < 60) (hV : Yv r = nI 40)
    (h : wY_goOn_4 post (nI r) n 0 (nI (i + 1)) Ln Lk Tn Op Tg Od (upd Ys r 4) Yp Ye Yq (upd Yr r 0) Yw Yv Yn Yh Yz Yd) : wY_goOn_4 post (nI r) (n + 1) 1 (nI i) Ln Lk Tn Op Tg Od Ys Yp Ye Yq Yr Yw Yv Yn Yh Yz Yd := by
  have hp16 : p < 16 := by omega
  refine yg_in hr hi hL hl hP hp ?_
  unfold wY_goOn_42
  simp only [rf_rc hr, rf_r3 hr, true_and]
  refine br_f (by decide) (br_f (y_n60 he hE) ?_)
  rw [hP]
  refine y_isW hp16 hO h5 h7 ?_
  exact br_f (by decide) (br_t hV (yg_84 hr h))
theorem yg_w {n i : Nat} {w : Int32} {u : SY} (hr : r < 3) (hi : i < 3000) (hL : Ln = nI len) (hl : len ≤ 16) (hP : Yp r = nI p) (hp : p < len) (h5 : 5 ≤ o) (h7 : o ≤ 7) (hO : Op p = nI o) (hE : Ye r = nI e) (he : e < 60) (hV : Yv r = nI v) (hv : v < 40)
    (hu : ∀ q : Int32 → SY → Prop, q w u → wpY_waits q (Ln, Lk, Tn, Op, Tg, Od, Ys, Yp, Ye, Yq, Yr, Yw, Yv, Yn, Yh, Yz, Yd) (nI r))
    (h : wY_goOn_4 post (nI r) n w (nI (i + 1)) u.1 u.2.1 u.2.2.1 u.2.2.2.1 u.2.2.2.2.1 u.2.2.2.2.2.1 u.2.2.2.2.2.2.1 u.2.2.2.2.2.2.2.1 u.2.2.2.2.2.2.2.2.1 u.2.2.2.2.2.2.2.2.2.1 u.2.2.2.2.2.2.2.2.2.2.1 u.2.2.2.2.2.2.2.2.2.2.2.1 u.2.2.2.2.2.2.2.2.2.2.2.2.1 u.2.2.2.2.2.2.2.2.2.2.2.2.2.1 u.2.2.2.2.2.2.2.2.2.2.2.2.2.2.1 u.2.2.2.2.2.2.2.2.2.2.2.2.2.2.2.1 u.2.2.2.2.2.2.2.2.2.2.2.2.2.2.2.2) : wY_goOn_4 post (nI r) (n + 1) 1 (nI i) Ln Lk Tn Op Tg Od Ys Yp Ye Yq Yr Yw Yv Yn Yh Yz Yd := by
  have hp16 : p < 16 := by omega
  refine yg_in hr hi hL hl hP hp ?_
  unfold wY_goOn_42
  simp only [rf_rc hr, rf_r3 hr, true_and]
  refine br_f (by decide) (br_f (y_n60 he hE) ?_)
  rw [hP]
  refine y_isW hp16 hO h5 h7 ?_
  refine br_f (by decide) (br_f (y_n40 hv hV) ?_)
  simp only [wY_goOn_95, rf_rc hr, rf_r3 hr, hP, rf_pc hp16, rf_p16 hp16, hO, nI_1, true_and, forall_eq]
  refine br_f (nI_nlt (b := 5) h5 (by omega)) ?_
  apply hu
  exact h
end
end
section
section
variable {Op Od XS XP XE XV XW XR XQ XZ XC XD Ys Yp Ye Yq Yr Yw Yv Yn Yh Yz Yd : Nat → Int32} {r p g k o e v n c i0 len : Nat} {t : Nat → Nat}
theorem lf_Qs {Q Q' : Nat → Int32} {b : Int32} (h : ∀ j, j < 4 → Q (r * 4 + j) = Q' (r * 4 + j)) (hg : g < 4) (hk : k < 4) : ∀ j, j < 4 → lf_Q o Q (r * 4 + g) (r * 4 + k) b (r * 4 + j) = lf_Q o Q' (r * 4 + g) (r * 4 + k) b (r * 4 + j) := by
  intro j hj
  have e1 := h j hj
  have e2 := h g hg
  have e3 := h k hk
  unfold lf_Q upd
  by_cases z0 : o = 0
  · simp only [z0, if_true, e1]
  · by_cases z1 : o = 1
    · rw [if_neg z0, if_pos z1, if_neg z0, if_pos z1]
      simp only [e1, e2, e3]
    · by_cases z2 : o = 2
      · rw [if_neg z0, if_neg z1, if_pos z2, if_neg z0, if_neg z1, if_pos z2]
        simp only [e1, e2, e3]
      · simp only [z0, z1, z2, if_false, e1]
theorem lf_Qa {Q : Nat → Int32} {b : Int32} (hg : g < 4) : ao_ 4 r Q (lf_Q o Q (r * 4 + g) (r * 4 + k) b) := by
  unfold lf_Q
  split
  · exact ao_u ao_rf (by omega)
  · split
    · exact ao_u ao_rf (by omega)
    · split
      · exact ao_u ao_rf (by omega)
      · exact ao_rf
/-- a plain step keeps both alike -/
theorem rr_pl (h : rr_C r XP XE XV XQ XZ XC XD Yp Ye Yq Yv Yn Yh Yz Yd e v n t) (hg : g < 4) (hk : k < 4) :
    rr_C r (upd XP r (lf_P o p (XQ (r * 4 + g)) (Od p))) (upd XE r (nI (e + 1))) XV (lf_Q o XQ (r * 4 + g) (r * 4 + k) (Od p)) XZ XC XD (upd Yp r (lf_P o p (Yq (r * 4 + g)) (Od p))) (upd Ye r (nI (e + 1))) (lf_Q o Yq (r * 4 + g) (r * 4 + k) (Od p)) Yv Yn Yh Yz Yd (e + 1) v n t := by
  obtain ⟨c1, c2, c3, c4, c5, c6, c7, c8⟩ := h
  exact ⟨by rw [pk_us, pk_us, c7 g hg], pk_us, pk_us, c4, c5, c6, lf_Qs c7 hg hk, c8⟩
/-- a signal is taken on both sides -/
theorem rr_tk (h : rr_C r XP XE XV XQ XZ XC XD Yp Ye Yq Yv Yn Yh Yz Yd e v n t) (hv : v < 40) (hc : c < 2) (hi : i0 < n) (hH : Yh (r * 24 + i0) = nI c) (hn : sg_n Yh (r * 24) (nI c) i0 = t c) (hg : g < 4) :
    rr_C r (upd XP r (nI (p + 1))) (upd XE r 0) (upd XV r (nI (v + 1))) (upd XQ (r * 4 + g) (XZ ((r * 2 + c) * 24 + t c))) XZ XC (upd XD (r * 2 + c) (nI (t c + 1)))
      (upd Yp r (nI (p + 1))) (upd Ye r 0) (upd Yq (r * 4 + g) (Yz (r * 24 + i0))) (upd Yv r (nI (v + 1))) Yn Yh Yz (upd Yd (r * 24 + i0) 1) 0 (v + 1) n (fun d => if d = c then t c + 1 else t d) := by
  obtain ⟨c1, c2, c3, c4, c5, c6, c7, c8⟩ := h
  refine ⟨by rw [pk_us, pk_us], pk_us, pk_us, pk_us, pk_us, by omega, ?_, sg_take c8 hc hi hH hn⟩
  obtain ⟨d, hd, b1, b2, b3⟩ := c8.2.2.2 i0 hi
  have ed : d = c := sg_cc hd hc (b1.symm.trans hH)
  subst ed
  rw [hn] at b2
  intro j hj
  by_cases z : j = g
  · subst z
    rw [pk_us, pk_us, b2]
  · rw [pk_un (by omega), pk_un (by omega)]
    exact c7 j hj
/-- a wait is over on both sides, without a signal -/
theorem rr_pw {w : Int32} (h : rr_C r XP XE XV XQ XZ XC XD Yp Ye Yq Yv Yn Yh Yz Yd e v n t) (hv : v < 40) (hg : g < 4) :
    rr_C r (upd XP r (nI (p + 1))) (upd XE r 0) (upd XV r (nI (v + 1))) (upd XQ (r * 4 + g) w) XZ XC XD
      (upd Yp r (nI (p + 1))) (upd Ye r 0) (upd Yq (r * 4 + g) w) (upd Yv r (nI (v + 1))) Yn Yh Yz Yd 0 (v + 1) n t := by
  obtain ⟨c1, c2, c3, c4, c5, c6, c7, c8⟩ := h
  refine ⟨by rw [pk_us, pk_us], pk_us, pk_us, pk_us, pk_us, by omega, ?_, c8⟩
  intro j hj
  by_cases z : j = g
  · subst z
    rw [pk_us, pk_us]
  · rw [pk_un (by omega), pk_un (by omega)]
    exact c7 j hj
theorem rr_pz (h : rr_C r XP XE XV XQ XZ XC XD Yp Ye Yq Yv Yn Yh Yz Yd e v n t) (hv : v < 40) :
    rr_C r (upd XP r (nI (p + 1))) (upd XE r 0) (upd XV r (nI (v + 1))) XQ XZ XC XD
      (upd Yp r (nI (p + 1))) (upd Ye r 0) Yq (upd Yv r (nI (v + 1))) Yn Yh Yz Yd 0 (v + 1) n t := by
  obtain ⟨c1, c2, c3, c4, c5, c6, c7, c8⟩ := h
  exact ⟨by rw [pk_us, pk_us], pk_us, pk_us, pk_us, pk_us, by omega, c7, c8⟩
/-- active -/
def rr_B (r len : Nat) (Op Od XS XP XE XV XW XR XQ XZ XC XD Ys Yp Ye Yq Yr Yw Yv Yn Yh Yz Yd : Nat → Int32) : Prop :=
  XS r = Ys r ∧ ∃ s e v n t, rr_A r len Op Od XS XP XE XV XW XR XQ XZ XC XD Ys Yp Ye Yq Yr Yw Yv Yn Yh Yz Yd s e v n t
theorem rr_e4 {w w' : Int32} (hw : w = w') (h : rr_C r XP XE XV XQ XZ XC XD Yp Ye Yq Yv Yn Yh Yz Yd e v n t) : rr_B r len Op Od (upd XS r 4) XP XE XV XW (upd XR r w) XQ XZ XC XD (upd Ys r 4) Yp Ye Yq (upd Yr r w') Yw Yv Yn Yh Yz Yd :=
  ⟨by rw [pk_us, pk_us], 4, e, v, n, t, by decide, by decide, pk_us, h, fun _ => by rw [pk_us, pk_us, hw], fun z => absurd rfl z⟩
theorem rr_e1 (h : rr_C r XP XE XV XQ XZ XC XD Yp Ye Yq Yv Yn Yh Yz Yd e v n t) (hR : XR r = 0) (he : e < 60) (hv : v < 40) (hp : p < len) (hP : XP r = nI p) (hO : Op p = 5) : rr_B r len Op Od (upd XS r 1) XP XE XV XW XR XQ XZ XC XD (upd Ys r 1) Yp Ye Yq Yr Yw Yv Yn Yh Yz Yd :=
  ⟨by rw [pk_us, pk_us], 1, e, v, n, t, by decide, by decide, pk_us, h, fun z => absurd z (by decide), fun _ => ⟨hR, he, hv, p, hp, hP, hO, fun z => absurd z (by decide), fun z => absurd z (by decide)⟩⟩
theorem rr_e2 {w : Int32} (h : rr_C r XP XE XV XQ XZ XC XD Yp Ye Yq Yv Yn Yh Yz Yd e v n t) (hR : XR r = 0) (he : e < 60) (hv : v < 40) (hp : p < len) (hP : XP r = nI p) (hO : Op p = 6) : rr_B r len Op Od (upd XS r 2) XP XE XV (upd XW r w) XR XQ XZ XC XD (upd Ys r 2) Yp Ye Yq Yr (upd Yw r w) Yv Yn Yh Yz Yd :=
  ⟨by rw [pk_us, pk_us], 2, e, v, n, t, by decide, by decide, pk_us, h, fun z => absurd z (by decide), fun _ => ⟨hR, he, hv, p, hp, hP, hO, fun _ => by rw [pk_us, pk_us], fun z => absurd z (by decide)⟩⟩
theorem rr_e3 (h : rr_C r XP XE XV XQ XZ XC XD Yp Ye Yq Yv Yn Yh Yz Yd e v n t) (hR : XR r = 0) (he : e < 60) (hv : v < 40) (hp : p < len) (hP : XP r = nI p) (hO : Op p = 7) (hc : c < 2) (hB : Od p &&& 1 = nI c) (ht : t c = sg_n Yh (r * 24) (nI c) n) : rr_B r len Op Od (upd XS r 3) XP XE XV XW XR XQ XZ XC XD (upd Ys r 3) Yp Ye Yq Yr Yw Yv Yn Yh Yz Yd :=
  ⟨by rw [pk_us, pk_us], 3, e, v, n, t, by decide, by decide, pk_us, h, fun z => absurd z (by decide), fun _ => ⟨hR, he, hv, p, hp, hP, hO, fun z => absurd z (by decide), fun _ => ⟨c, hc, hB, ht⟩⟩⟩
/-- what a stretch of run r may change -/
def fr_ (r : Nat) (XS XP XE XV XW XR XQ XD Ys Yp Ye Yq Yr Yw Yv Yd XS1 XP1 XE1 XV1 XW1 XR1 XQ1 XD1 Ys1 Yp1 Ye1 Yq1 Yr1 Yw1 Yv1 Yd1 : Nat → Int32) : Prop :=
  ao_ 1 r XS XS1 ∧ ao_ 1 r XP XP1 ∧ ao_ 1 r XE XE1 ∧ ao_ 1 r XV XV1 ∧ ao_ 1 r XW XW1 ∧ ao_ 1 r XR XR1 ∧ ao_ 4 r XQ XQ1 ∧ ao_ 2 r XD XD1 ∧
  ao_ 1 r Ys Ys1 ∧ ao_ 1 r Yp Yp1 ∧ ao_ 1 r Ye Ye1 ∧ ao_ 4 r Yq Yq1 ∧ ao_ 1 r Yr Yr1 ∧ ao_ 1 r Yw Yw1 ∧ ao_ 1 r Yv Yv1 ∧ ao_ 24 r Yd Yd1
theorem fr_tr {XS1 XP1 XE1 XV1 XW1 XR1 XQ1 XD1 Ys1 Yp1 Ye1 Yq1 Yr1 Yw1 Yv1 Yd1 XS2 XP2 XE2 XV2 XW2 XR2 XQ2 XD2 Ys2 Yp2 Ye2 Yq2 Yr2 Yw2 Yv2 Yd2 : Nat → Int32}
    (h : fr_ r XS XP XE XV XW XR XQ XD Ys Yp Ye Yq Yr Yw Yv Yd XS1 XP1 XE1 XV1 XW1 XR1 XQ1 XD1 Ys1 Yp1 Ye1 Yq1 Yr1 Yw1 Yv1 Yd1)
    (k : fr_ r XS1 XP1 XE1 XV1 XW1 XR1 XQ1 XD1 Ys1 Yp1 Ye1 Yq1 Yr1 Yw1 Yv1 Yd1 XS2 XP2 XE2 XV2 XW2 XR2 XQ2 XD2 Ys2 Yp2 Ye2 Yq2 Yr2 Yw2 Yv2 Yd2) :
    fr_ r XS XP XE XV XW XR XQ XD Ys Yp Ye Yq Yr Yw Yv Yd XS2 XP2 XE2 XV2 XW2 XR2 XQ2 XD2 Ys2 Yp2 Ye2 Yq2 Yr2 Yw2 Yv2 Yd2 := by
  obtain ⟨a1, a2, a3, a4, a5, a6, a7, a8, a9, a10, a11, a12, a13, a14, a15, a16⟩ := h
  obtain ⟨b1, b2, b3, b4, b5, b6, b7, b8, b9, b10, b11, b12, b13, b14, b15, b16⟩ := k
  exact ⟨ao_tr a1 b1, ao_tr a2 b2, ao_tr a3 b3, ao_tr a4 b4, ao_tr a5 b5, ao_tr a6 b6, ao_tr a7 b7, ao_tr a8 b8, ao_tr a9 b9, ao_tr a10 b10, ao_tr a11 b11, ao_tr a12 b12, ao_tr a13 b13, ao_tr a14 b14, ao_tr a15 b15, ao_tr a16 b16⟩
end
end
section
section
variable {Ln Lk Tn : Int32} {Op Tg Od XZ XC Yn Yh Yz : Nat → Int32} {r len : Nat}
theorem x_ne {f : Nat → Int32} {k : Nat} {w : Int32} (hw : ¬ w = 5) : ¬ upd f k w k = 5 := by rw [pk_us]; exact hw
/-- one stretch of run r, in lockstep: e steps since the last wait, v waits over -/
theorem go_ls (hr : r < 3) (hsc : sc_R len Ln Op Tg) : ∀ (m : Nat) (XS XP XE XV XW XR XQ XD Ys Yp Ye Yq Yr Yw Yv Yd : Nat → Int32) (e v n i k nX nY : Nat) (t : Nat → Nat),
    XS r = 5 → rr_C r XP XE XV XQ XZ XC XD Yp Ye Yq Yv Yn Yh Yz Yd e v n t → e < 60 → XR r = 0 → (40 - v) * 61 + (60 - e) ≤ m → i + m ≤ 2501 → k + m + 1 ≤ 3000 → m < nX → m + 1 < nY →
    ∃ XS1 XP1 XE1 XV1 XW1 XR1 XQ1 XD1 Ys1 Yp1 Ye1 Yq1 Yr1 Yw1 Yv1 Yd1 : Nat → Int32, rr_B r len Op Od XS1 XP1 XE1 XV1 XW1 XR1 XQ1 XZ XC XD1 Ys1 Yp1 Ye1 Yq1 Yr1 Yw1 Yv1 Yn Yh Yz Yd1 ∧ fr_ r XS XP XE XV XW XR XQ XD Ys Yp Ye Yq Yr Yw Yv Yd XS1 XP1 XE1 XV1 XW1 XR1 XQ1 XD1 Ys1 Yp1 Ye1 Yq1 Yr1 Yw1 Yv1 Yd1 ∧
      (∀ P : SX → Prop, P (Ln, Lk, Tn, Op, Tg, Od, XS1, XP1, XE1, XV1, XW1, XR1, XQ1, XZ, XC, XD1) → wX_goOn_9 P (nI r) nX (nI i) Ln Lk Tn Op Tg Od XS XP XE XV XW XR XQ XZ XC XD) ∧ (∀ Q : SY → Prop, Q (Ln, Lk, Tn, Op, Tg, Od, Ys1, Yp1, Ye1, Yq1, Yr1, Yw1, Yv1, Yn, Yh, Yz, Yd1) → wY_goOn_4 Q (nI r) nY 1 (nI k) Ln Lk Tn Op Tg Od Ys Yp Ye Yq Yr Yw Yv Yn Yh Yz Yd) := by
  obtain ⟨hL, hl, hOp, hTg⟩ := hsc
  intro m
  induction m with
  | zero => intro XS XP XE XV XW XR XQ XD Ys Yp Ye Yq Yr Yw Yv Yd e v n i k nX nY t _ _ he _ hm; omega
  | succ m ih =>
  intro XS XP XE XV XW XR XQ XD Ys Yp Ye Yq Yr Yw Yv Yd e v n i k nX nY t hS hC he hR hm hi hk hX hY
  obtain ⟨c1, c2, c3, c4, c5, c6, c7, c8⟩ := id hC
  obtain ⟨nX, rfl⟩ : ∃ a, nX = a + 2 := ⟨nX - 2, by omega⟩
  obtain ⟨nY, rfl⟩ : ∃ a, nY = a + 3 := ⟨nY - 3, by omega⟩
  have i1 : i < 2501 := by omega
  have k1 : k < 3000 := by omega
  by_cases hout : XP r < 0 ∨ ¬ XP r < Ln
  · exact ⟨upd XS r 4, XP, XE, XV, XW, upd XR r 0, XQ, XD, upd Ys r 4, Yp, Ye, Yq, upd Yr r 0, Yw, Yv, Yd, rr_e4 rfl hC, (by unfold fr_; refine ⟨?_, ?_, ?_, ?_, ?_, ?_, ?_, ?_, ?_, ?_, ?_, ?_, ?_, ?_, ?_, ?_⟩ <;> first | exact ao_rf | exact ao_u1 | exact lf_Qa hg | exact ao_u ao_rf (by omega)), fun P hP => xg_out hr hS i1 hout (xg_exit hr (x_ne (by decide)) hP), fun Q hQ => yg_out hr k1 (by rw [← c1]; exact hout) (yg_exit hQ)⟩
  obtain ⟨p, hp, hP⟩ : ∃ p, p < len ∧ XP r = nI p := by
    have h0 : ¬ XP r < 0 := fun z => hout (Or.inl z)
    have h1 : XP r < Ln := Decidable.byContradiction fun z => hout (Or.inr z)
    obtain ⟨p, hp, e⟩ := nI_of h0
    rw [e, hL] at h1
    exact ⟨p, (nI_ltI hp (by omega)).mp h1, e⟩
  have hp16 : p < 16 := by omega
  have hP' : Yp r = nI p := by rw [← c1]; exact hP
  obtain ⟨o, ho, hO⟩ := hOp p
  obtain ⟨g, hg, hG⟩ := hTg p
  by_cases h4 : o ≤ 4
  · obtain ⟨b, hb, hB⟩ := rf_a3 (Od p)
    by_cases h59 : e < 59
    · obtain ⟨XS1, XP1, XE1, XV1, XW1, XR1, XQ1, XD1, Ys1, Yp1, Ye1, Yq1, Yr1, Yw1, Yv1, Yd1, a1, a2, a3, a4⟩ := ih XS (upd XP r (lf_P o p (XQ (r * 4 + g)) (Od p))) (upd XE r (nI (e + 1))) XV XW XR (lf_Q o XQ (r * 4 + g) (r * 4 + b) (Od p)) XD Ys (upd Yp r (lf_P o p (Yq (r * 4 + g)) (Od p))) (upd Ye r (nI (e + 1))) (lf_Q o Yq (r * 4 + g) (r * 4 + b) (Od p)) Yr Yw Yv Yd (e + 1) v n (i + 1) (k + 1) (nX + 1) (nY + 2) t hS (rr_pl hC hg hb) (by omega) hR (by omega) (by omega) (by omega) (by omega) (by omega)
      exact ⟨XS1, XP1, XE1, XV1, XW1, XR1, XQ1, XD1, Ys1, Yp1, Ye1, Yq1, Yr1, Yw1, Yv1, Yd1, a1, fr_tr (by unfold fr_; refine ⟨?_, ?_, ?_, ?_, ?_, ?_, ?_, ?_, ?_, ?_, ?_, ?_, ?_, ?_, ?_, ?_⟩ <;> first | exact ao_rf | exact ao_u1 | exact lf_Qa hg | exact ao_u ao_rf (by omega)) a2, fun P hP2 => xg_plainA hr hS i1 hL hl hP hp h4 hO hG hg hB hb c2 h59 (a3 P hP2), fun Q hQ => yg_plain hr k1 hL hl hP' hp h4 hO hG hg hB hb c3 he (a4 Q hQ)⟩
    · have h60 : e = 59 := by omega
      subst h60
      exact ⟨upd XS r 4, upd XP r (lf_P o p (XQ (r * 4 + g)) (Od p)), upd XE r (nI 60), XV, XW, upd XR r 0, lf_Q o XQ (r * 4 + g) (r * 4 + b) (Od p), XD, upd Ys r 4, upd Yp r (lf_P o p (Yq (r * 4 + g)) (Od p)), upd Ye r (nI 60), lf_Q o Yq (r * 4 + g) (r * 4 + b) (Od p), upd Yr r 0, Yw, Yv, Yd, rr_e4 rfl (rr_pl hC hg hb), (by unfold fr_; refine ⟨?_, ?_, ?_, ?_, ?_, ?_, ?_, ?_, ?_, ?_, ?_, ?_, ?_, ?_, ?_, ?_⟩ <;> first | exact ao_rf | exact ao_u1 | exact lf_Qa hg | exact ao_u ao_rf (by omega)), fun P hP2 => xg_plainB hr hS i1 hL hl hP hp h4 hO hG hg hB hb c2 (xg_exit hr (x_ne (by decide)) hP2), fun Q hQ => yg_plain hr k1 hL hl hP' hp h4 hO hG hg hB hb c3 he (yg_60 hr (by omega) pk_us (yg_exit hQ))⟩
  by_cases h8 : o = 8
  · subst h8
    exact ⟨upd XS r 4, XP, XE, XV, XW, upd XR r (XQ (r * 4 + g)), XQ, XD, upd Ys r 4, Yp, Ye, Yq, upd Yr r (Yq (r * 4 + g)), Yw, Yv, Yd, rr_e4 (c7 g hg) hC, (by unfold fr_; refine ⟨?_, ?_, ?_, ?_, ?_, ?_, ?_, ?_, ?_, ?_, ?_, ?_, ?_, ?_, ?_, ?_⟩ <;> first | exact ao_rf | exact ao_u1 | exact lf_Qa hg | exact ao_u ao_rf (by omega)), fun P hP2 => xg_8 hr hS i1 hL hl hP hp hO hG hg (xg_exit hr (x_ne (by decide)) hP2), fun Q hQ => yg_8 hr k1 hL hl hP' hp hO hG hg c3 he (yg_exit hQ)⟩
  have h5 : 5 ≤ o := by omega
  have h7 : o ≤ 7 := by omega
  by_cases h40 : v = 40
  · subst h40
    exact ⟨upd XS r 4, XP, XE, XV, XW, upd XR r 0, XQ, XD, upd Ys r 4, Yp, Ye, Yq, upd Yr r 0, Yw, Yv, Yd, rr_e4 rfl hC, (by unfold fr_; refine ⟨?_, ?_, ?_, ?_, ?_, ?_, ?_, ?_, ?_, ?_, ?_, ?_, ?_, ?_, ?_, ?_⟩ <;> first | exact ao_rf | exact ao_u1 | exact lf_Qa hg | exact ao_u ao_rf (by omega)), fun P hP2 => xg_w hr hS i1 hL hl hP hp h5 h7 hO (fun q hq => x_cwFull hr hP hp16 c4 hq) (xg_exit hr (x_ne (by decide)) hP2), fun Q hQ => yg_full hr k1 hL hl hP' hp h5 h7 hO c3 he c5 (yg_exit hQ)⟩
  have hv : v < 40 := by omega
  have ho3 : o = 5 ∨ o = 6 ∨ o = 7 := by omega
  rcases ho3 with rfl | rfl | rfl
  · exact ⟨upd XS r 1, XP, XE, XV, XW, XR, XQ, XD, upd Ys r 1, Yp, Ye, Yq, Yr, Yw, Yv, Yd, rr_e1 hC hR he hv hp hP hO, (by unfold fr_; refine ⟨?_, ?_, ?_, ?_, ?_, ?_, ?_, ?_, ?_, ?_, ?_, ?_, ?_, ?_, ?_, ?_⟩ <;> first | exact ao_rf | exact ao_u1 | exact lf_Qa hg | exact ao_u ao_rf (by omega)), fun P hP2 => xg_w hr hS i1 hL hl hP hp h5 h7 hO (fun q hq => x_cw5 hr hP hp16 hO c4 hv hq) (xg_exit hr (x_ne (by decide)) hP2), fun Q hQ => yg_w hr k1 hL hl hP' hp h5 h7 hO c3 he c5 hv (fun q hq => y_w5 hr hP' hp16 hO hq) (yg_exit hQ)⟩
  · exact ⟨upd XS r 2, XP, XE, XV, upd XW r (Tn + lf_S (Od p)), XR, XQ, XD, upd Ys r 2, Yp, Ye, Yq, Yr, upd Yw r (Tn + lf_S (Od p)), Yv, Yd, rr_e2 hC hR he hv hp hP hO, (by unfold fr_; refine ⟨?_, ?_, ?_, ?_, ?_, ?_, ?_, ?_, ?_, ?_, ?_, ?_, ?_, ?_, ?_, ?_⟩ <;> first | exact ao_rf | exact ao_u1 | exact lf_Qa hg | exact ao_u ao_rf (by omega)), fun P hP2 => xg_w hr hS i1 hL hl hP hp h5 h7 hO (fun q hq => x_cw6 hr hP hp16 hO c4 hv hq) (xg_exit hr (x_ne (by decide)) hP2), fun Q hQ => yg_w hr k1 hL hl hP' hp h5 h7 hO c3 he c5 hv (fun q hq => y_w6 hr hP' hp16 hO hq) (yg_exit hQ)⟩
  · obtain ⟨c, hc, hB⟩ := rf_a1 (Od p)
    obtain ⟨w, hw, hF⟩ := ys_first (Ln := Ln) (Lk := Lk) (Tn := Tn) (Op := Op) (Tg := Tg) (Od := Od) (Ys := Ys) (Yp := Yp) (Ye := Ye) (Yq := Yq) (Yr := Yr) (Yw := Yw) (Yv := Yv) hr c8 hc
    obtain ⟨d1, d2, d3⟩ := c8.2.2.1 c hc
    rcases hw with ⟨ht, rfl⟩ | ⟨i0, hi0, rfl, hH, hn⟩
    · exact ⟨upd XS r 3, XP, XE, XV, XW, XR, XQ, XD, upd Ys r 3, Yp, Ye, Yq, Yr, Yw, Yv, Yd, rr_e3 hC hR he hv hp hP hO hc hB ht, (by unfold fr_; refine ⟨?_, ?_, ?_, ?_, ?_, ?_, ?_, ?_, ?_, ?_, ?_, ?_, ?_, ?_, ?_, ?_⟩ <;> first | exact ao_rf | exact ao_u1 | exact lf_Qa hg | exact ao_u ao_rf (by omega)), fun P hP2 => xg_w hr hS i1 hL hl hP hp h5 h7 hO (fun q hq => x_cw7w hr hP hp16 hO hB hc c4 hv d2 (by rw [d1, ht]) hq) (xg_exit hr (x_ne (by decide)) hP2), fun Q hQ => yg_w hr k1 hL hl hP' hp h5 h7 hO c3 he c5 hv (fun q hq => y_w7w hr hP' hp16 hO hB hF hq) (yg_exit hQ)⟩
    · have lt := sg_lt hi0 hH
      have le := sg_le Yh (r * 24) (nI c) n
      have n24 := c8.1
      obtain ⟨XS1, XP1, XE1, XV1, XW1, XR1, XQ1, XD1, Ys1, Yp1, Ye1, Yq1, Yr1, Yw1, Yv1, Yd1, a1, a2, a3, a4⟩ := ih XS (upd XP r (nI (p + 1))) (upd XE r 0) (upd XV r (nI (v + 1))) XW XR (upd XQ (r * 4 + g) (XZ ((r * 2 + c) * 24 + t c))) (upd XD (r * 2 + c) (nI (t c + 1))) (upd Ys r 3) (upd Yp r (nI (p + 1))) (upd Ye r 0) (upd Yq (r * 4 + g) (Yz (r * 24 + i0))) Yr Yw (upd Yv r (nI (v + 1))) (upd Yd (r * 24 + i0) 1) 0 (v + 1) n (i + 1) (k + 1) (nX + 1) (nY + 2) (fun d => if d = c then t c + 1 else t d) hS (rr_tk hC hv hc hi0 hH hn hg) (by omega) hR (by omega) (by omega) (by omega) (by omega) (by omega)
      exact ⟨XS1, XP1, XE1, XV1, XW1, XR1, XQ1, XD1, Ys1, Yp1, Ye1, Yq1, Yr1, Yw1, Yv1, Yd1, a1, fr_tr (by unfold fr_; refine ⟨?_, ?_, ?_, ?_, ?_, ?_, ?_, ?_, ?_, ?_, ?_, ?_, ?_, ?_, ?_, ?_⟩ <;> first | exact ao_rf | exact ao_u1 | exact lf_Qa hg | exact ao_u ao_rf (by omega)) a2, fun P hP2 => xg_w hr hS i1 hL hl hP hp h5 h7 hO (fun q hq => x_cw7t hr hP hp16 hO hG hg hB hc c4 hv d2 d1 (by omega) (by omega) hq) (a3 P hP2), fun Q hQ => yg_w hr k1 hL hl hP' hp h5 h7 hO c3 he c5 hv (fun q hq => y_w7t hr hP' hp16 hO hG hg hB (by omega) c5 hF hq) (a4 Q hQ)⟩
end
end
section
section
variable {Ln Lk Tn : Int32} {Op Tg Od XS XP XE XV XW XR XQ XZ XC XD Ys Yp Ye Yq Yr Yw Yv Yn Yh Yz Yd : Nat → Int32} {r len e v n : Nat} {t : Nat → Nat}
def rl_R (len : Nat) (Ln Lk : Int32) (Op Tg Od XS XP XE XV XW XR XQ XZ XC XD Ys Yp Ye Yq Yr Yw Yv Yn Yh Yz Yd : Nat → Int32) : Prop :=
  sc_R len Ln Op Tg ∧ (Lk = 0 → ∀ r, r < 3 → XS r = 0) ∧ ∀ r, r < 3 → rr_R r len Op Od XS XP XE XV XW XR XQ XZ XC XD Ys Yp Ye Yq Yr Yw Yv Yn Yh Yz Yd
theorem rl_up {XS1 XP1 XE1 XV1 XW1 XR1 XQ1 XD1 Ys1 Yp1 Ye1 Yq1 Yr1 Yw1 Yv1 Yd1 : Nat → Int32} (hsc : sc_R len Ln Op Tg) (hK : ¬ Lk = 0) (hF : ∀ q, q < 3 → q ≠ r → rr_R q len Op Od XS XP XE XV XW XR XQ XZ XC XD Ys Yp Ye Yq Yr Yw Yv Yn Yh Yz Yd)
    (hB : rr_B r len Op Od XS1 XP1 XE1 XV1 XW1 XR1 XQ1 XZ XC XD1 Ys1 Yp1 Ye1 Yq1 Yr1 Yw1 Yv1 Yn Yh Yz Yd1) (hfr : fr_ r XS XP XE XV XW XR XQ XD Ys Yp Ye Yq Yr Yw Yv Yd XS1 XP1 XE1 XV1 XW1 XR1 XQ1 XD1 Ys1 Yp1 Ye1 Yq1 Yr1 Yw1 Yv1 Yd1) : rl_R len Ln Lk Op Tg Od XS1 XP1 XE1 XV1 XW1 XR1 XQ1 XZ XC XD1 Ys1 Yp1 Ye1 Yq1 Yr1 Yw1 Yv1 Yn Yh Yz Yd1 := by
  refine ⟨hsc, fun z => absurd z hK, fun q hq => ?_⟩
  by_cases z : q = r
  · subst z
    exact ⟨hB.1, Or.inr hB.2⟩
  · obtain ⟨a1, a2, a3, a4, a5, a6, a7, a8, a9, a10, a11, a12, a13, a14, a15, a16⟩ := hfr
    exact rr_fr z (hF q hq z) a1 a2 a3 a4 a5 a6 a7 ao_rf ao_rf a8 a9 a10 a11 a12 a13 a14 a15 ao_rf ao_rf ao_rf a16
theorem go_k (k : Nat) (hk : k + 2501 ≤ 3000) (hr : r < 3) (hsc : sc_R len Ln Op Tg) (hK : ¬ Lk = 0) (hC : rr_C r XP XE XV XQ XZ XC XD Yp Ye Yq Yv Yn Yh Yz Yd e v n t) (he : e < 60) (hR : XR r = 0)
    (hF : ∀ q, q < 3 → q ≠ r → rr_R q len Op Od XS XP XE XV XW XR XQ XZ XC XD Ys Yp Ye Yq Yr Yw Yv Yn Yh Yz Yd) :
    ∃ XS1 XP1 XE1 XV1 XW1 XR1 XQ1 XD1 Ys1 Yp1 Ye1 Yq1 Yr1 Yw1 Yv1 Yd1 : Nat → Int32, XS1 r = Ys1 r ∧ rl_R len Ln Lk Op Tg Od XS1 XP1 XE1 XV1 XW1 XR1 XQ1 XZ XC XD1 Ys1 Yp1 Ye1 Yq1 Yr1 Yw1 Yv1 Yn Yh Yz Yd1 ∧
      (∀ P : SX → Prop, P (Ln, Lk, Tn, Op, Tg, Od, XS1, XP1, XE1, XV1, XW1, XR1, XQ1, XZ, XC, XD1) → wpX_goOn P (Ln, Lk, Tn, Op, Tg, Od, XS, XP, XE, XV, XW, XR, XQ, XZ, XC, XD) (nI r)) ∧ (∀ Q : SY → Prop, Q (Ln, Lk, Tn, Op, Tg, Od, Ys1, Yp1, Ye1, Yq1, Yr1, Yw1, Yv1, Yn, Yh, Yz, Yd1) → wY_goOn_4 Q (nI r) 2600 1 (nI k) Ln Lk Tn Op Tg Od Ys Yp Ye Yq Yr Yw Yv Yn Yh Yz Yd) := by
  obtain ⟨XS1, XP1, XE1, XV1, XW1, XR1, XQ1, XD1, Ys1, Yp1, Ye1, Yq1, Yr1, Yw1, Yv1, Yd1, a1, a2, a3, a4⟩ := go_ls (Ln := Ln) (Lk := Lk) (Tn := Tn) (Od := Od) hr hsc 2500 (upd XS r 5) XP XE XV XW XR XQ XD Ys Yp Ye Yq Yr Yw Yv Yd e v n 0 k 2600 2600 t pk_us hC he hR (by omega) (by omega) (by omega) (by omega) (by omega)
  refine ⟨XS1, XP1, XE1, XV1, XW1, XR1, XQ1, XD1, Ys1, Yp1, Ye1, Yq1, Yr1, Yw1, Yv1, Yd1, a1.1, ?_, ?_, a4⟩
  · obtain ⟨b1, b2⟩ := a2
    exact rl_up hsc hK hF a1 ⟨ao_tr ao_u1 b1, b2⟩
  · intro P hP
    simp only [wpX_goOn, rf_rc hr, rf_r3 hr, true_and, forall_eq]
    exact ⟨2600, a3 P hP⟩
theorem go_0 (hr : r < 3) (hsc : sc_R len Ln Op Tg) (hK : ¬ Lk = 0) (hC : rr_C r XP XE XV XQ XZ XC XD Yp Ye Yq Yv Yn Yh Yz Yd e v n t) (he : e < 60) (hR : XR r = 0)
    (hF : ∀ q, q < 3 → q ≠ r → rr_R q len Op Od XS XP XE XV XW XR XQ XZ XC XD Ys Yp Ye Yq Yr Yw Yv Yn Yh Yz Yd) :
    ∃ XS1 XP1 XE1 XV1 XW1 XR1 XQ1 XD1 Ys1 Yp1 Ye1 Yq1 Yr1 Yw1 Yv1 Yd1 : Nat → Int32, XS1 r = Ys1 r ∧ rl_R len Ln Lk Op Tg Od XS1 XP1 XE1 XV1 XW1 XR1 XQ1 XZ XC XD1 Ys1 Yp1 Ye1 Yq1 Yr1 Yw1 Yv1 Yn Yh Yz Yd1 ∧
      (∀ P : SX → Prop, P (Ln, Lk, Tn, Op, Tg, Od, XS1, XP1, XE1, XV1, XW1, XR1, XQ1, XZ, XC, XD1) → wpX_goOn P (Ln, Lk, Tn, Op, Tg, Od, XS, XP, XE, XV, XW, XR, XQ, XZ, XC, XD) (nI r)) ∧ (∀ Q : SY → Prop, Q (Ln, Lk, Tn, Op, Tg, Od, Ys1, Yp1, Ye1, Yq1, Yr1, Yw1, Yv1, Yn, Yh, Yz, Yd1) → wpY_goOn Q (Ln, Lk, Tn, Op, Tg, Od, Ys, Yp, Ye, Yq, Yr, Yw, Yv, Yn, Yh, Yz, Yd) (nI r)) := by
  obtain ⟨XS1, XP1, XE1, XV1, XW1, XR1, XQ1, XD1, Ys1, Yp1, Ye1, Yq1, Yr1, Yw1, Yv1, Yd1, a1, a2, a3, a4⟩ := go_k (Ln := Ln) (Lk := Lk) (Tn := Tn) (Op := Op) (Tg := Tg) (Od := Od) 0 (by decide) hr hsc hK hC he hR hF
  refine ⟨XS1, XP1, XE1, XV1, XW1, XR1, XQ1, XD1, Ys1, Yp1, Ye1, Yq1, Yr1, Yw1, Yv1, Yd1, a1, a2, a3, fun Q hQ => ?_⟩
  simp only [wpY_goOn]
  exact ⟨2600, a4 Q hQ⟩
theorem x_run {pr : Int32 → Prop} (hr : r < 3) (h : pr 0) : wpX_isNoRun pr (nI r) := by
  unfold wpX_isNoRun
  exact br_f (nI_pos (by omega)) (br_t (nI_lt (b := 3) hr (by decide)) h)
theorem x_nor {pr : Int32 → Prop} {x : Int32} (hx : x < 0 ∨ ¬ x < 3) (h : pr 1) : wpX_isNoRun pr x := by
  unfold wpX_isNoRun
  refine br_c (fun _ => h) (fun z => br_c (fun z2 => ?_) (fun _ => h))
  rcases hx with a | a
  · exact absurd a z
  · exact absurd z2 a
theorem y_run {pr : Int32 → Prop} (hr : r < 3) (h : pr 1) : wpY_isRun pr (Ln, Lk, Tn, Op, Tg, Od, Ys, Yp, Ye, Yq, Yr, Yw, Yv, Yn, Yh, Yz, Yd) (nI r) := by
  unfold wpY_isRun
  exact br_f (nI_pos (by omega)) (br_f (nI_ge (b := 3) hr (by decide)) h)
theorem y_nor {pr : Int32 → Prop} {x : Int32} (hx : x < 0 ∨ ¬ x < 3) (h : pr 0) : wpY_isRun pr (Ln, Lk, Tn, Op, Tg, Od, Ys, Yp, Ye, Yq, Yr, Yw, Yv, Yn, Yh, Yz, Yd) x := by
  unfold wpY_isRun
  refine br_c (fun _ => h) (fun z => br_c (fun _ => h) (fun z2 => ?_))
  rcases hx with a | a
  · exact absurd a z
  · exact absurd (Int32.not_le.mp z2) a
theorem r_or (x : Int32) : (x < 0 ∨ ¬ x < 3) ∨ ∃ r, r < 3 ∧ x = nI r := by
  by_cases h : x < 0
  · exact Or.inl (Or.inl h)
  · by_cases h2 : x < 3
    · obtain ⟨j, hj, rfl⟩ := nI_of h
      exact Or.inr ⟨j, (nI_ltI (b := 3) hj (by decide)).mp h2, rfl⟩
    · exact Or.inl (Or.inr h2)
theorem rr_z0 (h : rr_R r len Op Od XS XP XE XV XW XR XQ XZ XC XD Ys Yp Ye Yq Yr Yw Yv Yn Yh Yz Yd) (hS : XS r = 0) : rr_Z r XS XP XE XV XR XQ XC XD Yn := by
  obtain ⟨_, h | ⟨s, e, v, n, t, h⟩⟩ := h
  · exact h
  · obtain ⟨a1, a2, a3, _⟩ := h
    rw [hS] at a3
    exact absurd ((nI_eq (a := 0) (by decide) (by omega)).mp a3) (by omega)
theorem rr_as (h : rr_R r len Op Od XS XP XE XV XW XR XQ XZ XC XD Ys Yp Ye Yq Yr Yw Yv Yn Yh Yz Yd) (hS : ¬ XS r = 0) : ∃ s e v n t, rr_A r len Op Od XS XP XE XV XW XR XQ XZ XC XD Ys Yp Ye Yq Yr Yw Yv Yn Yh Yz Yd s e v n t := by
  obtain ⟨_, h | h⟩ := h
  · exact absurd h.1 hS
  · exact h
theorem rr_s {s q : Nat} (h : XS r = nI s) (hq : XS r = nI q) (hs : s ≤ 4) (h2 : q ≤ 4) : s = q := (nI_eq (by omega) (by omega)).mp (h.symm.trans hq)
end
end
section
/-- the two states: the same script, lock and time; each run alike -/
def i_Rel (_ : Nat) (u : SX) (v : SY) : Prop :=
  ∃ (len : Nat) (Ln Lk Tn : Int32) (Op Tg Od XS XP XE XV XW XR XQ XZ XC XD Ys Yp Ye Yq Yr Yw Yv Yn Yh Yz Yd : Nat → Int32), u = (Ln, Lk, Tn, Op, Tg, Od, XS, XP, XE, XV, XW, XR, XQ, XZ, XC, XD) ∧ v = (Ln, Lk, Tn, Op, Tg, Od, Ys, Yp, Ye, Yq, Yr, Yw, Yv, Yn, Yh, Yz, Yd) ∧ rl_R len Ln Lk Op Tg Od XS XP XE XV XW XR XQ XZ XC XD Ys Yp Ye Yq Yr Yw Yv Yn Yh Yz Yd
theorem i_up {k : Nat} {u : SX} {v : SY} (h : i_Rel k u v) : i_Rel (k + 4) u v := h
section
variable {Ln Lk Tn : Int32} {Op Tg Od XS XP XE XV XW XR XQ XZ XC XD Ys Yp Ye Yq Yr Yw Yv Yn Yh Yz Yd : Nat → Int32} {r len e v n : Nat} {t : Nat → Nat}
theorem i_mk {k : Nat} (h : rl_R len Ln Lk Op Tg Od XS XP XE XV XW XR XQ XZ XC XD Ys Yp Ye Yq Yr Yw Yv Yn Yh Yz Yd) : i_Rel k (Ln, Lk, Tn, Op, Tg, Od, XS, XP, XE, XV, XW, XR, XQ, XZ, XC, XD) (Ln, Lk, Tn, Op, Tg, Od, Ys, Yp, Ye, Yq, Yr, Yw, Yv, Yn, Yh, Yz, Yd) := ⟨_, _, _, _, _, _, _, _, _, _, _, _, _, _, _, _, _, _, _, _, _, _, _, _, _, _, _, _, rfl, rfl, h⟩
theorem i_zz (h1 : sc_R len Ln Op Tg) (h : ∀ r, r < 3 → XS r = Ys r ∧ rr_Z r XS XP XE XV XR XQ XC XD Yn) : rl_R len Ln Lk Op Tg Od XS XP XE XV XW XR XQ XZ XC XD Ys Yp Ye Yq Yr Yw Yv Yn Yh Yz Yd :=
  ⟨h1, fun _ r hr => (h r hr).2.1, fun r hr => ⟨(h r hr).1, Or.inl (h r hr).2⟩⟩
end
theorem i_vc0 : wpX_init (fun u => wpY_init (fun v => i_Rel 0 u v)) := by
  exact i_mk (k := 0) (len := 0) (i_zz ⟨rfl, by decide, fun _ => ⟨0, by decide, rfl⟩, fun _ => ⟨0, by decide, rfl⟩⟩ fun r hr => ⟨rfl, rfl, rfl, rfl, rfl, rfl, fun _ _ => rfl, ⟨rfl, rfl, rfl, rfl⟩, 0, by decide, rfl⟩)
theorem i_vc_emit {k : Nat} {u : SX} {v : SY} (I : i_Rel k u v) (hk : k + 4 ≤ 2048) (v1 : Int32) (v2 : Int32) (v3 : Int32) : wpX_emit (fun r u' => wpY_emit (fun r' v' => r' = r ∧ i_Rel (k + 4) u' v') v v1 v2 v3) u v1 v2 v3 := by
  obtain ⟨len, Ln, Lk, Tn, Op, Tg, Od, XS, XP, XE, XV, XW, XR, XQ, XZ, XC, XD, Ys, Yp, Ye, Yq, Yr, Yw, Yv, Yn, Yh, Yz, Yd, rfl, rfl, hI⟩ := I
  obtain ⟨⟨hL, hl, hOp, hTg⟩, hK, hR⟩ := id hI
  unfold wpX_emit
  by_cases h0 : v1 < 0
  · exact br_t h0 (br_t h0 ⟨rfl, i_mk hI⟩)
  by_cases h8 : v1 ≤ 8
  · by_cases hlen : len = 16
    · have e : ¬ Ln < 16 := by rw [hL, hlen]; decide
      have e2 : Ln = 16 := by rw [hL, hlen]; rfl
      exact br_f h0 (br_t h8 (br_f e (br_f h0 (br_t h8 (br_t e2 ⟨rfl, i_mk hI⟩)))))
    · have hlt : len < 16 := by omega
      have e : Ln < 16 := by rw [hL]; exact nI_lt (b := 16) hlt (by decide)
      have e2 : ¬ Ln = 16 := by rw [hL]; exact fun z => hlen ((nI_eq (b := 16) (by omega) (by decide)).mp z)
      by_cases hk0 : Lk = 0
      · have hin : vp_in Ln 16 := by rw [hL]; exact rf_p16 hlt
        refine br_f h0 (br_t h8 (br_t e (br_t hk0 ⟨hin, nm_e ⟨hin, nm_e ⟨hin, nm_e (nm_e ?_)⟩⟩⟩)))
        refine br_f h0 (br_t h8 (br_f e2 (br_t hk0 ⟨hin, nm_e ⟨hin, nm_e ⟨hin, nm_e (nm_e ?_)⟩⟩⟩)))
        refine ⟨by rw [hL, nI_1, nI_pred], i_mk (len := len + 1) (i_zz ⟨by rw [hL, nI_1], hlt, fun j => ?_, fun j => ?_⟩ fun r hr => ⟨(hR r hr).1, rr_z0 (hR r hr) (hK hk0 r hr)⟩)⟩
        · unfold upd
          split
          · obtain ⟨o, ho, eo⟩ := nI_of2 (M := 8) (n := 8) (by decide) h0 h8
            exact ⟨o, by omega, eo⟩
          · exact hOp j
        · unfold upd
          split
          · exact rf_a3 v2
          · exact hTg j
      · exact br_f h0 (br_t h8 (br_t e (br_f hk0 (br_f h0 (br_t h8 (br_f e2 (br_f hk0 ⟨rfl, i_mk hI⟩)))))))
  · exact br_f h0 (br_f h8 (br_f h0 (br_f h8 ⟨rfl, i_mk hI⟩)))
theorem i_vc_forget {k : Nat} {u : SX} {v : SY} (I : i_Rel k u v) (hk : k + 4 ≤ 2048) (v1 : Int32) : wpX_forget (fun r => wpY_forget (fun r' => r' = r ∧ i_Rel (k + 4) u v) v v1) u v1 := by
  have I2 := i_up I
  obtain ⟨len, Ln, Lk, Tn, Op, Tg, Od, XS, XP, XE, XV, XW, XR, XQ, XZ, XC, XD, Ys, Yp, Ye, Yq, Yr, Yw, Yv, Yn, Yh, Yz, Yd, rfl, rfl, hI⟩ := I
  unfold wpX_forget wpY_forget
  rcases r_or v1 with hx | ⟨r, hr, rfl⟩
  · exact x_nor hx (br_f (by decide) (y_nor hx (br_t (by trivial) ⟨rfl, I2⟩)))
  · exact x_run hr (br_t (by trivial) (y_run hr (br_f (by decide) ⟨rfl, I2⟩)))
theorem i_vc_state {k : Nat} {u : SX} {v : SY} (I : i_Rel k u v) (hk : k + 4 ≤ 2048) (v1 : Int32) : wpX_state (fun r => wpY_state (fun r' => r' = r ∧ i_Rel (k + 4) u v) v v1) u v1 := by
  have I2 := i_up I
  obtain ⟨len, Ln, Lk, Tn, Op, Tg, Od, XS, XP, XE, XV, XW, XR, XQ, XZ, XC, XD, Ys, Yp, Ye, Yq, Yr, Yw, Yv, Yn, Yh, Yz, Yd, rfl, rfl, hI⟩ := I
  unfold wpX_state wpY_state
  rcases r_or v1 with hx | ⟨r, hr, rfl⟩
  · exact x_nor hx (br_f (by decide) (y_nor hx (br_t (by trivial) ⟨rfl, I2⟩)))
  · refine x_run hr (br_t (by trivial) ⟨rf_r3 hr, y_run hr (br_f (by decide) ⟨rf_r3 hr, ?_, I2⟩)⟩)
    rw [rf_rc hr]
    exact (hI.2.2 r hr).1.symm
theorem i_vc_register {k : Nat} {u : SX} {v : SY} (I : i_Rel k u v) (hk : k + 4 ≤ 2048) (v1 : Int32) (v2 : Int32) : wpX_register (fun r => wpY_register (fun r' => r' = r ∧ i_Rel (k + 4) u v) v v1 v2) u v1 v2 := by
  have I2 := i_up I
  obtain ⟨len, Ln, Lk, Tn, Op, Tg, Od, XS, XP, XE, XV, XW, XR, XQ, XZ, XC, XD, Ys, Yp, Ye, Yq, Yr, Yw, Yv, Yn, Yh, Yz, Yd, rfl, rfl, hI⟩ := I
  unfold wpX_register wpY_register
  rcases r_or v1 with hx | ⟨r, hr, rfl⟩
  · exact x_nor hx (br_f (by decide) (y_nor hx (br_t (by trivial) ⟨rfl, I2⟩)))
  · obtain ⟨g, hg, eg⟩ := rf_a3 v2
    have hR := hI.2.2 r hr
    simp only [eg, rf_m4, nI_add]
    refine x_run hr (br_t (by trivial) ⟨rf_t12 hr hg, y_run hr (br_f (by decide) ⟨rf_r3 hr, ?_⟩)⟩)
    simp only [rf_rc hr, rf_tc hr hg]
    refine br_c (fun z => ⟨?_, I2⟩) (fun z => ⟨rf_t12 hr hg, ?_, I2⟩)
    · rw [← hR.1] at z
      exact ((rr_z0 hR z).2.2.2.2.2.1 g hg).symm
    · rw [← hR.1] at z
      obtain ⟨s, e, v, n, t, h⟩ := rr_as hR z
      exact (h.2.2.2.1.2.2.2.2.2.2.1 g hg).symm
theorem i_vc_activity {k : Nat} {u : SX} {v : SY} (I : i_Rel k u v) (hk : k + 4 ≤ 2048) (v1 : Int32) : wpX_activity (fun r => wpY_activity (fun r' => r' = r ∧ i_Rel (k + 4) u v) v v1) u v1 := by
  have I2 := i_up I
  obtain ⟨len, Ln, Lk, Tn, Op, Tg, Od, XS, XP, XE, XV, XW, XR, XQ, XZ, XC, XD, Ys, Yp, Ye, Yq, Yr, Yw, Yv, Yn, Yh, Yz, Yd, rfl, rfl, hI⟩ := I
  unfold wpX_activity wpY_activity
  rcases r_or v1 with hx | ⟨r, hr, rfl⟩
  · exact x_nor hx (br_f (by decide) (y_nor hx (br_t (by trivial) ⟨rfl, I2⟩)))
  · have hR := hI.2.2 r hr
    refine x_run hr (br_t (by trivial) ⟨rf_r3 hr, ?_⟩)
    simp only [rf_rc hr]
    by_cases z : XS r = 1
    · obtain ⟨s, e, v, n, t, h⟩ := rr_as hR (by rw [z]; decide)
      obtain ⟨h1, h2, h3, h4, h5, h6⟩ := h
      have es : s = 1 := rr_s (q := 1) h3 z h2 (by decide)
      obtain ⟨_, _, _, p, hp, hP, _⟩ := h6 (by omega)
      have hp16 : p < 16 := by have := hI.1.2.1; omega
      have hP' : Yp r = nI p := by rw [← h4.1]; exact hP
      have z' : Ys r = 1 := by rw [← hR.1]; exact z
      rw [hP]
      refine br_t z ⟨rf_r3 hr, rf_p16 hp16, y_run hr (br_f (by decide) ⟨rf_r3 hr, br_t z' ⟨rf_r3 hr, ?_⟩⟩)⟩
      rw [hP']
      exact ⟨rf_p16 hp16, rfl, I2⟩
    · have z' : ¬ Ys r = 1 := by rw [← hR.1]; exact z
      exact br_f z (y_run hr (br_f (by decide) ⟨rf_r3 hr, br_f z' ⟨by trivial, I2⟩⟩))
theorem i_vc_result {k : Nat} {u : SX} {v : SY} (I : i_Rel k u v) (hk : k + 4 ≤ 2048) (v1 : Int32) : wpX_result (fun r => wpY_result (fun r' => r' = r ∧ i_Rel (k + 4) u v) v v1) u v1 := by
  have I2 := i_up I
  obtain ⟨len, Ln, Lk, Tn, Op, Tg, Od, XS, XP, XE, XV, XW, XR, XQ, XZ, XC, XD, Ys, Yp, Ye, Yq, Yr, Yw, Yv, Yn, Yh, Yz, Yd, rfl, rfl, hI⟩ := I
  unfold wpX_result wpY_result
  rcases r_or v1 with hx | ⟨r, hr, rfl⟩
  · exact x_nor hx (br_f (by decide) (y_nor hx (br_t (by trivial) ⟨rfl, I2⟩)))
  · have hR := hI.2.2 r hr
    refine x_run hr (br_t (by trivial) ⟨rf_r3 hr, y_run hr (br_f (by decide) ⟨rf_r3 hr, ?_⟩)⟩)
    simp only [rf_rc hr]
    by_cases z : XS r = 0
    · have z' : ¬ Ys r = 4 := by rw [← hR.1, z]; decide
      exact br_f z' ⟨(rr_z0 hR z).2.2.2.2.1.symm, I2⟩
    · obtain ⟨s, e, v, n, t, h1, h2, h3, h4, h5, h6⟩ := rr_as hR z
      by_cases z4 : s = 4
      · subst z4
        have z' : Ys r = 4 := by rw [← hR.1]; exact h3
        exact br_t z' ⟨rf_r3 hr, (h5 rfl).symm, I2⟩
      · have z' : ¬ Ys r = 4 := by
          rw [← hR.1]
          exact fun q => z4 (rr_s (q := 4) h3 q h2 (by decide))
        exact br_f z' ⟨(h6 z4).1.symm, I2⟩
theorem i_vc_time {k : Nat} {u : SX} {v : SY} (I : i_Rel k u v) (hk : k + 4 ≤ 2048) : wpX_time (fun r => wpY_time (fun r' => r' = r ∧ i_Rel (k + 4) u v) v) u := by
  have I2 := i_up I
  obtain ⟨len, Ln, Lk, Tn, Op, Tg, Od, XS, XP, XE, XV, XW, XR, XQ, XZ, XC, XD, Ys, Yp, Ye, Yq, Yr, Yw, Yv, Yn, Yh, Yz, Yd, rfl, rfl, hI⟩ := I
  exact ⟨rfl, I2⟩
end
section
/-- f with zeros below m -/
def zr_ (f : Nat → Int32) (m : Nat) : Nat → Int32 := fun j => if j < m then 0 else f j
theorem zr_0 (f : Nat → Int32) : zr_ f 0 = f := by
  funext j
  unfold zr_
  rw [if_neg (by omega)]
theorem zr_s (f : Nat → Int32) (m : Nat) : upd (zr_ f m) m 0 = zr_ f (m + 1) := by
  funext j
  unfold zr_ upd
  by_cases h : j = m
  · rw [if_pos h, if_pos (by omega)]
  · rw [if_neg h]
    show (if j < m then (0 : Int32) else f j) = _
    by_cases h2 : j < m
    · rw [if_pos h2, if_pos (by omega)]
    · rw [if_neg h2, if_neg (by omega)]
theorem zr_v {f : Nat → Int32} {m j : Nat} (h : j < m) : zr_ f m j = 0 := if_pos h
section
variable {Ln Lk Tn : Int32} {Op Tg Od XS XP XE XV XW XR XQ XZ XC XD Ys Yp Ye Yq Yr Yw Yv Yn Yh Yz Yd : Nat → Int32} {post : SX → Prop} {pos : SY → Prop} {r len e v n : Nat} {t : Nat → Nat}
theorem xc_93 (h : post (Ln, Lk, Tn, Op, Tg, Od, XS, XP, XE, XV, XW, XR, XQ, XZ, zr_ XC 6, zr_ XD 6)) : ∀ d i, i + d = 6 → wX_clear_93 post Ln Lk Tn (d + 1) (nI i) Op Tg Od XS XP XE XV XW XR XQ XZ (zr_ XC i) (zr_ XD i) := by
  intro d
  induction d with
  | zero =>
    intro i hi
    have e : i = 6 := by omega
    subst e
    rw [wX_clear_93]
    exact br_t (by decide) h
  | succ d ih =>
    intro i hi
    rw [wX_clear_93]
    have hc : (nI i).toNatClampNeg = i := nI_clamp (by omega)
    have hv : vp_in (nI i) 6 := vp_in_nI (by omega) (by decide)
    simp only [hc, hv, zr_s, nI_1, true_and, forall_eq]
    exact br_f (nI_ge (b := 6) (by omega) (by decide)) (ih (i + 1) (by omega))
theorem xc_72 (h : ∃ m, wX_clear_93 post Ln Lk Tn m 0 Op Tg Od XS XP XE XV XW XR (zr_ XQ 12) XZ XC XD) : ∀ d i, i + d = 12 → wX_clear_72 post Ln Lk Tn (d + 1) (nI i) Op Tg Od XS XP XE XV XW XR (zr_ XQ i) XZ XC XD := by
  intro d
  induction d with
  | zero =>
    intro i hi
    have e : i = 12 := by omega
    subst e
    rw [wX_clear_72]
    exact br_t (by decide) h
  | succ d ih =>
    intro i hi
    rw [wX_clear_72]
    have hc : (nI i).toNatClampNeg = i := nI_clamp (by omega)
    have hv : vp_in (nI i) 12 := vp_in_nI (by omega) (by decide)
    simp only [hc, hv, zr_s, nI_1, true_and, forall_eq]
    exact br_f (nI_ge (b := 12) (by omega) (by decide)) (ih (i + 1) (by omega))
theorem xc_17 (h : ∃ m, wX_clear_72 post Ln Lk Tn m 0 Op Tg Od (zr_ XS 3) (zr_ XP 3) (zr_ XE 3) (zr_ XV 3) (zr_ XW 3) (zr_ XR 3) XQ XZ XC XD) : ∀ d i, i + d = 3 → wX_clear_17 post Ln Lk Tn (d + 1) (nI i) Op Tg Od (zr_ XS i) (zr_ XP i) (zr_ XE i) (zr_ XV i) (zr_ XW i) (zr_ XR i) XQ XZ XC XD := by
  intro d
  induction d with
  | zero =>
    intro i hi
    have e : i = 3 := by omega
    subst e
    rw [wX_clear_17]
    exact br_t (by decide) h
  | succ d ih =>
    intro i hi
    rw [wX_clear_17]
    have hc : (nI i).toNatClampNeg = i := nI_clamp (by omega)
    have hv : vp_in (nI i) 3 := vp_in_nI (by omega) (by decide)
    simp only [hc, hv, zr_s, nI_1, true_and, forall_eq]
    exact br_f (nI_ge (b := 3) (by omega) (by decide)) (ih (i + 1) (by omega))
theorem yc_17 (h : pos (Ln, Lk, Tn, Op, Tg, Od, zr_ Ys 3, Yp, Ye, Yq, Yr, Yw, Yv, Yn, Yh, Yz, Yd)) : ∀ d i, i + d = 3 → wY_clear_17 pos Ln Lk Tn (d + 1) (nI i) Op Tg Od (zr_ Ys i) Yp Ye Yq Yr Yw Yv Yn Yh Yz Yd := by
  intro d
  induction d with
  | zero =>
    intro i hi
    have e : i = 3 := by omega
    subst e
    rw [wY_clear_17]
    exact br_t (by decide) h
  | succ d ih =>
    intro i hi
    rw [wY_clear_17]
    have hc : (nI i).toNatClampNeg = i := nI_clamp (by omega)
    have hv : vp_in (nI i) 3 := vp_in_nI (by omega) (by decide)
    simp only [hc, hv, zr_s, nI_1, true_and, forall_eq]
    exact br_f (nI_ge (b := 3) (by omega) (by decide)) (ih (i + 1) (by omega))
theorem x_clear (h : post (0, 0, 0, Op, Tg, Od, zr_ XS 3, zr_ XP 3, zr_ XE 3, zr_ XV 3, zr_ XW 3, zr_ XR 3, zr_ XQ 12, XZ, zr_ XC 6, zr_ XD 6)) : wpX_clear post (Ln, Lk, Tn, Op, Tg, Od, XS, XP, XE, XV, XW, XR, XQ, XZ, XC, XD) := by
  unfold wpX_clear
  have a := xc_17 (post := post) (Ln := 0) (Lk := 0) (Tn := 0) (Op := Op) (Tg := Tg) (Od := Od) (XS := XS) (XP := XP) (XE := XE) (XV := XV) (XW := XW) (XR := XR) (XQ := XQ) (XZ := XZ) (XC := XC) (XD := XD) ⟨13, ?_⟩ 3 0 rfl
  · simp only [zr_0] at a
    exact ⟨4, a⟩
  have b := xc_72 (post := post) (Ln := 0) (Lk := 0) (Tn := 0) (Op := Op) (Tg := Tg) (Od := Od) (XS := zr_ XS 3) (XP := zr_ XP 3) (XE := zr_ XE 3) (XV := zr_ XV 3) (XW := zr_ XW 3) (XR := zr_ XR 3) (XQ := XQ) (XZ := XZ) (XC := XC) (XD := XD) ⟨7, ?_⟩ 12 0 rfl
  · simp only [zr_0] at b
    exact b
  have c := xc_93 (post := post) (Ln := 0) (Lk := 0) (Tn := 0) (Op := Op) (Tg := Tg) (Od := Od) (XS := zr_ XS 3) (XP := zr_ XP 3) (XE := zr_ XE 3) (XV := zr_ XV 3) (XW := zr_ XW 3) (XR := zr_ XR 3) (XQ := zr_ XQ 12) (XZ := XZ) (XC := XC) (XD := XD) h 6 0 rfl
  simp only [zr_0] at c
  exact c
theorem y_clear (h : pos (0, 0, 0, Op, Tg, Od, zr_ Ys 3, Yp, Ye, Yq, Yr, Yw, Yv, Yn, Yh, Yz, Yd)) : wpY_clear pos (Ln, Lk, Tn, Op, Tg, Od, Ys, Yp, Ye, Yq, Yr, Yw, Yv, Yn, Yh, Yz, Yd) := by
  unfold wpY_clear
  have a := yc_17 (pos := pos) (Ln := 0) (Lk := 0) (Tn := 0) (Op := Op) (Tg := Tg) (Od := Od) (Ys := Ys) (Yp := Yp) (Ye := Ye) (Yq := Yq) (Yr := Yr) (Yw := Yw) (Yv := Yv) (Yn := Yn) (Yh := Yh) (Yz := Yz) (Yd := Yd) h 3 0 rfl
  simp only [zr_0] at a
  exact ⟨4, a⟩
theorem yu_0 {pr : Int32 → Prop} (hr : r < 3) (hS : Ys r = 0) (hN : Yn r = nI n) (hn : n ≤ 24) (hp : pr 0) : ∀ d i, i + d = n → wY_untaken_18 pr (nI r) Ln Lk Tn Op Tg Od Ys Yp Ye Yq Yr Yw Yv Yn Yh Yz Yd (d + 1) 0 (nI (r * 24 + i)) := by
  intro d
  induction d with
  | zero =>
    intro i hi
    have e : i = n := by omega
    subst e
    rw [wY_untaken_18]
    simp only [rf_rc hr, rf_r3 hr, hN, rf_m24, nI_add, true_and]
    exact br_t (Int32.le_refl _) hp
  | succ d ih =>
    intro i hi
    rw [wY_untaken_18]
    simp only [rf_rc hr, rf_r3 hr, hN, rf_m24, nI_add, rf_yc hr (show i < 24 by omega), rf_y72 hr (show i < 24 by omega), nI_1, true_and, forall_eq]
    have w := ih (i + 1) (by omega)
    exact br_f (nI_ge (by omega) (by omega)) (br_c (fun _ => br_t hS w) (fun _ => w))
theorem yu_1 {pr : Int32 → Prop} (hr : r < 3) (hS : ¬ Ys r = 0) (h : sg_R r XZ XC XD Yn Yh Yz Yd n t) (hp : pr (nI ((sg_n Yh (r * 24) (nI 0) n - t 0) + (sg_n Yh (r * 24) (nI 1) n - t 1)))) :
    ∀ d i, i + d = n → wY_untaken_18 pr (nI r) Ln Lk Tn Op Tg Od Ys Yp Ye Yq Yr Yw Yv Yn Yh Yz Yd (d + 1) (nI ((sg_n Yh (r * 24) (nI 0) i - t 0) + (sg_n Yh (r * 24) (nI 1) i - t 1))) (nI (r * 24 + i)) := by
  obtain ⟨h1, h2, h3, h4⟩ := h
  intro d
  induction d with
  | zero =>
    intro i hi
    have e : i = n := by omega
    subst e
    rw [wY_untaken_18]
    simp only [rf_rc hr, rf_r3 hr, h2, rf_m24, nI_add, true_and]
    exact br_t (Int32.le_refl _) hp
  | succ d ih =>
    intro i hi
    rw [wY_untaken_18]
    have w := ih (i + 1) (by omega)
    obtain ⟨c, hc, b1, b2, b3⟩ := h4 i (by omega)
    simp only [rf_rc hr, rf_r3 hr, h2, rf_m24, nI_add, rf_yc hr (show i < 24 by omega), rf_y72 hr (show i < 24 by omega), nI_1, b3, true_and, forall_eq]
    refine br_f (nI_ge (by omega) (by omega)) ?_
    have hc2 : c = 0 ∨ c = 1 := by omega
    by_cases hq : sg_n Yh (r * 24) (nI c) i < t c
    · rw [if_pos hq]
      refine br_f (by decide) ?_
      rcases hc2 with rfl | rfl
      · rw [sg_y b1, sg_no (c := nI 1) (by rw [b1]; exact sg_01), show sg_n Yh (r * 24) (nI 0) i + 1 - t 0 = sg_n Yh (r * 24) (nI 0) i - t 0 by omega] at w
        exact w
      · rw [sg_y b1, sg_no (c := nI 0) (by rw [b1]; exact fun z => sg_01 z.symm), show sg_n Yh (r * 24) (nI 1) i + 1 - t 1 = sg_n Yh (r * 24) (nI 1) i - t 1 by omega] at w
        exact w
    · rw [if_neg hq]
      refine br_t (by trivial) (br_f hS ?_)
      rcases hc2 with rfl | rfl
      · rw [sg_y b1, sg_no (c := nI 1) (by rw [b1]; exact sg_01), show sg_n Yh (r * 24) (nI 0) i + 1 - t 0 + (sg_n Yh (r * 24) (nI 1) i - t 1) = sg_n Yh (r * 24) (nI 0) i - t 0 + (sg_n Yh (r * 24) (nI 1) i - t 1) + 1 by omega] at w
        exact w
      · rw [sg_y b1, sg_no (c := nI 0) (by rw [b1]; exact fun z => sg_01 z.symm), show sg_n Yh (r * 24) (nI 0) i - t 0 + (sg_n Yh (r * 24) (nI 1) i + 1 - t 1) = sg_n Yh (r * 24) (nI 0) i - t 0 + (sg_n Yh (r * 24) (nI 1) i - t 1) + 1 by omega] at w
        exact w
end
theorem i_vc_clear {k : Nat} {u : SX} {v : SY} (I : i_Rel k u v) (hk : k + 4 ≤ 2048) : wpX_clear (fun u' => wpY_clear (fun v' => i_Rel (k + 4) u' v') v) u := by
  obtain ⟨len, Ln, Lk, Tn, Op, Tg, Od, XS, XP, XE, XV, XW, XR, XQ, XZ, XC, XD, Ys, Yp, Ye, Yq, Yr, Yw, Yv, Yn, Yh, Yz, Yd, rfl, rfl, hI⟩ := I
  refine x_clear (y_clear (i_mk (len := 0) (i_zz ⟨rfl, by decide, hI.1.2.2⟩ fun r hr => ⟨by rw [zr_v hr, zr_v hr], zr_v hr, zr_v hr, zr_v hr, zr_v hr, zr_v hr, fun j hj => zr_v (by omega), ⟨zr_v (by omega), zr_v (by omega), zr_v (by omega), zr_v (by omega)⟩, ?_⟩)))
  obtain ⟨_, h | ⟨s, e, v, n, t, h⟩⟩ := hI.2.2 r hr
  · exact h.2.2.2.2.2.2.2
  · have q := h.2.2.2.1.2.2.2.2.2.2.2
    exact ⟨n, q.1, q.2.1⟩
theorem i_vc_untaken {k : Nat} {u : SX} {v : SY} (I : i_Rel k u v) (hk : k + 4 ≤ 2048) (v1 : Int32) : wpX_untaken (fun r => wpY_untaken (fun r' => r' = r ∧ i_Rel (k + 4) u v) v v1) u v1 := by
  have I2 := i_up I
  obtain ⟨len, Ln, Lk, Tn, Op, Tg, Od, XS, XP, XE, XV, XW, XR, XQ, XZ, XC, XD, Ys, Yp, Ye, Yq, Yr, Yw, Yv, Yn, Yh, Yz, Yd, rfl, rfl, hI⟩ := I
  unfold wpX_untaken wpY_untaken
  rcases r_or v1 with hx | ⟨r, hr, rfl⟩
  · exact x_nor hx (br_f (by decide) (y_nor hx (br_t (by trivial) ⟨rfl, I2⟩)))
  · have hR := hI.2.2 r hr
    have e0 : (nI (r * 2)).toNatClampNeg = r * 2 := nI_clamp (by omega)
    have e1 : vp_in (nI (r * 2)) 6 := vp_in_nI (by omega) (by decide)
    refine x_run hr (br_t (by trivial) ?_)
    simp only [rf_m2, nI_1, e0, e1, rf_qc hr (show 1 < 2 by decide), rf_q6 hr (show 1 < 2 by decide), true_and, forall_eq]
    refine y_run hr (br_f (by decide) ?_)
    simp only [rf_m24, forall_eq]
    by_cases z : XS r = 0
    · obtain ⟨_, _, _, _, _, _, ⟨a7, a8, a9, a10⟩, n, hn, hN⟩ := rr_z0 hR z
      refine ⟨n + 1, yu_0 hr (by rw [← hR.1]; exact z) hN hn ?_ n 0 (by omega)⟩
      rw [a7, a8, a9, a10]
      exact ⟨by decide, I2⟩
    · obtain ⟨s, e, v, n, t, h⟩ := rr_as hR z
      have q := h.2.2.2.1.2.2.2.2.2.2.2
      have z' : ¬ Ys r = 0 := by rw [← hR.1]; exact z
      obtain ⟨d1, d2, d3⟩ := q.2.2.1 0 (by decide)
      obtain ⟨f1, f2, f3⟩ := q.2.2.1 1 (by decide)
      rw [Nat.add_zero] at d1 d2
      have w := yu_1 (Ln := Ln) (Lk := Lk) (Tn := Tn) (Op := Op) (Tg := Tg) (Od := Od) (Yp := Yp) (Ye := Ye) (Yq := Yq) (Yr := Yr) (Yw := Yw) (Yv := Yv) (pr := fun r' => r' = XC (r * 2) + XC (r * 2 + 1) - XD (r * 2) - XD (r * 2 + 1) ∧ i_Rel (k + 4) (Ln, Lk, Tn, Op, Tg, Od, XS, XP, XE, XV, XW, XR, XQ, XZ, XC, XD) (Ln, Lk, Tn, Op, Tg, Od, Ys, Yp, Ye, Yq, Yr, Yw, Yv, Yn, Yh, Yz, Yd)) hr z' q ⟨?_, I2⟩ n 0 (by omega)
      · simp only [sg_n, Nat.zero_sub, Nat.add_zero] at w
        exact ⟨n + 1, w⟩
      · rw [d1, d2, f1, f2, nI_add, pk_sub (by omega), pk_sub (by omega)]
        exact congrArg nI (by omega)
end
section
/-- Y's registers as a start leaves them -/
def yq_ (Yq : Nat → Int32) (r : Nat) (w : Int32) : Nat → Int32 := upd (upd (upd (upd (upd Yq (r * 4) 0) (r * 4 + 1) 0) (r * 4 + 2) 0) (r * 4 + 3) 0) (r * 4) w
theorem yq_v {Yq : Nat → Int32} {r j : Nat} {w : Int32} (hj : j < 4) : yq_ Yq r w (r * 4 + j) = if j = 0 then w else 0 := by
  unfold yq_
  have h : j = 0 ∨ j = 1 ∨ j = 2 ∨ j = 3 := by omega
  rcases h with rfl | rfl | rfl | rfl
  · rw [if_pos rfl]
    exact pk_us
  · rw [pk_un (by omega), pk_un (by omega), pk_un (by omega), pk_us, if_neg (by decide)]
  · rw [pk_un (by omega), pk_un (by omega), pk_us, if_neg (by decide)]
  · rw [pk_un (by omega), pk_us, if_neg (by decide)]
theorem yq_a {Yq : Nat → Int32} {r : Nat} {w : Int32} : ao_ 4 r Yq (yq_ Yq r w) :=
  ao_u (ao_u (ao_u (ao_u (ao_u ao_rf (by omega)) (by omega)) (by omega)) (by omega)) (by omega)
section
variable {Ln Lk Tn : Int32} {Op Tg Od XS XP XE XV XW XR XQ XZ XC XD Ys Yp Ye Yq Yr Yw Yv Yn Yh Yz Yd : Nat → Int32} {post : Int32 → SX → Prop} {pos : Int32 → SY → Prop} {r len e v n p g : Nat} {t : Nat → Nat}
theorem x_start {XS1 XP1 XE1 XV1 XW1 XR1 XQ1 XD1 : Nat → Int32} {w : Int32} (hr : r < 3) (hS : XS r = 0) (hg : ∀ P : SX → Prop, P (Ln, 1, Tn, Op, Tg, Od, XS1, XP1, XE1, XV1, XW1, XR1, XQ1, XZ, XC, XD1) → wpX_goOn P (Ln, 1, Tn, Op, Tg, Od, XS, XP, XE, XV, XW, XR, upd XQ (r * 4) w, XZ, XC, XD) (nI r)) (h : post (XS1 r) (Ln, 1, Tn, Op, Tg, Od, XS1, XP1, XE1, XV1, XW1, XR1, XQ1, XZ, XC, XD1)) : wpX_start post (Ln, Lk, Tn, Op, Tg, Od, XS, XP, XE, XV, XW, XR, XQ, XZ, XC, XD) (nI r) w := by
  unfold wpX_start
  refine x_run hr (br_t (by trivial) ?_)
  simp only [rf_rc hr, rf_r3 hr, rf_m4, rf_4c hr, rf_412 hr, true_and, forall_eq]
  refine br_t hS ?_
  apply hg
  dsimp only
  exact h
theorem y_start {Ys1 Yp1 Ye1 Yq1 Yr1 Yw1 Yv1 Yd1 : Nat → Int32} {w : Int32} (hr : r < 3) (hS : Ys r = 0) (hg : ∀ Q : SY → Prop, Q (Ln, 1, Tn, Op, Tg, Od, Ys1, Yp1, Ye1, Yq1, Yr1, Yw1, Yv1, upd Yn r 0, Yh, Yz, Yd1) → wpY_goOn Q (Ln, 1, Tn, Op, Tg, Od, Ys, upd Yp r 0, upd Ye r 0, yq_ Yq r w, upd Yr r 0, Yw, upd Yv r 0, upd Yn r 0, Yh, Yz, Yd) (nI r)) (h : pos (Ys1 r) (Ln, 1, Tn, Op, Tg, Od, Ys1, Yp1, Ye1, Yq1, Yr1, Yw1, Yv1, upd Yn r 0, Yh, Yz, Yd1)) : wpY_start pos (Ln, Lk, Tn, Op, Tg, Od, Ys, Yp, Ye, Yq, Yr, Yw, Yv, Yn, Yh, Yz, Yd) (nI r) w := by
  unfold wpY_start
  refine y_run hr (br_f (by decide) ?_)
  simp only [rf_rc hr, rf_r3 hr, true_and]
  refine br_t hS ⟨5, ?_⟩
  have t0 : nI (r * 4) + 0 = nI (r * 4) := nI_add (r * 4) 0
  have t1 : nI (r * 4) + 1 = nI (r * 4 + 1) := nI_add (r * 4) 1
  have t2 : nI (r * 4) + 2 = nI (r * 4 + 2) := nI_add (r * 4) 2
  have t3 : nI (r * 4) + 3 = nI (r * 4 + 3) := nI_add (r * 4) 3
  rw [wY_start_30]
  simp only [rf_m4, t0, rf_4c hr, rf_412 hr, true_and, forall_eq]
  refine br_f (by decide) ?_
  rw [wY_start_30]
  simp only [rf_m4, show (0 : Int32) + 1 = 1 from rfl, t1, rf_tc hr (show 1 < 4 by decide), rf_t12 hr (show 1 < 4 by decide), true_and, forall_eq]
  refine br_f (by decide) ?_
  rw [wY_start_30]
  simp only [rf_m4, show (1 : Int32) + 1 = 2 from rfl, t2, rf_tc hr (show 2 < 4 by decide), rf_t12 hr (show 2 < 4 by decide), true_and, forall_eq]
  refine br_f (by decide) ?_
  rw [wY_start_30]
  simp only [rf_m4, show (2 : Int32) + 1 = 3 from rfl, t3, rf_tc hr (show 3 < 4 by decide), rf_t12 hr (show 3 < 4 by decide), true_and, forall_eq]
  refine br_f (by decide) ?_
  rw [wY_start_30]
  simp only [rf_m4, show (3 : Int32) + 1 = 4 from rfl, rf_rc hr, rf_r3 hr, rf_4c hr, rf_412 hr, true_and, forall_eq]
  refine br_t (by decide) ?_
  apply hg
  exact h
theorem x_answer {XS1 XP1 XE1 XV1 XW1 XR1 XQ1 XD1 : Nat → Int32} {w : Int32} (hr : r < 3) (hS : XS r = 1) (hP : XP r = nI p) (hp : p < 16) (hG : Tg p = nI g) (hg4 : g < 4) (hV : XV r = nI v)
    (hg : ∀ P : SX → Prop, P (Ln, Lk, Tn, Op, Tg, Od, XS1, XP1, XE1, XV1, XW1, XR1, XQ1, XZ, XC, XD1) → wpX_goOn P (Ln, Lk, Tn, Op, Tg, Od, XS, upd XP r (nI (p + 1)), upd XE r 0, upd XV r (nI (v + 1)), XW, XR, upd XQ (r * 4 + g) w, XZ, XC, XD) (nI r)) (h : post (XS1 r) (Ln, Lk, Tn, Op, Tg, Od, XS1, XP1, XE1, XV1, XW1, XR1, XQ1, XZ, XC, XD1)) : wpX_answer post (Ln, Lk, Tn, Op, Tg, Od, XS, XP, XE, XV, XW, XR, XQ, XZ, XC, XD) (nI r) w := by
  unfold wpX_answer
  refine x_run hr (br_t (by trivial) ?_)
  simp only [rf_rc hr, rf_r3 hr, true_and]
  refine br_t hS (x_tgt hr hP hp hG ?_)
  simp only [rf_tc hr hg4, rf_t12 hr hg4, true_and, forall_eq]
  refine x_fin hr hP hV ?_
  apply hg
  exact h
theorem y_answer {Ys1 Yp1 Ye1 Yq1 Yr1 Yw1 Yv1 Yd1 : Nat → Int32} {w : Int32} (hr : r < 3) (hS : Ys r = 1) (hP : Yp r = nI p) (hp : p < 16) (hG : Tg p = nI g) (hg4 : g < 4) (hV : Yv r = nI v)
    (hg : ∀ Q : SY → Prop, Q (Ln, Lk, Tn, Op, Tg, Od, Ys1, Yp1, Ye1, Yq1, Yr1, Yw1, Yv1, Yn, Yh, Yz, Yd1) → wpY_goOn Q (Ln, Lk, Tn, Op, Tg, Od, Ys, upd Yp r (nI (p + 1)), upd Ye r 0, upd Yq (r * 4 + g) w, Yr, Yw, upd Yv r (nI (v + 1)), Yn, Yh, Yz, Yd) (nI r)) (h : pos (Ys1 r) (Ln, Lk, Tn, Op, Tg, Od, Ys1, Yp1, Ye1, Yq1, Yr1, Yw1, Yv1, Yn, Yh, Yz, Yd1)) : wpY_answer pos (Ln, Lk, Tn, Op, Tg, Od, Ys, Yp, Ye, Yq, Yr, Yw, Yv, Yn, Yh, Yz, Yd) (nI r) w := by
  unfold wpY_answer
  refine y_run hr (br_f (by decide) ?_)
  simp only [rf_rc hr, rf_r3 hr, true_and]
  refine br_t hS (y_past1 hr hP hp hG hg4 hV ?_)
  apply hg
  exact h
end
theorem i_vc_start {k : Nat} {u : SX} {v : SY} (I : i_Rel k u v) (hk : k + 4 ≤ 2048) (v1 : Int32) (v2 : Int32) : wpX_start (fun r u' => wpY_start (fun r' v' => r' = r ∧ i_Rel (k + 4) u' v') v v1 v2) u v1 v2 := by
  have I2 := i_up I
  obtain ⟨len, Ln, Lk, Tn, Op, Tg, Od, XS, XP, XE, XV, XW, XR, XQ, XZ, XC, XD, Ys, Yp, Ye, Yq, Yr, Yw, Yv, Yn, Yh, Yz, Yd, rfl, rfl, hI⟩ := I
  rcases r_or v1 with hx | ⟨r, hr, rfl⟩
  · unfold wpX_start wpY_start
    exact x_nor hx (br_f (by decide) (y_nor hx (br_t (by trivial) ⟨rfl, I2⟩)))
  · have hR := hI.2.2 r hr
    by_cases z : XS r = 0
    · have z' : Ys r = 0 := by rw [← hR.1]; exact z
      obtain ⟨a1, a2, a3, a4, a5, a6, ⟨a7, a8, a9, a10⟩, _⟩ := rr_z0 hR z
      have hC : rr_C r XP XE XV (upd XQ (r * 4) v2) XZ XC XD (upd Yp r 0) (upd Ye r 0) (yq_ Yq r v2) (upd Yv r 0) (upd Yn r 0) Yh Yz Yd 0 0 0 (fun _ => 0) := by
        refine ⟨by rw [pk_us]; exact a2, a3, pk_us, a4, pk_us, by decide, fun j hj => ?_, sg_0 a7 a8 a9 a10⟩
        rw [yq_v hj]
        by_cases zj : j = 0
        · subst zj
          rw [if_pos rfl]
          exact pk_us
        · rw [if_neg zj, pk_un (by omega)]
          exact a6 j hj
      have hF : ∀ q, q < 3 → q ≠ r → rr_R q len Op Od XS XP XE XV XW XR (upd XQ (r * 4) v2) XZ XC XD Ys (upd Yp r 0) (upd Ye r 0) (yq_ Yq r v2) (upd Yr r 0) Yw (upd Yv r 0) (upd Yn r 0) Yh Yz Yd := by
        intro q hq hne
        refine rr_fr hne (hI.2.2 q hq) ?_ ?_ ?_ ?_ ?_ ?_ ?_ ?_ ?_ ?_ ?_ ?_ ?_ ?_ ?_ ?_ ?_ ?_ ?_ ?_ ?_ <;> first | exact ao_rf | exact ao_u1 | exact yq_a | exact ao_u ao_rf (by omega)
      obtain ⟨XS1, XP1, XE1, XV1, XW1, XR1, XQ1, XD1, Ys1, Yp1, Ye1, Yq1, Yr1, Yw1, Yv1, Yd1, b1, b2, b3, b4⟩ := go_0 (Ln := Ln) (Lk := 1) (Tn := Tn) (Op := Op) (Tg := Tg) (Od := Od) hr hI.1 (by decide) hC (by decide) a5 hF
      exact x_start hr z b3 (y_start hr z' b4 ⟨b1.symm, i_mk b2⟩)
    · have z' : ¬ Ys r = 0 := by rw [← hR.1]; exact z
      unfold wpX_start wpY_start
      refine x_run hr (br_t (by trivial) ⟨rf_r3 hr, ?_⟩)
      simp only [rf_rc hr]
      exact br_f z (y_run hr (br_f (by decide) ⟨rf_r3 hr, br_f z' ⟨by trivial, I2⟩⟩))
theorem i_vc_answer {k : Nat} {u : SX} {v : SY} (I : i_Rel k u v) (hk : k + 4 ≤ 2048) (v1 : Int32) (v2 : Int32) : wpX_answer (fun r u' => wpY_answer (fun r' v' => r' = r ∧ i_Rel (k + 4) u' v') v v1 v2) u v1 v2 := by
  have I2 := i_up I
  obtain ⟨len, Ln, Lk, Tn, Op, Tg, Od, XS, XP, XE, XV, XW, XR, XQ, XZ, XC, XD, Ys, Yp, Ye, Yq, Yr, Yw, Yv, Yn, Yh, Yz, Yd, rfl, rfl, hI⟩ := I
  rcases r_or v1 with hx | ⟨r, hr, rfl⟩
  · unfold wpX_answer wpY_answer
    exact x_nor hx (br_f (by decide) (y_nor hx (br_t (by trivial) ⟨rfl, I2⟩)))
  · have hR := hI.2.2 r hr
    by_cases z : XS r = 1
    · have z' : Ys r = 1 := by rw [← hR.1]; exact z
      obtain ⟨s, e, v, n, t, h1, h2, h3, hC, h5, h6⟩ := rr_as hR (by rw [z]; decide)
      have es : s = 1 := rr_s (q := 1) h3 z h2 (by decide)
      obtain ⟨g1, g2, g3, p, hp, hP, _⟩ := h6 (by omega)
      have hp16 : p < 16 := by have := hI.1.2.1; omega
      have hP' : Yp r = nI p := by rw [← hC.1]; exact hP
      obtain ⟨g, hg, hG⟩ := hI.1.2.2.2 p
      have hK : ¬ Lk = 0 := fun q => by have := hI.2.1 q r hr; rw [z] at this; exact absurd this (by decide)
      have hF : ∀ q, q < 3 → q ≠ r → rr_R q len Op Od XS (upd XP r (nI (p + 1))) (upd XE r 0) (upd XV r (nI (v + 1))) XW XR (upd XQ (r * 4 + g) v2) XZ XC XD Ys (upd Yp r (nI (p + 1))) (upd Ye r 0) (upd Yq (r * 4 + g) v2) Yr Yw (upd Yv r (nI (v + 1))) Yn Yh Yz Yd := by
        intro q hq hne
        refine rr_fr hne (hI.2.2 q hq) ?_ ?_ ?_ ?_ ?_ ?_ ?_ ?_ ?_ ?_ ?_ ?_ ?_ ?_ ?_ ?_ ?_ ?_ ?_ ?_ ?_ <;> first | exact ao_rf | exact ao_u1 | exact ao_u ao_rf (by omega)
      obtain ⟨XS1, XP1, XE1, XV1, XW1, XR1, XQ1, XD1, Ys1, Yp1, Ye1, Yq1, Yr1, Yw1, Yv1, Yd1, b1, b2, b3, b4⟩ := go_0 (Ln := Ln) (Lk := Lk) (Tn := Tn) (Op := Op) (Tg := Tg) (Od := Od) hr hI.1 hK (rr_pw (p := p) (w := v2) hC g3 hg) (by decide) g1 hF
      exact x_answer hr z hP hp16 hG hg hC.2.2.2.1 b3 (y_answer hr z' hP' hp16 hG hg hC.2.2.2.2.1 b4 ⟨b1.symm, i_mk b2⟩)
    · have z' : ¬ Ys r = 1 := by rw [← hR.1]; exact z
      unfold wpX_answer wpY_answer
      refine x_run hr (br_t (by trivial) ⟨rf_r3 hr, ?_⟩)
      simp only [rf_rc hr]
      exact br_f z (y_run hr (br_f (by decide) ⟨rf_r3 hr, br_f z' ⟨by trivial, I2⟩⟩))
end
section
section
variable {Ln Lk Tn w w2 : Int32} {Op Tg Od XS XP XE XV XW XR XQ XZ XC XD Ys Yp Ye Yq Yr Yw Yv Yn Yh Yz Yd : Nat → Int32} {post : Int32 → SX → Prop} {pos : Int32 → SY → Prop} {r len e v n p g a b c d m : Nat} {t : Nat → Nat}
theorem rl_mk (hsc : sc_R len Ln Op Tg) (hK : ¬ Lk = 0) (hB : rr_B r len Op Od XS XP XE XV XW XR XQ XZ XC XD Ys Yp Ye Yq Yr Yw Yv Yn Yh Yz Yd) (hF : ∀ q, q < 3 → q ≠ r → rr_R q len Op Od XS XP XE XV XW XR XQ XZ XC XD Ys Yp Ye Yq Yr Yw Yv Yn Yh Yz Yd) : rl_R len Ln Lk Op Tg Od XS XP XE XV XW XR XQ XZ XC XD Ys Yp Ye Yq Yr Yw Yv Yn Yh Yz Yd := by
  refine ⟨hsc, fun z => absurd z hK, fun q hq => ?_⟩
  by_cases z : q = r
  · subst z
    exact ⟨hB.1, Or.inr hB.2⟩
  · exact hF q hq z
theorem sg_ot (hc : c < 2) (hd : d < 2) (h : ¬ c = d) : sg_n (upd Yh (r * 24 + n) (nI c)) (r * 24) (nI d) (n + 1) = sg_n Yh (r * 24) (nI d) n := by
  rw [sg_no (by rw [pk_us]; exact fun z => h (sg_cc hc hd z))]
  exact sg_cg n (fun k hk => pk_un (by omega))
theorem x_sigF (hr : r < 3) (hS0 : ¬ XS r = 0) (hS4 : ¬ XS r = 4) (hA : XC (r * 2) = nI a) (hA1 : XC (r * 2 + 1) = nI b) (hab : a + b = 24) (h : post (-2) (Ln, Lk, Tn, Op, Tg, Od, XS, XP, XE, XV, XW, XR, XQ, XZ, XC, XD)) : wpX_signal post (Ln, Lk, Tn, Op, Tg, Od, XS, XP, XE, XV, XW, XR, XQ, XZ, XC, XD) (nI r) w2 w := by
  unfold wpX_signal
  refine x_run hr (br_t (by trivial) ?_)
  have e0 : (nI (r * 2)).toNatClampNeg = r * 2 := nI_clamp (by omega)
  have e1 : vp_in (nI (r * 2)) 6 := vp_in_nI (by omega) (by decide)
  simp only [rf_rc hr, rf_r3 hr, rf_m2, e0, e1, nI_1, nI_add, hA, hA1, rf_qc hr (show 1 < 2 by decide), rf_q6 hr (show 1 < 2 by decide), hab, true_and, forall_eq]
  exact br_f hS0 (br_f hS4 (br_f (by decide) h))
theorem x_sigN (hr : r < 3) (hS0 : ¬ XS r = 0) (hS4 : ¬ XS r = 4) (hA : XC (r * 2) = nI a) (hA1 : XC (r * 2 + 1) = nI b) (hab : a + b < 24) (hw : w2 &&& 1 = nI c) (hc : c < 2) (hm : XC (r * 2 + c) = nI m) (hm24 : m < 24) (hS3 : ¬ XS r = 3) (h : post (XS r) (Ln, Lk, Tn, Op, Tg, Od, XS, XP, XE, XV, XW, XR, XQ, upd XZ ((r * 2 + c) * 24 + m) w, upd XC (r * 2 + c) (nI (m + 1)), XD)) : wpX_signal post (Ln, Lk, Tn, Op, Tg, Od, XS, XP, XE, XV, XW, XR, XQ, XZ, XC, XD) (nI r) w2 w := by
  unfold wpX_signal
  refine x_run hr (br_t (by trivial) ?_)
  have e0 : (nI (r * 2)).toNatClampNeg = r * 2 := nI_clamp (by omega)
  have e1 : vp_in (nI (r * 2)) 6 := vp_in_nI (by omega) (by decide)
  simp only [rf_rc hr, rf_r3 hr, rf_m2, hw, e0, e1, nI_1, nI_add, hA, hA1, rf_qc hr (show 1 < 2 by decide), rf_q6 hr (show 1 < 2 by decide), rf_qc hr hc, rf_q6 hr hc, hm, rf_m24, rf_zc hr hc hm24, rf_z144 hr hc hm24, true_and, forall_eq]
  refine br_f hS0 (br_f hS4 (br_t (nI_lt (b := 24) hab (by decide)) ?_))
  exact br_f hS3 h
theorem x_sigO (hr : r < 3) (hS0 : ¬ XS r = 0) (hS4 : ¬ XS r = 4) (hA : XC (r * 2) = nI a) (hA1 : XC (r * 2 + 1) = nI b) (hab : a + b < 24) (hw : w2 &&& 1 = nI c) (hc : c < 2) (hm : XC (r * 2 + c) = nI m) (hm24 : m < 24) (hS3 : XS r = 3) (hP : XP r = nI p) (hp : p < 16) (hB : Od p &&& 1 = nI d) (hd : d < 2) (hcd : ¬ c = d) (h : post (XS r) (Ln, Lk, Tn, Op, Tg, Od, XS, XP, XE, XV, XW, XR, XQ, upd XZ ((r * 2 + c) * 24 + m) w, upd XC (r * 2 + c) (nI (m + 1)), XD)) : wpX_signal post (Ln, Lk, Tn, Op, Tg, Od, XS, XP, XE, XV, XW, XR, XQ, XZ, XC, XD) (nI r) w2 w := by
  unfold wpX_signal
  refine x_run hr (br_t (by trivial) ?_)
  have e0 : (nI (r * 2)).toNatClampNeg = r * 2 := nI_clamp (by omega)
  have e1 : vp_in (nI (r * 2)) 6 := vp_in_nI (by omega) (by decide)
  simp only [rf_rc hr, rf_r3 hr, rf_m2, hw, e0, e1, nI_1, nI_add, hA, hA1, rf_qc hr (show 1 < 2 by decide), rf_q6 hr (show 1 < 2 by decide), rf_qc hr hc, rf_q6 hr hc, hm, rf_m24, rf_zc hr hc hm24, rf_z144 hr hc hm24, true_and, forall_eq]
  refine br_f hS0 (br_f hS4 (br_t (nI_lt (b := 24) hab (by decide)) ?_))
  refine br_t hS3 (x_que hr hP hp hB ?_)
  exact br_f (fun z => hcd (by have := (nI_eq (by omega) (by omega)).mp z; omega)) h
theorem x_sigT {XS1 XP1 XE1 XV1 XW1 XR1 XQ1 XD1 : Nat → Int32} (hr : r < 3) (hS0 : ¬ XS r = 0) (hS4 : ¬ XS r = 4) (hA : XC (r * 2) = nI a) (hA1 : XC (r * 2 + 1) = nI b) (hab : a + b < 24) (hw : w2 &&& 1 = nI c) (hc : c < 2) (hm : XC (r * 2 + c) = nI m) (hm24 : m < 24) (hS3 : XS r = 3) (hP : XP r = nI p) (hp : p < 16) (hB : Od p &&& 1 = nI c) (hG : Tg p = nI g) (hg4 : g < 4) (hV : XV r = nI v) (hD : XD (r * 2 + c) = nI d) (hd : d < 24)
    (hg : ∀ P : SX → Prop, P (Ln, Lk, Tn, Op, Tg, Od, XS1, XP1, XE1, XV1, XW1, XR1, XQ1, upd XZ ((r * 2 + c) * 24 + m) w, upd XC (r * 2 + c) (nI (m + 1)), XD1) → wpX_goOn P (Ln, Lk, Tn, Op, Tg, Od, XS, upd XP r (nI (p + 1)), upd XE r 0, upd XV r (nI (v + 1)), XW, XR, upd XQ (r * 4 + g) (upd XZ ((r * 2 + c) * 24 + m) w ((r * 2 + c) * 24 + d)), upd XZ ((r * 2 + c) * 24 + m) w, upd XC (r * 2 + c) (nI (m + 1)), upd XD (r * 2 + c) (nI (d + 1))) (nI r)) (h : post (XS1 r) (Ln, Lk, Tn, Op, Tg, Od, XS1, XP1, XE1, XV1, XW1, XR1, XQ1, upd XZ ((r * 2 + c) * 24 + m) w, upd XC (r * 2 + c) (nI (m + 1)), XD1)) : wpX_signal post (Ln, Lk, Tn, Op, Tg, Od, XS, XP, XE, XV, XW, XR, XQ, XZ, XC, XD) (nI r) w2 w := by
  unfold wpX_signal
  refine x_run hr (br_t (by trivial) ?_)
  have e0 : (nI (r * 2)).toNatClampNeg = r * 2 := nI_clamp (by omega)
  have e1 : vp_in (nI (r * 2)) 6 := vp_in_nI (by omega) (by decide)
  simp only [rf_rc hr, rf_r3 hr, rf_m2, hw, e0, e1, nI_1, nI_add, hA, hA1, rf_qc hr (show 1 < 2 by decide), rf_q6 hr (show 1 < 2 by decide), rf_qc hr hc, rf_q6 hr hc, hm, rf_m24, rf_zc hr hc hm24, rf_z144 hr hc hm24, true_and, forall_eq]
  refine br_f hS0 (br_f hS4 (br_t (nI_lt (b := 24) hab (by decide)) ?_))
  refine br_t hS3 (x_que hr hP hp hB (br_t (by trivial) (x_take hr hP hp hG hg4 hB hc hV hD hd ?_)))
  apply hg
  exact h
theorem y_sigF (hr : r < 3) (hS0 : ¬ Ys r = 0) (hS4 : ¬ Ys r = 4) (hN : Yn r = 24) (h : pos (-2) (Ln, Lk, Tn, Op, Tg, Od, Ys, Yp, Ye, Yq, Yr, Yw, Yv, Yn, Yh, Yz, Yd)) : wpY_signal pos (Ln, Lk, Tn, Op, Tg, Od, Ys, Yp, Ye, Yq, Yr, Yw, Yv, Yn, Yh, Yz, Yd) (nI r) w2 w := by
  unfold wpY_signal
  refine y_run hr (br_f (by decide) ?_)
  simp only [rf_rc hr, rf_r3 hr, hN, true_and]
  exact br_f hS0 (br_f hS4 (br_t (by trivial) h))
theorem y_sigN (hr : r < 3) (hS0 : ¬ Ys r = 0) (hS4 : ¬ Ys r = 4) (hN : Yn r = nI n) (hn : n < 24) (hw : w2 &&& 1 = nI c) (hS3 : ¬ Ys r = 3) (h : pos (Ys r) (Ln, Lk, Tn, Op, Tg, Od, Ys, Yp, Ye, Yq, Yr, Yw, Yv, upd Yn r (nI (n + 1)), upd Yh (r * 24 + n) (nI c), upd Yz (r * 24 + n) w, upd Yd (r * 24 + n) 0)) : wpY_signal pos (Ln, Lk, Tn, Op, Tg, Od, Ys, Yp, Ye, Yq, Yr, Yw, Yv, Yn, Yh, Yz, Yd) (nI r) w2 w := by
  unfold wpY_signal
  refine y_run hr (br_f (by decide) ?_)
  simp only [rf_rc hr, rf_r3 hr, hN, rf_m24, nI_add, nI_1, rf_yc hr hn, rf_y72 hr hn, y_b0, hw, true_and, forall_eq]
  refine br_f hS0 (br_f hS4 (br_f (fun z => absurd ((nI_eq (b := 24) (by omega) (by decide)).mp z) (by omega)) ?_))
  exact br_f hS3 h
theorem y_sigG {Ys1 Yp1 Ye1 Yq1 Yr1 Yw1 Yv1 Yd1 : Nat → Int32} (hr : r < 3) (hS0 : ¬ Ys r = 0) (hS4 : ¬ Ys r = 4) (hN : Yn r = nI n) (hn : n < 24) (hw : w2 &&& 1 = nI c) (hS3 : Ys r = 3) (hg : ∀ Q : SY → Prop, Q (Ln, Lk, Tn, Op, Tg, Od, Ys1, Yp1, Ye1, Yq1, Yr1, Yw1, Yv1, upd Yn r (nI (n + 1)), upd Yh (r * 24 + n) (nI c), upd Yz (r * 24 + n) w, Yd1) → wpY_goOn Q (Ln, Lk, Tn, Op, Tg, Od, Ys, Yp, Ye, Yq, Yr, Yw, Yv, upd Yn r (nI (n + 1)), upd Yh (r * 24 + n) (nI c), upd Yz (r * 24 + n) w, upd Yd (r * 24 + n) 0) (nI r)) (h : pos (Ys1 r) (Ln, Lk, Tn, Op, Tg, Od, Ys1, Yp1, Ye1, Yq1, Yr1, Yw1, Yv1, upd Yn r (nI (n + 1)), upd Yh (r * 24 + n) (nI c), upd Yz (r * 24 + n) w, Yd1)) : wpY_signal pos (Ln, Lk, Tn, Op, Tg, Od, Ys, Yp, Ye, Yq, Yr, Yw, Yv, Yn, Yh, Yz, Yd) (nI r) w2 w := by
  unfold wpY_signal
  refine y_run hr (br_f (by decide) ?_)
  simp only [rf_rc hr, rf_r3 hr, hN, rf_m24, nI_add, nI_1, rf_yc hr hn, rf_y72 hr hn, y_b0, hw, true_and, forall_eq]
  refine br_f hS0 (br_f hS4 (br_f (fun z => absurd ((nI_eq (b := 24) (by omega) (by decide)).mp z) (by omega)) ?_))
  refine br_t hS3 ?_
  apply hg
  exact h
end
end
section
theorem sg_d1 {r c m : Nat} (hc : c < 2) (hm : m < 24) : ((r * 2 + c) * 24 + m) / 48 = r := by omega
theorem sg_d2 {r c : Nat} (hc : c < 2) : (r * 2 + c) / 2 = r := by omega
theorem sg_d3 {r n : Nat} (hn : n < 24) : (r * 24 + n) / 24 = r := by omega
theorem sg_d4 {r g : Nat} (hg : g < 4) : (r * 4 + g) / 4 = r := by omega
theorem i_vc_signal {k : Nat} {u : SX} {v : SY} (I : i_Rel k u v) (hk : k + 4 ≤ 2048) (v1 : Int32) (v2 : Int32) (v3 : Int32) : wpX_signal (fun r u' => wpY_signal (fun r' v' => r' = r ∧ i_Rel (k + 4) u' v') v v1 v2 v3) u v1 v2 v3 := by
  have I2 := i_up I
  obtain ⟨len, Ln, Lk, Tn, Op, Tg, Od, XS, XP, XE, XV, XW, XR, XQ, XZ, XC, XD, Ys, Yp, Ye, Yq, Yr, Yw, Yv, Yn, Yh, Yz, Yd, rfl, rfl, hI⟩ := I
  rcases r_or v1 with hx | ⟨r, hr, rfl⟩
  · unfold wpX_signal wpY_signal
    exact x_nor hx (br_f (by decide) (y_nor hx (br_t (by trivial) ⟨rfl, I2⟩)))
  have hR := hI.2.2 r hr
  by_cases z : XS r = 0
  · have z' : Ys r = 0 := by rw [← hR.1]; exact z
    unfold wpX_signal wpY_signal
    refine x_run hr (br_t (by trivial) ⟨rf_r3 hr, ?_⟩)
    simp only [rf_rc hr]
    exact br_t z (y_run hr (br_f (by decide) ⟨rf_r3 hr, br_t z' ⟨by trivial, I2⟩⟩))
  have z' : ¬ Ys r = 0 := by rw [← hR.1]; exact z
  by_cases z4 : XS r = 4
  · have z4' : Ys r = 4 := by rw [← hR.1]; exact z4
    unfold wpX_signal wpY_signal
    refine x_run hr (br_t (by trivial) ⟨rf_r3 hr, ?_⟩)
    simp only [rf_rc hr]
    exact br_f z ⟨rf_r3 hr, br_t z4 (y_run hr (br_f (by decide) ⟨rf_r3 hr, br_f z' ⟨rf_r3 hr, br_t z4' ⟨by trivial, I2⟩⟩⟩))⟩
  have z4' : ¬ Ys r = 4 := by rw [← hR.1]; exact z4
  obtain ⟨s, e, v, n, t, h1, h2, h3, hC, h5, h6⟩ := rr_as hR z
  have s4 : s ≠ 4 := fun q => z4 (by rw [h3, q]; rfl)
  obtain ⟨g1, g2, g3, p, hp, hP, hO, h62, h63⟩ := h6 s4
  have hC8 := hC.2.2.2.2.2.2.2
  obtain ⟨d1, d2, d3⟩ := hC8.2.2.1 0 (by decide)
  obtain ⟨f1, f2, f3⟩ := hC8.2.2.1 1 (by decide)
  have hsum := sg_all hC8
  have hN := hC8.2.1
  have hn24 := hC8.1
  have hp16 : p < 16 := Nat.lt_of_lt_of_le hp hI.1.2.1
  have hP' : Yp r = nI p := by rw [← hC.1]; exact hP
  have hK : ¬ Lk = 0 := fun q => z (hI.2.1 q r hr)
  by_cases hn : n = 24
  · exact x_sigF hr z z4 d1 f1 (by rw [hsum]; exact hn) (y_sigF hr z' z4' (by rw [hN, hn]; rfl) ⟨rfl, I2⟩)
  have hn : n < 24 := by omega
  obtain ⟨c, hc, hw⟩ := rf_a1 v2
  obtain ⟨m1, m2, m3⟩ := hC8.2.2.1 c hc
  have hm24 : sg_n Yh (r * 24) (nI c) n < 24 := Nat.lt_of_le_of_lt (sg_le _ _ _ _) hn
  have hab : sg_n Yh (r * 24) (nI 0) n + sg_n Yh (r * 24) (nI 1) n < 24 := by rw [hsum]; exact hn
  have hS' := sg_add hC8 hc hn v3
  have y1 : ((r * 2 + c) * 24 + sg_n Yh (r * 24) (nI c) n) / 48 = r := sg_d1 hc hm24
  have y2 : (r * 2 + c) / 2 = r := sg_d2 hc
  have y3 : (r * 24 + n) / 24 = r := sg_d3 hn
  have hC' : rr_C r XP XE XV XQ (upd XZ ((r * 2 + c) * 24 + sg_n Yh (r * 24) (nI c) n) v3) (upd XC (r * 2 + c) (nI (sg_n Yh (r * 24) (nI c) n + 1))) XD Yp Ye Yq Yv (upd Yn r (nI (n + 1))) (upd Yh (r * 24 + n) (nI c)) (upd Yz (r * 24 + n) v3) (upd Yd (r * 24 + n) 0) e v (n + 1) t :=
    ⟨hC.1, hC.2.1, hC.2.2.1, hC.2.2.2.1, hC.2.2.2.2.1, hC.2.2.2.2.2.1, hC.2.2.2.2.2.2.1, hS'⟩
  by_cases s3 : s = 3
  · subst s3
    have z3 : XS r = 3 := h3
    have z3' : Ys r = 3 := by rw [← hR.1]; exact z3
    obtain ⟨d, hd, hB, ht⟩ := h63 rfl
    by_cases hcd : c = d
    · subst hcd
      obtain ⟨g, hg, hG⟩ := hI.1.2.2.2 p
      have y4 : (r * 4 + g) / 4 = r := sg_d4 hg
      obtain ⟨w, hw2, hFs⟩ := ys_first (Ln := Ln) (Lk := Lk) (Tn := Tn) (Op := Op) (Tg := Tg) (Od := Od) (Ys := Ys) (Yp := Yp) (Ye := Ye) (Yq := Yq) (Yr := Yr) (Yw := Yw) (Yv := Yv) hr hS' hc
      rcases hw2 with ⟨ht2, _⟩ | ⟨i0, hi0, rfl, hH, hni⟩
      · rw [sg_y pk_us, sg_cg n (fun k hk => pk_un (by omega))] at ht2
        omega
      · have hi24 : i0 < 24 := by omega
        have y5 : (r * 24 + i0) / 24 = r := sg_d3 hi24
        have hT := rr_tk (p := p) (g := g) hC' g3 hc hi0 hH hni hg
        have hF : ∀ q, q < 3 → q ≠ r → rr_R q len Op Od XS (upd XP r (nI (p + 1))) (upd XE r 0) (upd XV r (nI (v + 1))) XW XR (upd XQ (r * 4 + g) (upd XZ ((r * 2 + c) * 24 + sg_n Yh (r * 24) (nI c) n) v3 ((r * 2 + c) * 24 + t c))) (upd XZ ((r * 2 + c) * 24 + sg_n Yh (r * 24) (nI c) n) v3) (upd XC (r * 2 + c) (nI (sg_n Yh (r * 24) (nI c) n + 1))) (upd XD (r * 2 + c) (nI (t c + 1))) (upd Ys r 3) (upd Yp r (nI (p + 1))) (upd Ye r 0) (upd Yq (r * 4 + g) (upd Yz (r * 24 + n) v3 (r * 24 + i0))) Yr Yw (upd Yv r (nI (v + 1))) (upd Yn r (nI (n + 1))) (upd Yh (r * 24 + n) (nI c)) (upd Yz (r * 24 + n) v3) (upd (upd Yd (r * 24 + n) 0) (r * 24 + i0) 1) := by
          intro q hq hne
          refine rr_fr hne (hI.2.2 q hq) ?_ ?_ ?_ ?_ ?_ ?_ ?_ ?_ ?_ ?_ ?_ ?_ ?_ ?_ ?_ ?_ ?_ ?_ ?_ ?_ ?_ <;> first | exact ao_rf | exact ao_u1 | exact ao_u ao_rf y1 | exact ao_u ao_rf y2 | exact ao_u ao_rf y3 | exact ao_u ao_rf y4 | exact ao_u (ao_u ao_rf y3) y5
        obtain ⟨XS1, XP1, XE1, XV1, XW1, XR1, XQ1, XD1, Ys1, Yp1, Ye1, Yq1, Yr1, Yw1, Yv1, Yd1, b1, b2, b3, b4⟩ := go_k (Ln := Ln) (Lk := Lk) (Tn := Tn) (Op := Op) (Tg := Tg) (Od := Od) 1 (by decide) hr hI.1 hK hT (by decide) g1 hF
        refine x_sigT hr z z4 d1 f1 hab hw hc m1 hm24 z3 hP hp16 hB hG hg hC.2.2.2.1 m2 (by omega) b3 (y_sigG hr z' z4' hN hn hw z3' (fun Q hQ => ?_) ⟨b1.symm, i_mk b2⟩)
        simp only [wpY_goOn]
        exact ⟨2601, yg_w (i := 0) hr (by decide) hI.1.1 hI.1.2.1 hP' hp (by decide) (by decide) hO hC.2.2.1 g2 hC.2.2.2.2.1 g3 (fun q hq => y_w7t hr hP' hp16 hO hG hg hB hi24 hC.2.2.2.2.1 hFs hq) (b4 Q hQ)⟩
    · have hF : ∀ q, q < 3 → q ≠ r → rr_R q len Op Od XS XP XE XV XW XR XQ (upd XZ ((r * 2 + c) * 24 + sg_n Yh (r * 24) (nI c) n) v3) (upd XC (r * 2 + c) (nI (sg_n Yh (r * 24) (nI c) n + 1))) XD (upd Ys r 3) Yp Ye Yq Yr Yw Yv (upd Yn r (nI (n + 1))) (upd Yh (r * 24 + n) (nI c)) (upd Yz (r * 24 + n) v3) (upd Yd (r * 24 + n) 0) := by
        intro q hq hne
        refine rr_fr hne (hI.2.2 q hq) ?_ ?_ ?_ ?_ ?_ ?_ ?_ ?_ ?_ ?_ ?_ ?_ ?_ ?_ ?_ ?_ ?_ ?_ ?_ ?_ ?_ <;> first | exact ao_rf | exact ao_u1 | exact ao_u ao_rf y1 | exact ao_u ao_rf y2 | exact ao_u ao_rf y3 | exact ao_u ao_rf y4 | exact ao_u (ao_u ao_rf y3) y5
      have ht' : t d = sg_n (upd Yh (r * 24 + n) (nI c)) (r * 24) (nI d) (n + 1) := by rw [sg_ot hc hd hcd]; exact ht
      have hB2 : rr_B r len Op Od XS XP XE XV XW XR XQ (upd XZ ((r * 2 + c) * 24 + sg_n Yh (r * 24) (nI c) n) v3) (upd XC (r * 2 + c) (nI (sg_n Yh (r * 24) (nI c) n + 1))) XD (upd Ys r 3) Yp Ye Yq Yr Yw Yv (upd Yn r (nI (n + 1))) (upd Yh (r * 24 + n) (nI c)) (upd Yz (r * 24 + n) v3) (upd Yd (r * 24 + n) 0) :=
        ⟨by rw [pk_us]; exact z3, 3, e, v, n + 1, t, by decide, by decide, h3, hC', fun z => absurd z (by decide), fun _ => ⟨g1, g2, g3, p, hp, hP, hO, fun z => absurd z (by decide), fun _ => ⟨d, hd, hB, ht'⟩⟩⟩
      have hrl := rl_mk (Ln := Ln) (Lk := Lk) (Tg := Tg) hI.1 hK hB2 hF
      obtain ⟨w, hw2, hFs⟩ := ys_first (Ln := Ln) (Lk := Lk) (Tn := Tn) (Op := Op) (Tg := Tg) (Od := Od) (Ys := Ys) (Yp := Yp) (Ye := Ye) (Yq := Yq) (Yr := Yr) (Yw := Yw) (Yv := Yv) hr hS' hd
      rcases hw2 with ⟨_, rfl⟩ | ⟨i0, hi0, rfl, hH, hni⟩
      · refine x_sigO hr z z4 d1 f1 hab hw hc m1 hm24 z3 hP hp16 hB hd hcd (y_sigG hr z' z4' hN hn hw z3' (fun Q hQ => ?_) ⟨?_, i_mk hrl⟩)
        · simp only [wpY_goOn]
          exact ⟨2, yg_w (i := 0) hr (by decide) hI.1.1 hI.1.2.1 hP' hp (by decide) (by decide) hO hC.2.2.1 g2 hC.2.2.2.2.1 g3 (fun q hq => y_w7w hr hP' hp16 hO hB hFs hq) (yg_exit hQ)⟩
        · rw [pk_us, z3]
      · have := sg_lt hi0 hH
        omega
  · have z3 : ¬ XS r = 3 := fun q => s3 (rr_s (q := 3) h3 q h2 (by decide))
    have z3' : ¬ Ys r = 3 := by rw [← hR.1]; exact z3
    have hF : ∀ q, q < 3 → q ≠ r → rr_R q len Op Od XS XP XE XV XW XR XQ (upd XZ ((r * 2 + c) * 24 + sg_n Yh (r * 24) (nI c) n) v3) (upd XC (r * 2 + c) (nI (sg_n Yh (r * 24) (nI c) n + 1))) XD Ys Yp Ye Yq Yr Yw Yv (upd Yn r (nI (n + 1))) (upd Yh (r * 24 + n) (nI c)) (upd Yz (r * 24 + n) v3) (upd Yd (r * 24 + n) 0) := by
      intro q hq hne
      refine rr_fr hne (hI.2.2 q hq) ?_ ?_ ?_ ?_ ?_ ?_ ?_ ?_ ?_ ?_ ?_ ?_ ?_ ?_ ?_ ?_ ?_ ?_ ?_ ?_ ?_ <;> first | exact ao_rf | exact ao_u1 | exact ao_u ao_rf y1 | exact ao_u ao_rf y2 | exact ao_u ao_rf y3 | exact ao_u ao_rf y4 | exact ao_u (ao_u ao_rf y3) y5
    have hB2 : rr_B r len Op Od XS XP XE XV XW XR XQ (upd XZ ((r * 2 + c) * 24 + sg_n Yh (r * 24) (nI c) n) v3) (upd XC (r * 2 + c) (nI (sg_n Yh (r * 24) (nI c) n + 1))) XD Ys Yp Ye Yq Yr Yw Yv (upd Yn r (nI (n + 1))) (upd Yh (r * 24 + n) (nI c)) (upd Yz (r * 24 + n) v3) (upd Yd (r * 24 + n) 0) :=
      ⟨hR.1, s, e, v, n + 1, t, h1, h2, h3, hC', h5, fun _ => ⟨g1, g2, g3, p, hp, hP, hO, h62, fun z => absurd z s3⟩⟩
    have hrl := rl_mk (Ln := Ln) (Lk := Lk) (Tg := Tg) hI.1 hK hB2 hF
    exact x_sigN hr z z4 d1 f1 hab hw hc m1 hm24 z3 (y_sigN hr z' z4' hN hn hw z3' ⟨hR.1.symm, i_mk hrl⟩)
end
section
section
variable {Ln Lk Tn : Int32} {Op Tg Od XZ XC Yn Yh Yz : Nat → Int32} {len : Nat}
theorem ps_ls : ∀ (d j : Nat) (XS XP XE XV XW XR XQ XD Ys Yp Ye Yq Yr Yw Yv Yd : Nat → Int32) (x : Int32), j + d = 3 → rl_R len Ln Lk Op Tg Od XS XP XE XV XW XR XQ XZ XC XD Ys Yp Ye Yq Yr Yw Yv Yn Yh Yz Yd →
    ∃ (w : Int32) (XS1 XP1 XE1 XV1 XW1 XR1 XQ1 XD1 Ys1 Yp1 Ye1 Yq1 Yr1 Yw1 Yv1 Yd1 : Nat → Int32), rl_R len Ln Lk Op Tg Od XS1 XP1 XE1 XV1 XW1 XR1 XQ1 XZ XC XD1 Ys1 Yp1 Ye1 Yq1 Yr1 Yw1 Yv1 Yn Yh Yz Yd1 ∧
      (∀ P : Int32 → SX → Prop, P w (Ln, Lk, Tn, Op, Tg, Od, XS1, XP1, XE1, XV1, XW1, XR1, XQ1, XZ, XC, XD1) → wX_pass_28 P (d + 1) x (nI j) Ln Lk Tn Op Tg Od XS XP XE XV XW XR XQ XZ XC XD) ∧ (∀ Q : Int32 → SY → Prop, Q w (Ln, Lk, Tn, Op, Tg, Od, Ys1, Yp1, Ye1, Yq1, Yr1, Yw1, Yv1, Yn, Yh, Yz, Yd1) → wY_pass_28 Q (d + 1) x (nI j) Ln Lk Tn Op Tg Od Ys Yp Ye Yq Yr Yw Yv Yn Yh Yz Yd) := by
  intro d
  induction d with
  | zero =>
    intro j XS XP XE XV XW XR XQ XD Ys Yp Ye Yq Yr Yw Yv Yd x hj hI
    have e : j = 3 := by omega
    subst e
    refine ⟨x, XS, XP, XE, XV, XW, XR, XQ, XD, Ys, Yp, Ye, Yq, Yr, Yw, Yv, Yd, hI, fun P hP => ?_, fun Q hQ => ?_⟩
    · rw [wX_pass_28]
      exact br_t (by decide) hP
    · rw [wY_pass_28]
      exact br_t (by decide) hQ
  | succ d ih =>
    intro r XS XP XE XV XW XR XQ XD Ys Yp Ye Yq Yr Yw Yv Yd x hj hI
    have hr : r < 3 := by omega
    have hR := hI.2.2 r hr
    have h3 : ¬ (3 : Int32) ≤ nI r := nI_ge (b := 3) hr (by decide)
    by_cases z : XS r = 2
    · have z' : Ys r = 2 := by rw [← hR.1]; exact z
      obtain ⟨s, e, v, n, t, h1, h2, hs, hC, h5, h6⟩ := rr_as hR (by rw [z]; decide)
      have es : s = 2 := rr_s (q := 2) hs z h2 (by decide)
      obtain ⟨g1, g2, g3, p, hp, hP, hO, h62, _⟩ := h6 (by omega)
      have hW := h62 es
      have hP' : Yp r = nI p := by rw [← hC.1]; exact hP
      have hK : ¬ Lk = 0 := fun q => by have := hI.2.1 q r hr; rw [z] at this; exact absurd this (by decide)
      by_cases hT : Tn < XW r
      · have hT' : Tn < Yw r := by rw [← hW]; exact hT
        obtain ⟨w, XS1, XP1, XE1, XV1, XW1, XR1, XQ1, XD1, Ys1, Yp1, Ye1, Yq1, Yr1, Yw1, Yv1, Yd1, a1, a2, a3⟩ := ih (r + 1) XS XP XE XV XW XR XQ XD Ys Yp Ye Yq Yr Yw Yv Yd x (by omega) hI
        refine ⟨w, XS1, XP1, XE1, XV1, XW1, XR1, XQ1, XD1, Ys1, Yp1, Ye1, Yq1, Yr1, Yw1, Yv1, Yd1, a1, fun P hP => ?_, fun Q hQ => ?_⟩
        · rw [wX_pass_28]
          simp only [rf_rc hr, rf_r3 hr, nI_1, true_and, forall_eq]
          exact br_f h3 (br_t z (br_t hT (a2 P hP)))
        · rw [wY_pass_28]
          simp only [rf_rc hr, rf_r3 hr, nI_1, true_and, forall_eq]
          exact br_f h3 (br_t z' (br_t hT' (a3 Q hQ)))
      · have hT' : ¬ Tn < Yw r := by rw [← hW]; exact hT
        have hF : ∀ q, q < 3 → q ≠ r → rr_R q len Op Od XS (upd XP r (nI (p + 1))) (upd XE r 0) (upd XV r (nI (v + 1))) XW XR XQ XZ XC XD Ys (upd Yp r (nI (p + 1))) (upd Ye r 0) Yq Yr Yw (upd Yv r (nI (v + 1))) Yn Yh Yz Yd := by
          intro q hq hne
          refine rr_fr hne (hI.2.2 q hq) ?_ ?_ ?_ ?_ ?_ ?_ ?_ ?_ ?_ ?_ ?_ ?_ ?_ ?_ ?_ ?_ ?_ ?_ ?_ ?_ ?_ <;> first | exact ao_rf | exact ao_u1
        obtain ⟨XS2, XP2, XE2, XV2, XW2, XR2, XQ2, XD2, Ys2, Yp2, Ye2, Yq2, Yr2, Yw2, Yv2, Yd2, b1, b2, b3, b4⟩ := go_0 (Ln := Ln) (Lk := Lk) (Tn := Tn) (Op := Op) (Tg := Tg) (Od := Od) hr hI.1 hK (rr_pz (p := p) hC g3) (by decide) g1 hF
        obtain ⟨w, XS1, XP1, XE1, XV1, XW1, XR1, XQ1, XD1, Ys1, Yp1, Ye1, Yq1, Yr1, Yw1, Yv1, Yd1, a1, a2, a3⟩ := ih (r + 1) _ _ _ _ _ _ _ _ _ _ _ _ _ _ _ _ (x + 1) (by omega) b2
        refine ⟨w, XS1, XP1, XE1, XV1, XW1, XR1, XQ1, XD1, Ys1, Yp1, Ye1, Yq1, Yr1, Yw1, Yv1, Yd1, a1, fun P hQ => ?_, fun Q hQ => ?_⟩
        · rw [wX_pass_28]
          simp only [rf_rc hr, rf_r3 hr, nI_1, true_and, forall_eq]
          refine br_f h3 (br_t z (br_f hT (x_fin hr hP hC.2.2.2.1 ?_)))
          apply b3
          exact a2 P hQ
        · rw [wY_pass_28]
          simp only [rf_rc hr, rf_r3 hr, nI_1, true_and, forall_eq]
          refine br_f h3 (br_t z' (br_f hT' (y_past0 hr hP' hC.2.2.2.2.1 ?_)))
          apply b4
          exact a3 Q hQ
    · have z' : ¬ Ys r = 2 := by rw [← hR.1]; exact z
      obtain ⟨w, XS1, XP1, XE1, XV1, XW1, XR1, XQ1, XD1, Ys1, Yp1, Ye1, Yq1, Yr1, Yw1, Yv1, Yd1, a1, a2, a3⟩ := ih (r + 1) XS XP XE XV XW XR XQ XD Ys Yp Ye Yq Yr Yw Yv Yd x (by omega) hI
      refine ⟨w, XS1, XP1, XE1, XV1, XW1, XR1, XQ1, XD1, Ys1, Yp1, Ye1, Yq1, Yr1, Yw1, Yv1, Yd1, a1, fun P hP => ?_, fun Q hQ => ?_⟩
      · rw [wX_pass_28]
        simp only [rf_rc hr, rf_r3 hr, nI_1, true_and, forall_eq]
        exact br_f h3 (br_f z (a2 P hP))
      · rw [wY_pass_28]
        simp only [rf_rc hr, rf_r3 hr, nI_1, true_and, forall_eq]
        exact br_f h3 (br_f z' (a3 Q hQ))
end
end
section
theorem i_vc_pass {k : Nat} {u : SX} {v : SY} (I : i_Rel k u v) (hk : k + 4 ≤ 2048) (v1 : Int32) : wpX_pass (fun r u' => wpY_pass (fun r' v' => r' = r ∧ i_Rel (k + 4) u' v') v v1) u v1 := by
  have I2 := i_up I
  obtain ⟨len, Ln, Lk, Tn, Op, Tg, Od, XS, XP, XE, XV, XW, XR, XQ, XZ, XC, XD, Ys, Yp, Ye, Yq, Yr, Yw, Yv, Yn, Yh, Yz, Yd, rfl, rfl, hI⟩ := I
  unfold wpX_pass wpY_pass
  by_cases h0 : v1 < 0
  · exact br_t h0 (br_t h0 ⟨rfl, I2⟩)
  by_cases h1 : v1 ≤ 1000
  · obtain ⟨w, XS1, XP1, XE1, XV1, XW1, XR1, XQ1, XD1, Ys1, Yp1, Ye1, Yq1, Yr1, Yw1, Yv1, Yd1, a1, a2, a3⟩ := ps_ls (Tn := Tn + v1) 3 0 XS XP XE XV XW XR XQ XD Ys Yp Ye Yq Yr Yw Yv Yd 0 rfl hI
    refine br_f h0 (br_t h1 (nm_e ⟨4, a2 _ ?_⟩))
    exact br_f h0 (br_t h1 (nm_e ⟨4, a3 _ ⟨rfl, i_mk a1⟩⟩))
  · exact br_f h0 (br_f h1 (br_f h0 (br_f h1 ⟨rfl, I2⟩)))
end
