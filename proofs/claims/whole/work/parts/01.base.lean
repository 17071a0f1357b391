theorem pk_us {f : Nat → Int32} {k : Nat} {x : Int32} : upd f k x k = x := if_pos rfl
theorem pk_un {f : Nat → Int32} {k j : Nat} {x : Int32} (h : j ≠ k) : upd f k x j = f j := if_neg h
theorem pk_sub {a b : Nat} (h : b ≤ a) : nI a - nI b = nI (a - b) := by
  obtain ⟨c, rfl⟩ : ∃ c, a = c + b := ⟨a - b, by omega⟩
  rw [← nI_add, Int32.add_sub_cancel, Nat.add_sub_cancel]
theorem pk_mul (a b : Nat) : nI a * nI b = nI (a * b) := (Int32.ofNat_mul a b).symm
theorem pk_tn {n : Nat} (h : n < 2 ^ 32) : (nI n).toBitVec.toNat = n := Nat.mod_eq_of_lt h
theorem pk_and (x : Int32) {m : Int32} (k : Nat) (hm : m.toBitVec.toNat = 2 ^ k - 1) : x &&& m = nI (x.toBitVec.toNat % 2 ^ k) := by
  apply Int32.toBitVec_inj.mp
  apply BitVec.eq_of_toNat_eq
  rw [Int32.toBitVec_and, BitVec.toNat_and, hm, Nat.and_two_pow_sub_one_eq_mod]
  show _ = (BitVec.ofNat 32 _).toNat
  rw [BitVec.toNat_ofNat]
  exact (Nat.mod_eq_of_lt (Nat.lt_of_le_of_lt (Nat.mod_le _ _) x.toBitVec.isLt)).symm
theorem pk_andE (x : Int32) {m : Int32} (k : Nat) (hm : m.toBitVec.toNat = 2 ^ k - 1) : ∃ j : Nat, j < 2 ^ k ∧ x &&& m = nI j := ⟨_, Nat.mod_lt _ (Nat.two_pow_pos k), pk_and x k hm⟩
theorem rf_a3 (x : Int32) : ∃ j : Nat, j < 4 ∧ x &&& 3 = nI j := pk_andE x 2 (by decide)
theorem rf_a1 (x : Int32) : ∃ j : Nat, j < 2 ∧ x &&& 1 = nI j := pk_andE x 1 (by decide)
theorem rf_uu (f : Nat → Int32) (k : Nat) (x y : Int32) : upd (upd f k x) k y = upd f k y := by
  funext j
  unfold upd
  by_cases h : j = k
  · simp only [h, if_true]
  · simp only [h, if_false]
theorem rf_rc {r : Nat} (hr : r < 3) : (nI r).toNatClampNeg = r := nI_clamp (by omega)
theorem rf_r3 {r : Nat} (hr : r < 3) : vp_in (nI r) 3 := vp_in_nI hr (by decide)
theorem rf_pc {p : Nat} (hp : p < 16) : (nI p).toNatClampNeg = p := nI_clamp (by omega)
theorem rf_p16 {p : Nat} (hp : p < 16) : vp_in (nI p) 16 := vp_in_nI hp (by decide)
theorem rf_m4 (r : Nat) : nI r * 4 = nI (r * 4) := pk_mul r 4
theorem rf_m2 (r : Nat) : nI r * 2 = nI (r * 2) := pk_mul r 2
theorem rf_m24 (r : Nat) : nI r * 24 = nI (r * 24) := pk_mul r 24
theorem rf_tc {r g : Nat} (hr : r < 3) (hg : g < 4) : (nI (r * 4 + g)).toNatClampNeg = r * 4 + g := nI_clamp (by omega)
theorem rf_t12 {r g : Nat} (hr : r < 3) (hg : g < 4) : vp_in (nI (r * 4 + g)) 12 := vp_in_nI (by omega) (by decide)
theorem rf_4c {r : Nat} (hr : r < 3) : (nI (r * 4)).toNatClampNeg = r * 4 := nI_clamp (by omega)
theorem rf_412 {r : Nat} (hr : r < 3) : vp_in (nI (r * 4)) 12 := vp_in_nI (by omega) (by decide)
theorem rf_qc {r c : Nat} (hr : r < 3) (hc : c < 2) : (nI (r * 2 + c)).toNatClampNeg = r * 2 + c := nI_clamp (by omega)
theorem rf_q6 {r c : Nat} (hr : r < 3) (hc : c < 2) : vp_in (nI (r * 2 + c)) 6 := vp_in_nI (by omega) (by decide)
theorem rf_zc {r c k : Nat} (hr : r < 3) (hc : c < 2) (hk : k < 24) : (nI ((r * 2 + c) * 24 + k)).toNatClampNeg = (r * 2 + c) * 24 + k := nI_clamp (by omega)
theorem rf_z144 {r c k : Nat} (hr : r < 3) (hc : c < 2) (hk : k < 24) : vp_in (nI ((r * 2 + c) * 24 + k)) 144 := vp_in_nI (by omega) (by decide)
theorem rf_yc {r k : Nat} (hr : r < 3) (hk : k < 24) : (nI (r * 24 + k)).toNatClampNeg = r * 24 + k := nI_clamp (by omega)
theorem rf_y72 {r k : Nat} (hr : r < 3) (hk : k < 24) : vp_in (nI (r * 24 + k)) 72 := vp_in_nI (by omega) (by decide)
/-- outside of the region of run r (d cells a run) the two agree -/
def ao_ (d r : Nat) (f g : Nat → Int32) : Prop := ∀ i, i / d ≠ r → g i = f i
theorem ao_rf {d r : Nat} {f : Nat → Int32} : ao_ d r f f := fun _ _ => rfl
theorem ao_u {d r k : Nat} {f g : Nat → Int32} {x : Int32} (h : ao_ d r f g) (hk : k / d = r) : ao_ d r f (upd g k x) := fun i hi => by
  rw [pk_un (by intro e; subst e; exact hi hk)]; exact h i hi
theorem ao_tr {d r : Nat} {f g l : Nat → Int32} (h : ao_ d r f g) (h2 : ao_ d r g l) : ao_ d r f l := fun i hi => (h2 i hi).trans (h i hi)
theorem ao_1 {r : Nat} {f g : Nat → Int32} (h : ao_ 1 r f g) {i : Nat} (hi : i ≠ r) : g i = f i := h i (by rw [Nat.div_one]; exact hi)
theorem ao_u1 {r : Nat} {f : Nat → Int32} {x : Int32} : ao_ 1 r f (upd f r x) := ao_u ao_rf (Nat.div_one r)
/-- how many of the first i cells from b on hold c -/
def sg_n (H : Nat → Int32) (b : Nat) (c : Int32) : Nat → Nat
  | 0 => 0
  | i + 1 => sg_n H b c i + (if H (b + i) = c then 1 else 0)
theorem sg_y {H : Nat → Int32} {b i : Nat} {c : Int32} (h : H (b + i) = c) : sg_n H b c (i + 1) = sg_n H b c i + 1 := by
  show sg_n H b c i + _ = _
  rw [if_pos h]
theorem sg_no {H : Nat → Int32} {b i : Nat} {c : Int32} (h : ¬ H (b + i) = c) : sg_n H b c (i + 1) = sg_n H b c i := by
  show sg_n H b c i + _ = _
  rw [if_neg h]; rfl
theorem sg_s (H : Nat → Int32) (b i : Nat) (c : Int32) : sg_n H b c i ≤ sg_n H b c (i + 1) ∧ sg_n H b c (i + 1) ≤ sg_n H b c i + 1 := by
  by_cases h : H (b + i) = c
  · rw [sg_y h]; omega
  · rw [sg_no h]; omega
theorem sg_m (H : Nat → Int32) (b : Nat) (c : Int32) (i d : Nat) : sg_n H b c i ≤ sg_n H b c (i + d) := by
  induction d with
  | zero => exact Nat.le_refl _
  | succ d ih => exact Nat.le_trans ih (sg_s H b (i + d) c).1
theorem sg_mono {H : Nat → Int32} {b : Nat} {c : Int32} {i j : Nat} (h : i ≤ j) : sg_n H b c i ≤ sg_n H b c j := by
  obtain ⟨d, rfl⟩ : ∃ d, j = i + d := ⟨j - i, by omega⟩
  exact sg_m H b c i d
theorem sg_lt {H : Nat → Int32} {b : Nat} {c : Int32} {i j : Nat} (h : i < j) (hc : H (b + i) = c) : sg_n H b c i < sg_n H b c j := by
  have := sg_mono (H := H) (b := b) (c := c) (i := i + 1) (j := j) h
  rw [sg_y hc] at this
  exact this
theorem sg_le (H : Nat → Int32) (b : Nat) (c : Int32) (i : Nat) : sg_n H b c i ≤ i := by
  induction i with
  | zero => exact Nat.le_refl _
  | succ i ih => exact Nat.le_trans (sg_s H b i c).2 (Nat.succ_le_succ ih)
theorem sg_cg {H H1 : Nat → Int32} {b : Nat} {c : Int32} : ∀ i, (∀ k, k < i → H1 (b + k) = H (b + k)) → sg_n H1 b c i = sg_n H b c i := by
  intro i
  induction i with
  | zero => intro _; rfl
  | succ i ih =>
    intro h
    show sg_n H1 b c i + _ = sg_n H b c i + _
    rw [ih (fun k hk => h k (by omega)), h i (by omega)]
theorem sg_01 : ¬ nI 0 = nI 1 := by decide
theorem sg_sum {H : Nat → Int32} {b : Nat} : ∀ i, (∀ k, k < i → ∃ c, c < 2 ∧ H (b + k) = nI c) → sg_n H b (nI 0) i + sg_n H b (nI 1) i = i := by
  intro i
  induction i with
  | zero => intro _; rfl
  | succ i ih =>
    intro h
    have := ih (fun k hk => h k (by omega))
    obtain ⟨c, hc, e⟩ := h i (by omega)
    have hc2 : c = 0 ∨ c = 1 := by omega
    rcases hc2 with rfl | rfl
    · rw [sg_y e, sg_no (c := nI 1) (by rw [e]; exact sg_01)]; omega
    · rw [sg_y e, sg_no (c := nI 0) (by rw [e]; exact fun z => sg_01 z.symm)]; omega
theorem sg_cc {c d : Nat} (hc : c < 2) (hd : d < 2) (h : nI c = nI d) : c = d := (nI_eq (by omega) (by omega)).mp h
