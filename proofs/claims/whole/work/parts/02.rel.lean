section
variable {XZ XC XD Yn Yh Yz Yd : Nat → Int32} {r n : Nat} {t : Nat → Nat}
/-- the signals of run r: X keeps them by channel, Y in the order in which they came; n came, t c of channel c are taken -/
def sg_R (r : Nat) (XZ XC XD Yn Yh Yz Yd : Nat → Int32) (n : Nat) (t : Nat → Nat) : Prop :=
  n ≤ 24 ∧ Yn r = nI n ∧
  (∀ c, c < 2 → XC (r * 2 + c) = nI (sg_n Yh (r * 24) (nI c) n) ∧ XD (r * 2 + c) = nI (t c) ∧ t c ≤ sg_n Yh (r * 24) (nI c) n) ∧
  (∀ i, i < n → ∃ c, c < 2 ∧ Yh (r * 24 + i) = nI c ∧ Yz (r * 24 + i) = XZ ((r * 2 + c) * 24 + sg_n Yh (r * 24) (nI c) i) ∧ Yd (r * 24 + i) = (if sg_n Yh (r * 24) (nI c) i < t c then 1 else 0))
theorem sg_all (h : sg_R r XZ XC XD Yn Yh Yz Yd n t) : sg_n Yh (r * 24) (nI 0) n + sg_n Yh (r * 24) (nI 1) n = n :=
  sg_sum n (fun k hk => by obtain ⟨c, hc, e, _⟩ := h.2.2.2 k hk; exact ⟨c, hc, e⟩)
theorem sg_take (h : sg_R r XZ XC XD Yn Yh Yz Yd n t) {c i0 : Nat} (hc : c < 2) (hi : i0 < n) (hH : Yh (r * 24 + i0) = nI c) (hn : sg_n Yh (r * 24) (nI c) i0 = t c) :
    sg_R r XZ XC (upd XD (r * 2 + c) (nI (t c + 1))) Yn Yh Yz (upd Yd (r * 24 + i0) 1) n (fun d => if d = c then t c + 1 else t d) := by
  obtain ⟨h1, h2, h3, h4⟩ := h
  refine ⟨h1, h2, ?_, ?_⟩
  · intro d hd
    obtain ⟨a1, a2, a3⟩ := h3 d hd
    refine ⟨a1, ?_⟩
    by_cases e : d = c
    · subst e
      have := sg_lt hi hH
      rw [pk_us]
      simp only [if_true]
      exact ⟨by trivial, by omega⟩
    · rw [pk_un (by omega)]
      simp only [e, if_false]
      exact ⟨a2, a3⟩
  · intro i hi2
    obtain ⟨d, hd, b1, b2, b3⟩ := h4 i hi2
    refine ⟨d, hd, b1, b2, ?_⟩
    by_cases e : i = i0
    · subst e
      have ed : d = c := sg_cc hd hc (b1.symm.trans hH)
      subst ed
      rw [pk_us]
      simp only [if_true]
      rw [if_pos (by omega)]
    · rw [pk_un (by omega), b3]
      by_cases ed : d = c
      · subst ed
        simp only [if_true]
        have hne : sg_n Yh (r * 24) (nI d) i ≠ sg_n Yh (r * 24) (nI d) i0 := by
          by_cases hl : i < i0
          · have := sg_lt hl b1; omega
          · have := sg_lt (show i0 < i by omega) hH; omega
        by_cases hq : sg_n Yh (r * 24) (nI d) i < t d
        · rw [if_pos hq, if_pos (by omega)]
        · rw [if_neg hq, if_neg (by omega)]
      · simp only [ed, if_false]
theorem sg_add (h : sg_R r XZ XC XD Yn Yh Yz Yd n t) {c : Nat} (hc : c < 2) (hn : n < 24) (v : Int32) :
    sg_R r (upd XZ ((r * 2 + c) * 24 + sg_n Yh (r * 24) (nI c) n) v) (upd XC (r * 2 + c) (nI (sg_n Yh (r * 24) (nI c) n + 1))) XD (upd Yn r (nI (n + 1))) (upd Yh (r * 24 + n) (nI c)) (upd Yz (r * 24 + n) v) (upd Yd (r * 24 + n) 0) (n + 1) t := by
  obtain ⟨h1, h2, h3, h4⟩ := h
  have cg : ∀ (d : Int32) (i : Nat), i ≤ n → sg_n (upd Yh (r * 24 + n) (nI c)) (r * 24) d i = sg_n Yh (r * 24) d i := by
    intro d i hi
    exact sg_cg i (fun k hk => pk_un (by omega))
  refine ⟨hn, pk_us, ?_, ?_⟩
  · intro d hd
    obtain ⟨a1, a2, a3⟩ := h3 d hd
    by_cases e : d = c
    · subst e
      rw [sg_y pk_us, cg _ n (Nat.le_refl n), pk_us]
      exact ⟨rfl, a2, by omega⟩
    · rw [sg_no (by rw [pk_us]; exact fun z => e (sg_cc hd hc z.symm)), cg _ n (Nat.le_refl n), pk_un (by omega)]
      exact ⟨a1, a2, a3⟩
  · intro i hi
    by_cases e : i = n
    · subst e
      refine ⟨c, hc, pk_us, ?_, ?_⟩
      · rw [pk_us, cg _ i (Nat.le_refl i), pk_us]
      · rw [pk_us, cg _ i (Nat.le_refl i), if_neg]
        have := (h3 c hc).2.2
        omega
    · have hi3 : i < n := by omega
      obtain ⟨d, hd, b1, b2, b3⟩ := h4 i hi3
      refine ⟨d, hd, by rw [pk_un (by omega)]; exact b1, ?_, ?_⟩
      · rw [pk_un (by omega), cg _ i (by omega), pk_un, b2]
        have l1 := sg_le Yh (r * 24) (nI d) i
        have l2 := sg_le Yh (r * 24) (nI c) n
        by_cases ed : d = c
        · subst ed
          have := sg_lt hi3 b1
          omega
        · omega
      · rw [pk_un (by omega), cg _ i (by omega)]
        exact b3
theorem sg_0 (h1 : XC (r * 2) = 0) (h2 : XC (r * 2 + 1) = 0) (h3 : XD (r * 2) = 0) (h4 : XD (r * 2 + 1) = 0) : sg_R r XZ XC XD (upd Yn r 0) Yh Yz Yd 0 (fun _ => 0) := by
  refine ⟨by omega, pk_us, ?_, fun i hi => absurd hi (by omega)⟩
  intro c hc
  have hc2 : c = 0 ∨ c = 1 := by omega
  rcases hc2 with rfl | rfl
  · exact ⟨h1, h3, Nat.le_refl _⟩
  · exact ⟨h2, h4, Nat.le_refl _⟩
/-- other runs' regions -/
theorem sg_fr {q : Nat} {XZ1 XC1 XD1 Yn1 Yh1 Yz1 Yd1 : Nat → Int32} (hq : r ≠ q) (h : sg_R r XZ XC XD Yn Yh Yz Yd n t)
    (z : ao_ 48 q XZ XZ1) (c : ao_ 2 q XC XC1) (d : ao_ 2 q XD XD1) (yn : ao_ 1 q Yn Yn1) (yh : ao_ 24 q Yh Yh1) (yz : ao_ 24 q Yz Yz1) (yd : ao_ 24 q Yd Yd1) :
    sg_R r XZ1 XC1 XD1 Yn1 Yh1 Yz1 Yd1 n t := by
  obtain ⟨h1, h2, h3, h4⟩ := h
  have cg : ∀ (d : Int32) (i : Nat), i ≤ n → sg_n Yh1 (r * 24) d i = sg_n Yh (r * 24) d i := by
    intro d i hi
    exact sg_cg i (fun k hk => yh _ (by omega))
  refine ⟨h1, (ao_1 yn hq).trans h2, ?_, ?_⟩
  · intro b hb
    obtain ⟨a1, a2, a3⟩ := h3 b hb
    rw [cg _ n (Nat.le_refl n), c _ (by omega), d _ (by omega)]
    exact ⟨a1, a2, a3⟩
  · intro i hi
    obtain ⟨b, hb, b1, b2, b3⟩ := h4 i hi
    have l1 := sg_le Yh (r * 24) (nI b) i
    refine ⟨b, hb, by rw [yh _ (by omega)]; exact b1, ?_, ?_⟩
    · rw [yz _ (by omega), cg _ i (by omega), z _ (by omega)]; exact b2
    · rw [yd _ (by omega), cg _ i (by omega)]; exact b3
end
section
variable {XS XP XE XV XW XR XQ XZ XC XD Ys Yp Ye Yq Yr Yw Yv Yn Yh Yz Yd : Nat → Int32} {Op Od : Nat → Int32}
/-- what both sides keep alike of a run that has been started: e steps since the last wait, v waits over -/
def rr_C (r : Nat) (XP XE XV XQ XZ XC XD Yp Ye Yq Yv Yn Yh Yz Yd : Nat → Int32) (e v n : Nat) (t : Nat → Nat) : Prop :=
  XP r = Yp r ∧ XE r = nI e ∧ Ye r = nI e ∧ XV r = nI v ∧ Yv r = nI v ∧ v ≤ 40 ∧ (∀ j, j < 4 → XQ (r * 4 + j) = Yq (r * 4 + j)) ∧ sg_R r XZ XC XD Yn Yh Yz Yd n t
/-- a run that has not been started -/
def rr_Z (r : Nat) (XS XP XE XV XR XQ XC XD Yn : Nat → Int32) : Prop :=
  XS r = 0 ∧ XP r = 0 ∧ XE r = 0 ∧ XV r = 0 ∧ XR r = 0 ∧ (∀ j, j < 4 → XQ (r * 4 + j) = 0) ∧ (XC (r * 2) = 0 ∧ XC (r * 2 + 1) = 0 ∧ XD (r * 2) = 0 ∧ XD (r * 2 + 1) = 0) ∧ ∃ n, n ≤ 24 ∧ Yn r = nI n
/-- a run in state s -/
def rr_A (r len : Nat) (Op Od XS XP XE XV XW XR XQ XZ XC XD Ys Yp Ye Yq Yr Yw Yv Yn Yh Yz Yd : Nat → Int32) (s e v n : Nat) (t : Nat → Nat) : Prop :=
  1 ≤ s ∧ s ≤ 4 ∧ XS r = nI s ∧ rr_C r XP XE XV XQ XZ XC XD Yp Ye Yq Yv Yn Yh Yz Yd e v n t ∧
  (s = 4 → XR r = Yr r) ∧
  (s ≠ 4 → XR r = 0 ∧ e < 60 ∧ v < 40 ∧ ∃ p, p < len ∧ XP r = nI p ∧ Op p = nI (s + 4) ∧ (s = 2 → XW r = Yw r) ∧
    (s = 3 → ∃ c, c < 2 ∧ Od p &&& 1 = nI c ∧ t c = sg_n Yh (r * 24) (nI c) n))
def rr_R (r len : Nat) (Op Od XS XP XE XV XW XR XQ XZ XC XD Ys Yp Ye Yq Yr Yw Yv Yn Yh Yz Yd : Nat → Int32) : Prop :=
  XS r = Ys r ∧ (rr_Z r XS XP XE XV XR XQ XC XD Yn ∨ ∃ s e v n t, rr_A r len Op Od XS XP XE XV XW XR XQ XZ XC XD Ys Yp Ye Yq Yr Yw Yv Yn Yh Yz Yd s e v n t)
theorem rr_of {r q k n : Nat} (hq : r ≠ q) (hk : k < n) (hn : n ≤ 24) : (r * 24 + k) / 24 ≠ q := by omega
theorem rr_fr {r q len : Nat} {XS1 XP1 XE1 XV1 XW1 XR1 XQ1 XZ1 XC1 XD1 Ys1 Yp1 Ye1 Yq1 Yr1 Yw1 Yv1 Yn1 Yh1 Yz1 Yd1 : Nat → Int32}
    (hq : r ≠ q) (h : rr_R r len Op Od XS XP XE XV XW XR XQ XZ XC XD Ys Yp Ye Yq Yr Yw Yv Yn Yh Yz Yd)
    (xs : ao_ 1 q XS XS1) (xp : ao_ 1 q XP XP1) (xe : ao_ 1 q XE XE1) (xv : ao_ 1 q XV XV1) (xw : ao_ 1 q XW XW1) (xr : ao_ 1 q XR XR1) (xq : ao_ 4 q XQ XQ1) (xz : ao_ 48 q XZ XZ1) (xc : ao_ 2 q XC XC1) (xd : ao_ 2 q XD XD1)
    (ys : ao_ 1 q Ys Ys1) (yp : ao_ 1 q Yp Yp1) (ye : ao_ 1 q Ye Ye1) (yq : ao_ 4 q Yq Yq1) (yr : ao_ 1 q Yr Yr1) (yw : ao_ 1 q Yw Yw1) (yv : ao_ 1 q Yv Yv1) (yn : ao_ 1 q Yn Yn1) (yh : ao_ 24 q Yh Yh1) (yz : ao_ 24 q Yz Yz1) (yd : ao_ 24 q Yd Yd1) :
    rr_R r len Op Od XS1 XP1 XE1 XV1 XW1 XR1 XQ1 XZ1 XC1 XD1 Ys1 Yp1 Ye1 Yq1 Yr1 Yw1 Yv1 Yn1 Yh1 Yz1 Yd1 := by
  obtain ⟨h0, h⟩ := h
  have e1 := ao_1 xs hq
  have e2 := ao_1 xp hq
  have e3 := ao_1 xe hq
  have e4 := ao_1 xv hq
  have e5 := ao_1 xw hq
  have e6 := ao_1 xr hq
  have f1 := ao_1 ys hq
  have f2 := ao_1 yp hq
  have f3 := ao_1 ye hq
  have f4 := ao_1 yr hq
  have f5 := ao_1 yw hq
  have f6 := ao_1 yv hq
  have f7 := ao_1 yn hq
  have g1 : ∀ j, j < 4 → XQ1 (r * 4 + j) = XQ (r * 4 + j) := fun j hj => xq _ (by omega)
  have g2 : ∀ j, j < 4 → Yq1 (r * 4 + j) = Yq (r * 4 + j) := fun j hj => yq _ (by omega)
  refine ⟨by rw [e1, f1]; exact h0, ?_⟩
  rcases h with h | ⟨s, e, v, n, t, h⟩
  · left
    obtain ⟨a1, a2, a3, a4, a5, a6, ⟨a7, a8, a9, a10⟩, a11⟩ := h
    refine ⟨by rw [e1]; exact a1, by rw [e2]; exact a2, by rw [e3]; exact a3, by rw [e4]; exact a4, by rw [e6]; exact a5, fun j hj => by rw [g1 j hj]; exact a6 j hj, ⟨?_, ?_, ?_, ?_⟩, by rw [f7]; exact a11⟩
    · rw [xc _ (by omega)]; exact a7
    · rw [xc _ (by omega)]; exact a8
    · rw [xd _ (by omega)]; exact a9
    · rw [xd _ (by omega)]; exact a10
  · right
    obtain ⟨a1, a2, a3, ⟨c1, c2, c3, c4, c5, c6, c7, c8⟩, a5, a6⟩ := h
    refine ⟨s, e, v, n, t, a1, a2, by rw [e1]; exact a3, ⟨by rw [e2, f2]; exact c1, by rw [e3]; exact c2, by rw [f3]; exact c3, by rw [e4]; exact c4, by rw [f6]; exact c5, c6, fun j hj => by rw [g1 j hj, g2 j hj]; exact c7 j hj, sg_fr hq c8 xz xc xd yn yh yz yd⟩, fun hs => by rw [e6, f4]; exact a5 hs, fun hs => ?_⟩
    obtain ⟨b1, b2, b3, p, b4, b5, b6, b7, b8⟩ := a6 hs
    refine ⟨by rw [e6]; exact b1, b2, b3, p, b4, by rw [e2]; exact b5, b6, fun h2 => by rw [e5, f5]; exact b7 h2, fun h3 => ?_⟩
    obtain ⟨c, d1, d2, d3⟩ := b8 h3
    exact ⟨c, d1, d2, by rw [d3]; exact (sg_cg n (fun k hk => yh _ (rr_of hq hk c8.1))).symm⟩
end
/-- the script -/
def sc_R (len : Nat) (Ln : Int32) (Op Tg : Nat → Int32) : Prop :=
  Ln = nI len ∧ len ≤ 16 ∧ (∀ j, ∃ o, o < 9 ∧ Op j = nI o) ∧ (∀ j, ∃ g, g < 4 ∧ Tg j = nI g)
