theorem i_vc_pass {k : Nat} {u : SX} {v : SY} (I : i_Rel k u v) (hk : k + 4 ≤ 2048) (v1 : Int32) : wpX_pass (fun r u' => wpY_pass (fun r' v' => r' = r ∧ i_Rel (k + 4) u' v') v v1) u v1 := by
  have I2 := i_up I
  obtain ⟨len, Ln, Lk, Tn, Op, Tg, Od, XS, XP, XE, XV, XW, XR, XQ, XZ, XC, XD, Ys, Yp, Ye, Yq, Yr, Yw, Yv, Yn, Yh, Yz, Yd, rfl, rfl, hI⟩ := I
  unfold wpX_pass wpY_pass
  by_cases h0 : v1 < 0
  · exact br_t h0 (br_t h0 ⟨rfl, I2⟩)
  by_cases h1 : v1 ≤ 1000
  · obtain ⟨w, XS1, XP1, XE1, XV1, XW1, XR1, XQ1, XD1, Ys1, Yp1, Ye1, Yq1, Yr1, Yw1, Yv1, Yd1, a1, a2, a3⟩ := ps_ls (Tn := Tn + v1) 3 0 XS XP XE XV XW XR XQ XD Ys Yp Ye Yq Yr Yw Yv Yd 0 rfl hI
    refine br_f h0 (br_t h1 (nm_e ⟨4, a2 _ ?_⟩))
    exact br_f h0 (br_t h1 (nm_e ⟨4, a3 _ ⟨rfl, i_mk a1⟩⟩))
  · exact br_f h0 (br_f h1 (br_f h0 (br_f h1 ⟨rfl, I2⟩)))
