/-! what is owed -/
theorem i_up {k : Nat} {u : SX} {v : SY} (h : i_Rel k u v) : i_Rel (k + 2) u v := h
theorem i_vc0 : wpX_init (fun u => wpY_init (fun v => i_Rel 0 u v)) :=
  ⟨0, 0, 0, 0, fun _ => 0, fun _ => 0, fun _ => 0, Nat.zero_le _, rfl, rfl, fun j hj => absurd hj (Nat.not_lt_zero j), fun z => absurd rfl z⟩
theorem i_vc_feed {k : Nat} {u : SX} {v : SY} (I : i_Rel k u v) (hk : k + 2 ≤ 1024) (v1 : Int32) : wpX_feed (fun r u' => wpY_feed (fun r' v' => r' = r ∧ i_Rel (k + 2) u' v') v v1) u v1 := by
  obtain ⟨n, r, b, p, ev, hd, lv, hn, rfl, rfl, hE, hP⟩ := I
  by_cases h0 : v1 = 0
  · exact br_t h0 (nm_e (br_t h0 (nm_e ⟨rfl, n, r + 1, b, p, ev, hd, lv, hn, rfl, rfl, hE, hP⟩)))
  · obtain ⟨h, hh, eh⟩ := lr_63 r
    obtain ⟨l, hl, el⟩ := lr_511 v1
    by_cases hb : b = 0
    · exact br_f h0 (br_t hb (nm_e (br_f h0 (br_t hb (lr_y47 _ b hd lv hn hh hl eh el ⟨rfl, lr_new hn hh hl eh el hE⟩)))))
    · by_cases h16 : n < 16
      · have a : nI n < 16 := nI_lt (b := 16) h16 (by decide)
        have a' : ¬ nI n = 16 := fun z => absurd ((nI_eq (b := 16) (by omega) (by decide)).mp z) (by omega)
        obtain ⟨g, m, hg, hm, e1, e2, e3⟩ := hP hb
        have hE' : lr_Ev (upd ev n (nI (512 * g + m))) hd lv (n + 1) := lr_more hE (by omega) hm (fun _ _ => rfl) e1 e2
        exact br_f h0 (br_f hb (br_t a (lr_commit _ e3 h16 (by omega) r b p ev (nm_e (br_f h0 (br_f hb (br_f a' (nm_r (nI_1 n) (lr_y47 _ b hd lv (by omega) hh hl eh el ⟨rfl, lr_new (by omega) hh hl eh el hE'⟩)))))))))
      · have e16 : n = 16 := by omega
        subst e16
        have a : ¬ nI 16 < 16 := nI_nlt (b := 16) (by omega) (by decide)
        exact br_f h0 (br_f hb (br_f a (br_f h0 (br_f hb (br_t rfl ⟨rfl, 16, r, b, p, ev, hd, lv, hn, rfl, rfl, hE, hP⟩)))))
theorem i_vc_finish {k : Nat} {u : SX} {v : SY} (I : i_Rel k u v) (hk : k + 2 ≤ 1024) : wpX_finish (fun r u' => wpY_finish (fun r' v' => r' = r ∧ i_Rel (k + 2) u' v') v) u := by
  obtain ⟨n, r, b, p, ev, hd, lv, hn, rfl, rfl, hE, hP⟩ := I
  by_cases hb : b = 0
  · exact br_t hb (br_t hb ⟨rfl, n, r, b, p, ev, hd, lv, hn, rfl, rfl, hE, hP⟩)
  · by_cases h16 : n < 16
    · have a : nI n < 16 := nI_lt (b := 16) h16 (by decide)
      have a' : ¬ nI n = 16 := fun z => absurd ((nI_eq (b := 16) (by omega) (by decide)).mp z) (by omega)
      obtain ⟨g, m, hg, hm, e1, e2, e3⟩ := hP hb
      have i : vp_in (nI n) 17 := vp_in_nI (by omega) (by omega)
      have e : (nI n).toNatClampNeg = n := nI_clamp (by omega)
      have ex : p ||| 32768 = nI (512 * (g + 64) + m) := by
        rw [e3, lr_flag (by omega)]
        exact congrArg nI (by omega)
      have ey : upd hd (nI n).toNatClampNeg (vp_nar .short ((hd (nI n).toNatClampNeg ||| 64).toInt16.toInt32)) = upd hd n (nI (g + 64)) := by
        rw [e, e1, lr_head g hg, lr_short (by omega)]
      have hE' : lr_Ev (upd ev n (nI (512 * (g + 64) + m))) (upd hd n (nI (g + 64))) lv (n + 1) := lr_more hE (by omega) hm (fun j hj => pk_un (by omega)) pk_us e2
      exact br_f hb (br_t a (lr_commit _ ex h16 (by omega) r b p ev (br_f hb (br_f a' ⟨i, i, nm_r ey (nm_r (nI_1 n) ⟨nI_1 n, n + 1, 0, 0, p, _, _, lv, by omega, rfl, rfl, hE', fun z => absurd rfl z⟩)⟩))))
    · have e16 : n = 16 := by omega
      subst e16
      have a : ¬ nI 16 < 16 := nI_nlt (b := 16) (by omega) (by decide)
      exact br_f hb (br_f a (br_f hb (br_t rfl ⟨rfl, 16, r, b, p, ev, hd, lv, hn, rfl, rfl, hE, hP⟩)))
theorem i_vc_event {k : Nat} {u : SX} {v : SY} (I : i_Rel k u v) (hk : k + 2 ≤ 1024) (v1 : Int32) : wpX_event (fun r => wpY_event (fun r' => r' = r ∧ i_Rel (k + 2) u v) v v1) u v1 := by
  have J : i_Rel (k + 2) u v := I
  obtain ⟨n, r, b, p, ev, hd, lv, hn, rfl, rfl, hE, hP⟩ := I
  by_cases h0 : v1 < 0
  · exact br_t h0 (br_t h0 ⟨rfl, J⟩)
  · obtain ⟨j, hj, rfl⟩ := nI_of h0
    by_cases hc : j < n
    · have a : nI j < nI n := nI_lt hc (by omega)
      have i : vp_in (nI j) 16 := vp_in_nI (by omega) (by omega)
      have i' : vp_in (nI j) 17 := vp_in_nI (by omega) (by omega)
      obtain ⟨g, m, hg, hm, e1, e2, e3⟩ := hE j hc
      have e : (nI j).toNatClampNeg = j := nI_clamp hj
      have er : ((hd (nI j).toNatClampNeg) <<< ((9 : Int32) &&& 31)) ||| (lv (nI j).toNatClampNeg) = ev (nI j).toNatClampNeg := by
        rw [e, e1, e2, e3, lr_pack hg hm]
      exact br_f h0 (br_t a ⟨i, br_f h0 (br_t a ⟨i', i', er, J⟩)⟩)
    · have a : ¬ nI j < nI n := nI_nlt (by omega) hj
      exact br_f h0 (br_f a (br_f h0 (br_f a ⟨rfl, J⟩)))
theorem i_vc_count {k : Nat} {u : SX} {v : SY} (I : i_Rel k u v) (hk : k + 2 ≤ 1024) : wpX_count (fun r => wpY_count (fun r' => r' = r ∧ i_Rel (k + 2) u v) v) u := by
  have J : i_Rel (k + 2) u v := I
  obtain ⟨n, r, b, p, ev, hd, lv, hn, rfl, rfl, hE, hP⟩ := I
  exact ⟨rfl, J⟩
