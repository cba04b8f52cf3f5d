section
/-! rows pasted from kit/rows (pk_), then the bits of an event (lr_) -/
theorem pk_us {f : Nat → Int32} {k : Nat} {x : Int32} : upd f k x k = x := if_pos rfl
theorem pk_un {f : Nat → Int32} {k j : Nat} {x : Int32} (h : j ≠ k) : upd f k x j = f j := if_neg h
theorem pk_ix (x : Int32) {n : Nat} (hn : n < 2 ^ 31) : x < 0 ∨ nI n ≤ x ∨ ∃ j : Nat, j < n ∧ x = nI j := by
  by_cases h : x < 0
  · exact Or.inl h
  · obtain ⟨j, hj, rfl⟩ := nI_of h
    by_cases h2 : j < n
    · exact Or.inr (Or.inr ⟨j, h2, rfl⟩)
    · exact Or.inr (Or.inl (nI_le (by omega) hj))
theorem pk_tn {n : Nat} (h : n < 2 ^ 32) : (nI n).toBitVec.toNat = n := Nat.mod_eq_of_lt h
theorem pk_and (x : Int32) {m : Int32} (k : Nat) (hm : m.toBitVec.toNat = 2 ^ k - 1) : x &&& m = nI (x.toBitVec.toNat % 2 ^ k) := by
  apply Int32.toBitVec_inj.mp
  apply BitVec.eq_of_toNat_eq
  rw [Int32.toBitVec_and, BitVec.toNat_and, hm, Nat.and_two_pow_sub_one_eq_mod]
  show _ = (BitVec.ofNat 32 _).toNat
  rw [BitVec.toNat_ofNat]
  exact (Nat.mod_eq_of_lt (Nat.lt_of_le_of_lt (Nat.mod_le _ _) x.toBitVec.isLt)).symm
theorem pk_andE (x : Int32) {m : Int32} (k : Nat) (hm : m.toBitVec.toNat = 2 ^ k - 1) : ∃ j : Nat, j < 2 ^ k ∧ x &&& m = nI j := ⟨_, Nat.mod_lt _ (Nat.two_pow_pos k), pk_and x k hm⟩
theorem pk_shl (a s : Int32) (k : Nat) (hs : (s.toBitVec.smod 32).toNat = k) : (a <<< s).toBitVec.toNat = a.toBitVec.toNat * 2 ^ k % 2 ^ 32 := by
  show (a.toBitVec <<< (s.toBitVec.smod 32).toNat).toNat = _
  rw [hs, BitVec.toNat_shiftLeft, Nat.shiftLeft_eq]
theorem pk_shlN {n : Nat} (s : Int32) (k : Nat) (hs : (s.toBitVec.smod 32).toNat = k) (h : n * 2 ^ k < 2 ^ 32) : nI n <<< s = nI (n * 2 ^ k) := by
  apply Int32.toBitVec_inj.mp
  apply BitVec.eq_of_toNat_eq
  have hn : n < 2 ^ 32 := Nat.lt_of_le_of_lt (Nat.le_mul_of_pos_right n (Nat.two_pow_pos k)) h
  rw [pk_shl _ _ k hs, pk_tn hn, pk_tn h, Nat.mod_eq_of_lt h]
theorem pk_charN {q : Nat} (hq : q < 65536) : narrow .char (.int (nI q)) = .int (nI q) ∧ fits .char (.int (nI q)) = true := by
  constructor
  · have e : (nI q).toUInt32.toUInt16.toUInt32.toInt32 = nI q := by
      apply Int32.toBitVec_inj.mp
      apply BitVec.eq_of_toNat_eq
      show (nI q).toUInt32.toUInt16.toUInt32.toNat = q % 2 ^ 32
      rw [UInt16.toNat_toUInt32, UInt32.toNat_toUInt16, show (nI q).toUInt32.toNat = q % 2 ^ 32 from rfl]
      omega
    exact congrArg Value.int e
  · have a : (0 : Int32) ≤ nI q := nI_pos' (by omega)
    have b : nI q ≤ 65535 := nI_le (b := 65535) (by omega) (by decide)
    show (decide ((0 : Int32) ≤ nI q) && decide (nI q ≤ 65535)) = true
    rw [decide_eq_true a, decide_eq_true b]
    rfl
theorem pk_char (x : Int32) : (x.toUInt32 % 65536).toInt32 = nI (x.toBitVec.toNat % 65536) := by
  apply Int32.toBitVec_inj.mp
  apply BitVec.eq_of_toNat_eq
  rw [pk_tn (by omega)]
  show (x.toUInt32 % 65536).toNat = _
  rw [UInt32.toNat_mod]
  rfl
theorem pk_nc (x : Int32) : narrow .char (.int (x.toUInt32 % 65536).toInt32) = .int (x.toUInt32 % 65536).toInt32 := by
  rw [pk_char]
  exact (pk_charN (Nat.mod_lt _ (by decide))).1
theorem pk_vs (z : Int32) : vp_nar .short z.toInt16.toInt32 = z.toInt16.toInt32 := by rw [vp_nar_short]; simp
theorem pk_vc (z : Int32) : vp_nar .char (z.toUInt32 % 65536).toInt32 = (z.toUInt32 % 65536).toInt32 := Value.int.inj (pk_nc z)
theorem lr_or (a b : Nat) : nI a ||| nI b = nI (a ||| b) := by
  apply Int32.toBitVec_inj.1
  show BitVec.ofNat 32 a ||| BitVec.ofNat 32 b = BitVec.ofNat 32 (a ||| b)
  apply BitVec.eq_of_getLsbD_eq
  intro i hi
  simp [hi]
theorem lr_63 (x : Int32) : ∃ h : Nat, h < 64 ∧ x &&& 63 = nI h := pk_andE x 6 (by decide)
theorem lr_511 (x : Int32) : ∃ l : Nat, l < 512 ∧ x &&& 511 = nI l := pk_andE x 9 (by decide)
theorem lr_pack {h l : Nat} (hh : h < 128) (hl : l < 512) : (nI h <<< ((9 : Int32) &&& 31)) ||| nI l = nI (512 * h + l) := by
  rw [pk_shlN ((9 : Int32) &&& 31) 9 (by decide) (by omega), lr_or]
  have e := Nat.two_pow_add_eq_or_of_lt (i := 9) (b := l) hl h
  rw [Nat.mul_comm h (2 ^ 9), ← e]
theorem lr_flag {p : Nat} (hp : p < 32768) : nI p ||| 32768 = nI (p + 32768) := by
  show nI p ||| nI 32768 = _
  rw [lr_or]
  exact congrArg nI (Nat.or_two_pow_eq_add_of_lt (n := 15) hp)
theorem lr_head : ∀ h : Nat, h < 64 → (nI h ||| 64) = nI (h + 64) := by decide +kernel
theorem lr_i16 : ∀ h : Nat, h < 512 → (nI h).toInt16.toInt32 = nI h := by decide +kernel
theorem lr_short {h : Nat} (hh : h < 512) : vp_nar .short (nI h).toInt16.toInt32 = nI h := by
  rw [pk_vs, lr_i16 h hh]
theorem lr_char {w : Nat} (hw : w < 65536) : vp_nar .char ((nI w).toUInt32 % 65536).toInt32 = nI w := by
  rw [pk_vc, pk_char, pk_tn (by omega), Nat.mod_eq_of_lt hw]
end
section
/-! the relation, and one lemma for each step that stores -/
/-- the first n committed events: the component's packed char against the reference's head and level -/
def lr_Ev (ev hd lv : Nat → Int32) (n : Nat) : Prop := ∀ j : Nat, j < n → ∃ h l : Nat, h < 128 ∧ l < 512 ∧ hd j = nI h ∧ lv j = nI l ∧ ev j = nI (512 * h + l)
/-- the pending event: the component's int against the reference's head and level at n -/
def lr_Pe (p : Int32) (hd lv : Nat → Int32) (n : Nat) : Prop := ∃ h l : Nat, h < 64 ∧ l < 512 ∧ hd n = nI h ∧ lv n = nI l ∧ p = nI (512 * h + l)
def i_Rel (_ : Nat) (u : SX) (v : SY) : Prop := ∃ (n : Nat) (r b p : Int32) (ev hd lv : Nat → Int32), n ≤ 16 ∧ u = (nI n, r, b, p, ev) ∧ v = (r, b, nI n, hd, lv) ∧ lr_Ev ev hd lv n ∧ (¬ b = 0 → lr_Pe p hd lv n)
theorem lr_commit (post : SX → Prop) {n w : Nat} {x : Int32} (hx : x = nI w) (hn : n < 16) (hw : w < 65536) (r b p : Int32) (ev : Nat → Int32) (H : post (nI (n + 1), r, b, p, upd ev n (nI w))) : wpX_commit post (nI n, r, b, p, ev) x := by
  subst hx
  exact ⟨vp_in_nI hn (by omega), nm_r (e' := upd ev n (nI w)) (by rw [nI_clamp (by omega), lr_char hw]) (nm_r (nI_1 n) H)⟩
theorem lr_y47 (post : Int32 → SY → Prop) {n h l : Nat} {c r : Int32} (b : Int32) (hd lv : Nat → Int32) (hn : n ≤ 16) (hh : h < 64) (hl : l < 512) (eh : r &&& 63 = nI h) (el : c &&& 511 = nI l) (H : post (nI n) (0, 1, nI n, upd hd n (nI h), upd lv n (nI l))) : wY_feed_47 post c r b (nI n) hd lv := by
  have i : vp_in (nI n) 17 := vp_in_nI (by omega) (by omega)
  have e : (nI n).toNatClampNeg = n := nI_clamp (by omega)
  exact ⟨i, nm_r (e' := upd hd n (nI h)) (by rw [e, eh, lr_short (by omega)]) ⟨i, nm_r (e' := upd lv n (nI l)) (by rw [e, el, lr_short hl]) H⟩⟩
/-- a new pending event at n leaves the events below n as they were -/
theorem lr_new {k n h l : Nat} {c r : Int32} {ev hd lv : Nat → Int32} (hn : n ≤ 16) (hh : h < 64) (hl : l < 512) (eh : r &&& 63 = nI h) (el : c &&& 511 = nI l) (hE : lr_Ev ev hd lv n) : i_Rel k (nI n, 0, 1, ((r &&& 63) <<< ((9 : Int32) &&& 31)) ||| (c &&& 511), ev) (0, 1, nI n, upd hd n (nI h), upd lv n (nI l)) := by
  refine ⟨n, 0, 1, _, ev, _, _, hn, rfl, rfl, fun j hj => ?_, fun _ => ⟨h, l, hh, hl, pk_us, pk_us, ?_⟩⟩
  · obtain ⟨a, m, h1, h2, h3, h4, h5⟩ := hE j hj
    have ne : j ≠ n := by omega
    exact ⟨a, m, h1, h2, by rw [pk_un ne]; exact h3, by rw [pk_un ne]; exact h4, h5⟩
  · rw [eh, el, lr_pack (by omega) hl]
/-- the events after one more is stored: x's at n, y's head at n as given -/
theorem lr_more {n h l : Nat} {ev hd hd' lv : Nat → Int32} (hE : lr_Ev ev hd lv n) (hh : h < 128) (hl : l < 512) (hs : ∀ j : Nat, j < n → hd' j = hd j) (eh : hd' n = nI h) (el : lv n = nI l) : lr_Ev (upd ev n (nI (512 * h + l))) hd' lv (n + 1) := by
  intro j hj
  by_cases e : j = n
  · subst e
    exact ⟨h, l, hh, hl, eh, el, pk_us⟩
  · obtain ⟨a, m, h1, h2, h3, h4, h5⟩ := hE j (by omega)
    exact ⟨a, m, h1, h2, by rw [hs j (by omega)]; exact h3, h4, by rw [pk_un e]; exact h5⟩
end
section
/-! what is owed -/
theorem i_up {k : Nat} {u : SX} {v : SY} (h : i_Rel k u v) : i_Rel (k + 2) u v := h
theorem i_vc0 : wpX_init (fun u => wpY_init (fun v => i_Rel 0 u v)) :=
  ⟨0, 0, 0, 0, fun _ => 0, fun _ => 0, fun _ => 0, Nat.zero_le _, rfl, rfl, fun j hj => absurd hj (Nat.not_lt_zero j), fun z => absurd rfl z⟩
theorem i_vc_feed {k : Nat} {u : SX} {v : SY} (I : i_Rel k u v) (hk : k + 2 ≤ 1024) (v1 : Int32) : wpX_feed (fun r u' => wpY_feed (fun r' v' => r' = r ∧ i_Rel (k + 2) u' v') v v1) u v1 := by
  obtain ⟨n, r, b, p, ev, hd, lv, hn, rfl, rfl, hE, hP⟩ := I
  by_cases h0 : v1 = 0
  · exact br_t h0 (nm_e (br_t h0 (nm_e ⟨rfl, n, r + 1, b, p, ev, hd, lv, hn, rfl, rfl, hE, hP⟩)))
  · obtain ⟨h, hh, eh⟩ := lr_63 r
    obtain ⟨l, hl, el⟩ := lr_511 v1
    by_cases hb : b = 0
    · exact br_f h0 (br_t hb (nm_e (br_f h0 (br_t hb (lr_y47 _ b hd lv hn hh hl eh el ⟨rfl, lr_new hn hh hl eh el hE⟩)))))
    · by_cases h16 : n < 16
      · have a : nI n < 16 := nI_lt (b := 16) h16 (by decide)
        have a' : ¬ nI n = 16 := fun z => absurd ((nI_eq (b := 16) (by omega) (by decide)).mp z) (by omega)
        obtain ⟨g, m, hg, hm, e1, e2, e3⟩ := hP hb
        have hE' : lr_Ev (upd ev n (nI (512 * g + m))) hd lv (n + 1) := lr_more hE (by omega) hm (fun _ _ => rfl) e1 e2
        exact br_f h0 (br_f hb (br_t a (lr_commit _ e3 h16 (by omega) r b p ev (nm_e (br_f h0 (br_f hb (br_f a' (nm_r (nI_1 n) (lr_y47 _ b hd lv (by omega) hh hl eh el ⟨rfl, lr_new (by omega) hh hl eh el hE'⟩)))))))))
      · have e16 : n = 16 := by omega
        subst e16
        have a : ¬ nI 16 < 16 := nI_nlt (b := 16) (by omega) (by decide)
        exact br_f h0 (br_f hb (br_f a (br_f h0 (br_f hb (br_t rfl ⟨rfl, 16, r, b, p, ev, hd, lv, hn, rfl, rfl, hE, hP⟩)))))
theorem i_vc_finish {k : Nat} {u : SX} {v : SY} (I : i_Rel k u v) (hk : k + 2 ≤ 1024) : wpX_finish (fun r u' => wpY_finish (fun r' v' => r' = r ∧ i_Rel (k + 2) u' v') v) u := by
  obtain ⟨n, r, b, p, ev, hd, lv, hn, rfl, rfl, hE, hP⟩ := I
  by_cases hb : b = 0
  · exact br_t hb (br_t hb ⟨rfl, n, r, b, p, ev, hd, lv, hn, rfl, rfl, hE, hP⟩)
  · by_cases h16 : n < 16
    · have a : nI n < 16 := nI_lt (b := 16) h16 (by decide)
      have a' : ¬ nI n = 16 := fun z => absurd ((nI_eq (b := 16) (by omega) (by decide)).mp z) (by omega)
      obtain ⟨g, m, hg, hm, e1, e2, e3⟩ := hP hb
      have i : vp_in (nI n) 17 := vp_in_nI (by omega) (by omega)
      have e : (nI n).toNatClampNeg = n := nI_clamp (by omega)
      have ex : p ||| 32768 = nI (512 * (g + 64) + m) := by
        rw [e3, lr_flag (by omega)]
        exact congrArg nI (by omega)
      have ey : upd hd (nI n).toNatClampNeg (vp_nar .short ((hd (nI n).toNatClampNeg ||| 64).toInt16.toInt32)) = upd hd n (nI (g + 64)) := by
        rw [e, e1, lr_head g hg, lr_short (by omega)]
      have hE' : lr_Ev (upd ev n (nI (512 * (g + 64) + m))) (upd hd n (nI (g + 64))) lv (n + 1) := lr_more hE (by omega) hm (fun j hj => pk_un (by omega)) pk_us e2
      exact br_f hb (br_t a (lr_commit _ ex h16 (by omega) r b p ev (br_f hb (br_f a' ⟨i, i, nm_r ey (nm_r (nI_1 n) ⟨nI_1 n, n + 1, 0, 0, p, _, _, lv, by omega, rfl, rfl, hE', fun z => absurd rfl z⟩)⟩))))
    · have e16 : n = 16 := by omega
      subst e16
      have a : ¬ nI 16 < 16 := nI_nlt (b := 16) (by omega) (by decide)
      exact br_f hb (br_f a (br_f hb (br_t rfl ⟨rfl, 16, r, b, p, ev, hd, lv, hn, rfl, rfl, hE, hP⟩)))
theorem i_vc_event {k : Nat} {u : SX} {v : SY} (I : i_Rel k u v) (hk : k + 2 ≤ 1024) (v1 : Int32) : wpX_event (fun r => wpY_event (fun r' => r' = r ∧ i_Rel (k + 2) u v) v v1) u v1 := by
  have J : i_Rel (k + 2) u v := I
  obtain ⟨n, r, b, p, ev, hd, lv, hn, rfl, rfl, hE, hP⟩ := I
  by_cases h0 : v1 < 0
  · exact br_t h0 (br_t h0 ⟨rfl, J⟩)
  · obtain ⟨j, hj, rfl⟩ := nI_of h0
    by_cases hc : j < n
    · have a : nI j < nI n := nI_lt hc (by omega)
      have i : vp_in (nI j) 16 := vp_in_nI (by omega) (by omega)
      have i' : vp_in (nI j) 17 := vp_in_nI (by omega) (by omega)
      obtain ⟨g, m, hg, hm, e1, e2, e3⟩ := hE j hc
      have e : (nI j).toNatClampNeg = j := nI_clamp hj
      have er : ((hd (nI j).toNatClampNeg) <<< ((9 : Int32) &&& 31)) ||| (lv (nI j).toNatClampNeg) = ev (nI j).toNatClampNeg := by
        rw [e, e1, e2, e3, lr_pack hg hm]
      exact br_f h0 (br_t a ⟨i, br_f h0 (br_t a ⟨i', i', er, J⟩)⟩)
    · have a : ¬ nI j < nI n := nI_nlt (by omega) hj
      exact br_f h0 (br_f a (br_f h0 (br_f a ⟨rfl, J⟩)))
theorem i_vc_count {k : Nat} {u : SX} {v : SY} (I : i_Rel k u v) (hk : k + 2 ≤ 1024) : wpX_count (fun r => wpY_count (fun r' => r' = r ∧ i_Rel (k + 2) u v) v) u := by
  have J : i_Rel (k + 2) u v := I
  obtain ⟨n, r, b, p, ev, hd, lv, hn, rfl, rfl, hE, hP⟩ := I
  exact ⟨rfl, J⟩
end
