/-! the relation, and one lemma for each step that stores -/
/-- the first n committed events: the component's packed char against the reference's head and level -/
def lr_Ev (ev hd lv : Nat → Int32) (n : Nat) : Prop := ∀ j : Nat, j < n → ∃ h l : Nat, h < 128 ∧ l < 512 ∧ hd j = nI h ∧ lv j = nI l ∧ ev j = nI (512 * h + l)
/-- the pending event: the component's int against the reference's head and level at n -/
def lr_Pe (p : Int32) (hd lv : Nat → Int32) (n : Nat) : Prop := ∃ h l : Nat, h < 64 ∧ l < 512 ∧ hd n = nI h ∧ lv n = nI l ∧ p = nI (512 * h + l)
def i_Rel (_ : Nat) (u : SX) (v : SY) : Prop := ∃ (n : Nat) (r b p : Int32) (ev hd lv : Nat → Int32), n ≤ 16 ∧ u = (nI n, r, b, p, ev) ∧ v = (r, b, nI n, hd, lv) ∧ lr_Ev ev hd lv n ∧ (¬ b = 0 → lr_Pe p hd lv n)
theorem lr_commit (post : SX → Prop) {n w : Nat} {x : Int32} (hx : x = nI w) (hn : n < 16) (hw : w < 65536) (r b p : Int32) (ev : Nat → Int32) (H : post (nI (n + 1), r, b, p, upd ev n (nI w))) : wpX_commit post (nI n, r, b, p, ev) x := by
  subst hx
  exact ⟨vp_in_nI hn (by omega), nm_r (e' := upd ev n (nI w)) (by rw [nI_clamp (by omega), lr_char hw]) (nm_r (nI_1 n) H)⟩
theorem lr_y47 (post : Int32 → SY → Prop) {n h l : Nat} {c r : Int32} (b : Int32) (hd lv : Nat → Int32) (hn : n ≤ 16) (hh : h < 64) (hl : l < 512) (eh : r &&& 63 = nI h) (el : c &&& 511 = nI l) (H : post (nI n) (0, 1, nI n, upd hd n (nI h), upd lv n (nI l))) : wY_feed_47 post c r b (nI n) hd lv := by
  have i : vp_in (nI n) 17 := vp_in_nI (by omega) (by omega)
  have e : (nI n).toNatClampNeg = n := nI_clamp (by omega)
  exact ⟨i, nm_r (e' := upd hd n (nI h)) (by rw [e, eh, lr_short (by omega)]) ⟨i, nm_r (e' := upd lv n (nI l)) (by rw [e, el, lr_short hl]) H⟩⟩
/-- a new pending event at n leaves the events below n as they were -/
theorem lr_new {k n h l : Nat} {c r : Int32} {ev hd lv : Nat → Int32} (hn : n ≤ 16) (hh : h < 64) (hl : l < 512) (eh : r &&& 63 = nI h) (el : c &&& 511 = nI l) (hE : lr_Ev ev hd lv n) : i_Rel k (nI n, 0, 1, ((r &&& 63) <<< ((9 : Int32) &&& 31)) ||| (c &&& 511), ev) (0, 1, nI n, upd hd n (nI h), upd lv n (nI l)) := by
  refine ⟨n, 0, 1, _, ev, _, _, hn, rfl, rfl, fun j hj => ?_, fun _ => ⟨h, l, hh, hl, pk_us, pk_us, ?_⟩⟩
  · obtain ⟨a, m, h1, h2, h3, h4, h5⟩ := hE j hj
    have ne : j ≠ n := by omega
    exact ⟨a, m, h1, h2, by rw [pk_un ne]; exact h3, by rw [pk_un ne]; exact h4, h5⟩
  · rw [eh, el, lr_pack (by omega) hl]
/-- the events after one more is stored: x's at n, y's head at n as given -/
theorem lr_more {n h l : Nat} {ev hd hd' lv : Nat → Int32} (hE : lr_Ev ev hd lv n) (hh : h < 128) (hl : l < 512) (hs : ∀ j : Nat, j < n → hd' j = hd j) (eh : hd' n = nI h) (el : lv n = nI l) : lr_Ev (upd ev n (nI (512 * h + l))) hd' lv (n + 1) := by
  intro j hj
  by_cases e : j = n
  · subst e
    exact ⟨h, l, hh, hl, eh, el, pk_us⟩
  · obtain ⟨a, m, h1, h2, h3, h4, h5⟩ := hE j (by omega)
    exact ⟨a, m, h1, h2, by rw [hs j (by omega)]; exact h3, h4, by rw [pk_un e]; exact h5⟩
