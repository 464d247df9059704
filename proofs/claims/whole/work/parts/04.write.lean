theorem bt_init : ∀ m i : Nat, i + m = 64 → ∀ a : Nat → Int32, (∀ j : Nat, j < i → a j = -1) → ∃ a' : Nat → Int32, (∀ j : Nat, j < 64 → a' j = -1) ∧ (∀ post : SX → Prop, post (0, 0, a') → wX_init_15 post 0 0 (m + 1) (nI i) a) := by
  intro m
  induction m with
  | zero =>
    intro i hi a ha
    have h : (64 : Int32) ≤ nI i := nI_le (a := 64) (by omega) (by omega)
    exact ⟨a, fun j hj => ha j (by omega), fun _ hq => br_t h hq⟩
  | succ m ih =>
    intro i hi a ha
    have h64 : ¬ (64 : Int32) ≤ nI i := nI_ge (b := 64) (by omega) (by decide)
    have hin : vp_in (nI i) 3904 := vp_in_nI (by omega) (by decide)
    have e : upd a (nI i).toNatClampNeg (-1) = upd a i (-1) := by rw [nI_clamp (by omega)]
    obtain ⟨a', h', rX⟩ := ih (i + 1) (by omega) (upd a i (-1)) (by
      intro j hj
      by_cases g : j = i
      · subst g
        exact pk_us
      · rw [pk_un g]
        exact ha j (by omega))
    exact ⟨a', h', fun post h => br_f h64 ⟨hin, nm_r e (nm_r (nI_1 i) (rX post h))⟩⟩
theorem bt_tk (p d : Nat) : 64 * nI (p + 1) - 64 + nI d = nI (64 * p + d) := by
  rw [show (64 : Int32) = nI 64 from rfl, pk_mul, pk_sub (by omega), nI_add, show 64 * (p + 1) - 64 + d = 64 * p + d from by omega]
theorem bt_tick {p : Nat} (hp : p < 60) (e : Int32) : ∀ m i : Nat, i + m = 64 → ∀ a b : Nat → Int32, (∀ j : Nat, j < 64 * (p + 1) + i → bt_cell (a j) (b j)) → ∃ a' b' : Nat → Int32, bt_H (p + 1) a' b' ∧ (∀ post : Int32 → SX → Prop, post (nI (p + 1)) (nI (p + 1), e, a') → wX_tick_27 post (nI (64 * p)) (nI (64 * (p + 1))) (nI p) e (m + 1) (nI i) a) ∧ (∀ post : Int32 → SY → Prop, post (nI (p + 1)) (nI (p + 1), e, b') → wY_tick_24 post (nI (p + 1)) e (m + 1) (nI i) b) := by
  intro m
  induction m with
  | zero =>
    intro i hi a b H
    have h : (64 : Int32) ≤ nI i := nI_le (a := 64) (by omega) (by omega)
    exact ⟨a, b, fun j hj => H j (by omega), fun _ hq => br_t h (nm_r (nI_1 p) hq), fun _ hq => br_t h hq⟩
  | succ m ih =>
    intro i hi a b H
    have h64 : ¬ (64 : Int32) ≤ nI i := nI_ge (b := 64) (by omega) (by decide)
    have x1 : vp_in (nI (64 * p) + nI i) 3904 := bt_in (by omega)
    have x2 : vp_in (nI (64 * (p + 1)) + nI i) 3904 := bt_in (by omega)
    have y1 : vp_in (64 * nI (p + 1) - 64 + nI i) 3904 := by
      rw [bt_tk]
      exact vp_in_nI (by omega) (by decide)
    have y2 : vp_in (64 * nI (p + 1) + nI i) 3904 := by
      rw [bt_64]
      exact vp_in_nI (by omega) (by decide)
    have ex : upd a (nI (64 * (p + 1)) + nI i).toNatClampNeg (a (nI (64 * p) + nI i).toNatClampNeg) = upd a (64 * (p + 1) + i) (a (64 * p + i)) := by
      rw [bt_cl (by omega), bt_cl (by omega)]
    have ey : upd b (64 * nI (p + 1) + nI i).toNatClampNeg (b (64 * nI (p + 1) - 64 + nI i).toNatClampNeg) = upd b (64 * (p + 1) + i) (b (64 * p + i)) := by
      rw [bt_tk, bt_64, nI_clamp (by omega), nI_clamp (by omega)]
    obtain ⟨a', b', h', rX, rY⟩ := ih (i + 1) (by omega) (upd a (64 * (p + 1) + i) (a (64 * p + i))) (upd b (64 * (p + 1) + i) (b (64 * p + i))) (by
      intro j hj
      by_cases g : j = 64 * (p + 1) + i
      · subst g
        rw [pk_us, pk_us]
        exact H (64 * p + i) (by omega)
      · rw [pk_un g, pk_un g]
        exact H j (by omega))
    exact ⟨a', b', h', fun post h => br_f h64 ⟨x1, x2, nm_r ex (nm_r (nI_1 i) (rX post h))⟩, fun post h => br_f h64 ⟨y1, y2, nm_r ey (nm_r (nI_1 i) (rY post h))⟩⟩
theorem bt_change {p k hi : Nat} (hp : p ≤ 60) (hk : k < 4) (hh : hi ≤ 16) {sx sy : Int32} (hs : bt_cell sx sy) (e : Int32) : ∀ m d : Nat, d + m = hi → ∀ (x : Int32) (a b : Nat → Int32), bt_H p a b → ∃ (r : Int32) (a' b' : Nat → Int32), bt_H p a' b' ∧ (∀ post : Int32 → SX → Prop, post r (nI p, e, a') → wX_change_56 post (nI hi) sx (nI (64 * p + 16 * k)) (nI p) e (m + 1) x (nI d) a) ∧ (∀ post : Int32 → SY → Prop, post r (nI p, e, b') → wY_change_28 post (nI k) (nI hi) sy (nI p) e (m + 1) x (nI d) b) := by
  intro m
  induction m with
  | zero =>
    intro d hd x a b H
    have h : nI hi ≤ nI d := nI_le (by omega) (by omega)
    exact ⟨x, a, b, H, fun _ hq => br_t h hq, fun _ hq => br_t h hq⟩
  | succ m ih =>
    intro d hd x a b H
    have hn : ¬ nI hi ≤ nI d := nI_ge (by omega) (by omega)
    have hc := H (64 * p + 16 * k + d) (by omega)
    have hx : vp_in (nI (64 * p + 16 * k) + nI d) 3904 := bt_in (by omega)
    have hl : a (nI (64 * p + 16 * k) + nI d).toNatClampNeg = a (64 * p + 16 * k + d) := by rw [bt_cl (by omega)]
    have hu : upd a (nI (64 * p + 16 * k) + nI d).toNatClampNeg sx = upd a (64 * p + 16 * k + d) sx := by rw [bt_cl (by omega)]
    have hy : vp_in (nI (64 * p + 16 * k + d)) 3904 := vp_in_nI (by omega) (by decide)
    have hm : b (nI (64 * p + 16 * k + d)).toNatClampNeg = b (64 * p + 16 * k + d) := by rw [nI_clamp (by omega)]
    have hv : upd b (nI (64 * p + 16 * k + d)).toNatClampNeg sy = upd b (64 * p + 16 * k + d) sy := by rw [nI_clamp (by omega)]
    by_cases w : a (64 * p + 16 * k + d) = sx
    · obtain ⟨r, a', b', h', rX, rY⟩ := ih (d + 1) (by omega) x a (upd b (64 * p + 16 * k + d) sy) (bt_updY H hs w)
      exact ⟨r, a', b', h', fun post h => br_f hn ⟨hx, br_t (hl.trans w) (nm_r (nI_1 d) (rX post h))⟩, fun post h => br_f hn (nm_r (bt_ry p k d) ⟨hy, br_t (hm.trans ((bt_eq hc hs).mpr w)) ⟨hy, nm_r hv (nm_r (nI_1 d) (rY post h))⟩⟩)⟩
    · obtain ⟨r, a', b', h', rX, rY⟩ := ih (d + 1) (by omega) (x + 1) (upd a (64 * p + 16 * k + d) sx) (upd b (64 * p + 16 * k + d) sy) (bt_upd H hs)
      exact ⟨r, a', b', h', fun post h => br_f hn ⟨hx, br_f (fun g => w (hl.symm.trans g)) ⟨hx, nm_r hu (nm_e (nm_r (nI_1 d) (rX post h)))⟩⟩, fun post h => br_f hn (nm_r (bt_ry p k d) ⟨hy, br_f (fun g => w ((bt_eq hc hs).mp (hm.symm.trans g))) ⟨hy, nm_r hv (nm_r (nI_1 d) (rY post h))⟩⟩)⟩
/-- X's change and Y's change, with good arguments: one answer, related states -/
theorem bt_chg {p c k lo hi : Nat} {a b : Nat → Int32} (hp : p ≤ 60) (hc : c ≤ 50) (H : bt_H p a b) (hk : k < 4) (hlo : lo < hi) (hhi : hi ≤ 16) {sx sy : Int32} (hs : bt_cell sx sy) : ∃ (r : Int32) (c' : Nat) (a' b' : Nat → Int32), c' ≤ 50 ∧ bt_H p a' b' ∧ (∀ post : Int32 → SX → Prop, post r (nI p, nI c', a') → wpX_change post (nI p, nI c, a) (nI k) (nI lo) (nI hi) sx) ∧ (∀ post : Int32 → SY → Prop, post r (nI p, nI c', b') → wpY_change post (nI p, nI c, b) (nI k) (nI lo) (nI hi) sy) := by
  by_cases z : c < 50
  · have l : nI c < 50 := nI_lt (b := 50) z (by decide)
    obtain ⟨r, a', b', h', rX, rY⟩ := bt_change hp hk hhi hs (nI (c + 1)) (hi - lo) lo (by omega) 0 a b H
    refine ⟨r, c + 1, a', b', by omega, h', fun post h => ?_, fun post h => br_t l (nm_r (nI_1 c) ⟨_, rY post h⟩)⟩
    unfold wpX_change
    dsimp only
    exact bt_keyX hk (br_f bt_01 (bt_spanX hlo hhi (br_f bt_01 (br_t l (nm_r (nI_1 c) (bt_rowOf ⟨_, rX post h⟩))))))
  · have l : ¬ nI c < 50 := nI_nlt (b := 50) (by omega) (by omega)
    refine ⟨-2, c, a, b, hc, H, fun post h => ?_, fun post h => br_f l h⟩
    unfold wpX_change
    dsimp only
    exact bt_keyX hk (br_f bt_01 (bt_spanX hlo hhi (br_f bt_01 (br_f l h))))
