theorem bt_diff {p t u k : Nat} {a b : Nat → Int32} (hp : p ≤ 60) (H : bt_H p a b) (ht : t ≤ p) (hu : u ≤ p) (hk : k < 4) (f e : Int32) : ∀ m d : Nat, d + m = 16 → ∀ x : Int32, ∃ r : Int32, (∀ post : Int32 → Prop, post r → wX_difference_46 post (nI (64 * t + 16 * k)) (nI (64 * u + 16 * k)) f e a (m + 1) x (nI d)) ∧ (∀ post : Int32 → Prop, post r → wY_difference_33 post (nI t) (nI u) (nI k) f e b (m + 1) x (nI d)) := by
  have ht' : t ≤ 60 := by omega
  have hu' : u ≤ 60 := by omega
  intro m
  induction m with
  | zero =>
    intro d hd x
    have h : (16 : Int32) ≤ nI d := nI_le (a := 16) (by omega) (by omega)
    exact ⟨x, fun _ hq => br_t h hq, fun _ hq => br_t h hq⟩
  | succ m ih =>
    intro d hd x
    have h16 : ¬ (16 : Int32) ≤ nI d := nI_ge (b := 16) (by omega) (by decide)
    have hd' : d < 16 := by omega
    have hc := H (64 * t + 16 * k + d) (by omega)
    have hc' := H (64 * u + 16 * k + d) (by omega)
    have hi : vp_in (nI (64 * t + 16 * k) + nI d) 3904 := bt_in (by omega)
    have hl : a (nI (64 * t + 16 * k) + nI d).toNatClampNeg = a (64 * t + 16 * k + d) := by rw [bt_cl (by omega)]
    have hi' : vp_in (nI (64 * u + 16 * k) + nI d) 3904 := bt_in (by omega)
    have hl' : a (nI (64 * u + 16 * k) + nI d).toNatClampNeg = a (64 * u + 16 * k + d) := by rw [bt_cl (by omega)]
    by_cases w : a (64 * t + 16 * k + d) = a (64 * u + 16 * k + d)
    · obtain ⟨r, rX, rY⟩ := ih (d + 1) (by omega) x
      exact ⟨r, fun post h => br_f h16 ⟨hi, hi', br_t ((hl.trans w).trans hl'.symm) (nm_r (nI_1 d) (rX post h))⟩, fun post h => br_f h16 (bt_ycell ht' hk hd' (bt_ycell hu' hk hd' (br_t ((bt_eq hc hc').mpr w) (nm_r (nI_1 d) (rY post h)))))⟩
    · obtain ⟨r, rX, rY⟩ := ih (d + 1) (by omega) (x + 1)
      exact ⟨r, fun post h => br_f h16 ⟨hi, hi', br_f (fun g => w ((hl.symm.trans g).trans hl')) (nm_e (nm_r (nI_1 d) (rX post h)))⟩, fun post h => br_f h16 (bt_ycell ht' hk hd' (bt_ycell hu' hk hd' (br_f (fun g => w ((bt_eq hc hc').mp g)) (nm_e (nm_r (nI_1 d) (rY post h))))))⟩
theorem bt_64 (t d : Nat) : 64 * nI t + nI d = nI (64 * t + d) := by
  rw [show (64 : Int32) = nI 64 from rfl, pk_mul, nI_add]
theorem bt_46 (t : Nat) : nI t * 64 = nI (64 * t) := by
  rw [show (64 : Int32) = nI 64 from rfl, pk_mul, Nat.mul_comm]
theorem bt_count {p t w : Nat} {a b : Nat → Int32} (hp : p ≤ 60) (H : bt_H p a b) (ht : t ≤ p) (hw : w < 10) (e : Int32) : ∀ m d : Nat, d + m = 64 → ∀ x : Int32, ∃ r : Int32, (∀ post : Int32 → Prop, post r → wX_count_28 post (nI w) (nI (64 * t)) (nI p) e a (m + 1) x (nI d)) ∧ (∀ post : Int32 → Prop, post r → wY_count_5 post (nI t) (nI w) (nI p) e b (m + 1) x (nI d)) := by
  intro m
  induction m with
  | zero =>
    intro d hd x
    have h : (64 : Int32) ≤ nI d := nI_le (a := 64) (by omega) (by omega)
    exact ⟨x, fun _ hq => br_t h hq, fun _ hq => br_t h hq⟩
  | succ m ih =>
    intro d hd x
    have h64 : ¬ (64 : Int32) ≤ nI d := nI_ge (b := 64) (by omega) (by decide)
    have hc := H (64 * t + d) (by omega)
    have hi : vp_in (nI (64 * t) + nI d) 3904 := bt_in (by omega)
    have hl : a (nI (64 * t) + nI d).toNatClampNeg = a (64 * t + d) := by rw [bt_cl (by omega)]
    have hi' : vp_in (64 * nI t + nI d) 3904 := by
      rw [bt_64]
      exact vp_in_nI (by omega) (by decide)
    have hl' : b (64 * nI t + nI d).toNatClampNeg = b (64 * t + d) := by rw [bt_64, nI_clamp (by omega)]
    by_cases z : a (64 * t + d) = nI w
    · obtain ⟨r, rX, rY⟩ := ih (d + 1) (by omega) (x + 1)
      exact ⟨r, fun post h => br_f h64 ⟨hi, br_t (hl.trans z) (nm_e (nm_r (nI_1 d) (rX post h)))⟩, fun post h => br_f h64 (bt_tickY hp ht (br_f bt_01 (bt_valY hw ⟨hi', br_t (hl'.trans ((bt_val hc).mpr z)) (nm_e (nm_r (nI_1 d) (rY post h)))⟩)))⟩
    · obtain ⟨r, rX, rY⟩ := ih (d + 1) (by omega) x
      exact ⟨r, fun post h => br_f h64 ⟨hi, br_f (fun g => z (hl.symm.trans g)) (nm_r (nI_1 d) (rX post h))⟩, fun post h => br_f h64 (bt_tickY hp ht (br_f bt_01 (bt_valY hw ⟨hi', br_f (fun g => z ((bt_val hc).mp (hl'.symm.trans g))) (nm_r (nI_1 d) (rY post h))⟩)))⟩
theorem bt_agree {p t k l : Nat} {a b : Nat → Int32} (hp : p ≤ 60) (H : bt_H p a b) (ht : t ≤ p) (hk : k < 4) (hm : l < 4) (e : Int32) : ∀ m d : Nat, d + m = 16 → ∀ x : Int32, ∃ r : Int32, (∀ post : Int32 → Prop, post r → wX_agree_44 post (nI (64 * t + 16 * k)) (nI (64 * t + 16 * l)) (nI p) e a (m + 1) x (nI d)) ∧ (∀ post : Int32 → Prop, post r → wY_agree_6 post (nI t) (nI k) (nI l) (nI p) e b (m + 1) x (nI d)) := by
  have ht' : t ≤ 60 := by omega
  intro m
  induction m with
  | zero =>
    intro d hd x
    have h : (16 : Int32) ≤ nI d := nI_le (a := 16) (by omega) (by omega)
    exact ⟨x, fun _ hq => br_t h hq, fun _ hq => br_t h hq⟩
  | succ m ih =>
    intro d hd x
    have h16 : ¬ (16 : Int32) ≤ nI d := nI_ge (b := 16) (by omega) (by decide)
    have hd' : d < 16 := by omega
    have hc := H (64 * t + 16 * k + d) (by omega)
    have hc' := H (64 * t + 16 * l + d) (by omega)
    have hi : vp_in (nI (64 * t + 16 * k) + nI d) 3904 := bt_in (by omega)
    have hl : a (nI (64 * t + 16 * k) + nI d).toNatClampNeg = a (64 * t + 16 * k + d) := by rw [bt_cl (by omega)]
    have hi' : vp_in (nI (64 * t + 16 * l) + nI d) 3904 := bt_in (by omega)
    have hl' : a (nI (64 * t + 16 * l) + nI d).toNatClampNeg = a (64 * t + 16 * l + d) := by rw [bt_cl (by omega)]
    by_cases z : a (64 * t + 16 * k + d) = -1
    · obtain ⟨r, rX, rY⟩ := ih (d + 1) (by omega) x
      exact ⟨r, fun post h => br_f h16 ⟨hi, nm_r hl (br_t z (nm_r (nI_1 d) (rX post h)))⟩, fun post h => br_f h16 (bt_tickY hp ht (br_f bt_01 (bt_keyY hk (br_f bt_01 (bt_keyY hm (br_f bt_01 (bt_ycell ht' hk hd' (br_t ((bt_none hc).mpr z) (nm_r (nI_1 d) (rY post h))))))))))⟩
    · have z' : ¬ b (64 * t + 16 * k + d) ≤ 0 := fun q => z ((bt_none hc).mp q)
      by_cases w : a (64 * t + 16 * k + d) = a (64 * t + 16 * l + d)
      · obtain ⟨r, rX, rY⟩ := ih (d + 1) (by omega) (x ||| ((1 : Int32) <<< (nI d &&& 31)))
        exact ⟨r, fun post h => br_f h16 ⟨hi, nm_r hl (br_f z ⟨hi', br_t (w.trans hl'.symm) (nm_e (nm_r (nI_1 d) (rX post h)))⟩)⟩, fun post h => br_f h16 (bt_tickY hp ht (br_f bt_01 (bt_keyY hk (br_f bt_01 (bt_keyY hm (br_f bt_01 (bt_ycell ht' hk hd' (br_f z' (bt_ycell ht' hk hd' (bt_ycell ht' hm hd' (br_t ((bt_eq hc hc').mpr w) (nm_e (nm_r (nI_1 d) (rY post h))))))))))))))⟩
      · obtain ⟨r, rX, rY⟩ := ih (d + 1) (by omega) x
        exact ⟨r, fun post h => br_f h16 ⟨hi, nm_r hl (br_f z ⟨hi', br_f (fun g => w (g.trans hl')) (nm_r (nI_1 d) (rX post h))⟩)⟩, fun post h => br_f h16 (bt_tickY hp ht (br_f bt_01 (bt_keyY hk (br_f bt_01 (bt_keyY hm (br_f bt_01 (bt_ycell ht' hk hd' (br_f z' (bt_ycell ht' hk hd' (bt_ycell ht' hm hd' (br_f (fun g => w ((bt_eq hc hc').mp g)) (nm_r (nI_1 d) (rY post h)))))))))))))⟩
theorem bt_stood {p t k q : Nat} {a b : Nat → Int32} (hp : p ≤ 60) (H : bt_H p a b) (ht : t ≤ p) (hk : k < 4) (hq : q < 16) (f e : Int32) : ∃ r : Int32, (∀ post : Int32 → Prop, post r → wpX_stoodBefore post (f, e, a) (nI t) (nI k) (nI q)) ∧ (∀ post : Int32 → Prop, post r → wpY_lasts post (f, e, b) (nI t) (nI k) (nI q)) := by
  cases t with
  | zero => exact ⟨0, fun post h => br_t nI_0 h, fun post h => br_t (nI_le (a := 0) (b := 0) (by omega) (by omega)) h⟩
  | succ s =>
    have n0 : ¬ nI (s + 1) = 0 := nI_ne0 (by omega) (by omega)
    have n1 : ¬ nI (s + 1) ≤ 0 := nI_nle (by omega) (by omega)
    have hs' : s ≤ 60 := by omega
    have ht' : s + 1 ≤ 60 := by omega
    have hc := H (64 * s + 16 * k + q) (by omega)
    have hc' := H (64 * (s + 1) + 16 * k + q) (by omega)
    have hi : vp_in (nI (64 * s + 16 * k) + nI q) 3904 := bt_in (by omega)
    have hl : a (nI (64 * s + 16 * k) + nI q).toNatClampNeg = a (64 * s + 16 * k + q) := by rw [bt_cl (by omega)]
    have hi' : vp_in (nI (64 * (s + 1) + 16 * k) + nI q) 3904 := bt_in (by omega)
    have hl' : a (nI (64 * (s + 1) + 16 * k) + nI q).toNatClampNeg = a (64 * (s + 1) + 16 * k + q) := by rw [bt_cl (by omega)]
    obtain ⟨g, gX, gY⟩ := bt_starts hp H (t := s) (by omega) hk hq f e
    obtain ⟨i, iX, iY⟩ := bt_end hp H (t := s) (by omega) hk hq f e
    obtain ⟨j, jX, jY⟩ := bt_end hp H (t := s + 1) (by omega) hk hq f e
    by_cases z : g = 0
    · refine ⟨0, fun post h => br_f n0 (bt_rowOf (nm_r (bt_rm s k) (gX _ (br_t z h)))), fun post h => br_f n1 ?_⟩
      rw [nI_pred]
      exact gY _ (br_t z h)
    · by_cases w : a (64 * s + 16 * k + q) = a (64 * (s + 1) + 16 * k + q)
      · by_cases y : i = j
        · refine ⟨1, fun post h => br_f n0 (bt_rowOf (nm_r (bt_rm s k) (gX _ (br_f z ⟨hi, hi', br_t ((hl.trans w).trans hl'.symm) (iX _ (jX _ (br_t y h)))⟩)))), fun post h => br_f n1 ?_⟩
          rw [nI_pred]
          exact gY _ (br_f z (bt_ycell hs' hk hq (bt_ycell ht' hk hq (br_t ((bt_eq hc hc').mpr w) (iY _ (jY _ (br_t y h)))))))
        · refine ⟨0, fun post h => br_f n0 (bt_rowOf (nm_r (bt_rm s k) (gX _ (br_f z ⟨hi, hi', br_t ((hl.trans w).trans hl'.symm) (iX _ (jX _ (br_f y h)))⟩)))), fun post h => br_f n1 ?_⟩
          rw [nI_pred]
          exact gY _ (br_f z (bt_ycell hs' hk hq (bt_ycell ht' hk hq (br_t ((bt_eq hc hc').mpr w) (iY _ (jY _ (br_f y h)))))))
      · refine ⟨0, fun post h => br_f n0 (bt_rowOf (nm_r (bt_rm s k) (gX _ (br_f z ⟨hi, hi', br_f (fun o => w ((hl.symm.trans o).trans hl')) h⟩)))), fun post h => br_f n1 ?_⟩
        rw [nI_pred]
        exact gY _ (br_f z (bt_ycell hs' hk hq (bt_ycell ht' hk hq (br_f (fun o => w ((bt_eq hc hc').mp o)) h))))
theorem bt_rectI {p t k : Nat} {a b : Nat → Int32} (hp : p ≤ 60) (H : bt_H p a b) (ht : t ≤ p) (hk : k < 4) (f e : Int32) : ∀ m d : Nat, d + m = 16 → ∀ x : Int32, ∃ r : Int32, (∀ (post : Int32 → Prop) (J : Int32 → Int32 → Prop), J r (nI (t + 1)) → wX_rectangles_31 post J (nI k) (nI t) (nI (64 * t + 16 * k)) f e a (m + 1) x (nI d)) ∧ (∀ (post : Int32 → Prop) (J : Int32 → Int32 → Prop), J r (nI (t + 1)) → wY_rectangles_23 post J (nI k) (nI t) f e b (m + 1) x (nI d)) := by
  intro m
  induction m with
  | zero =>
    intro d hd x
    have h : (16 : Int32) ≤ nI d := nI_le (a := 16) (by omega) (by omega)
    exact ⟨x, fun _ _ hq => br_t h (nm_r (nI_1 t) hq), fun _ _ hq => br_t h (nm_r (nI_1 t) hq)⟩
  | succ m ih =>
    intro d hd x
    have h16 : ¬ (16 : Int32) ≤ nI d := nI_ge (b := 16) (by omega) (by decide)
    obtain ⟨s, sX, sY⟩ := bt_starts hp H ht hk (d := d) (by omega) f e
    obtain ⟨g, gX, gY⟩ := bt_stood hp H ht hk (q := d) (by omega) f e
    by_cases z : s = 0
    · obtain ⟨r, rX, rY⟩ := ih (d + 1) (by omega) x
      exact ⟨r, fun post J h => br_f h16 (sX _ (br_t z (nm_r (nI_1 d) (rX post J h)))), fun post J h => br_f h16 (sY _ (br_t z (nm_r (nI_1 d) (rY post J h))))⟩
    · by_cases w : g = 0
      · obtain ⟨r, rX, rY⟩ := ih (d + 1) (by omega) (x + 1)
        exact ⟨r, fun post J h => br_f h16 (sX _ (br_f z (gX _ (br_t w (nm_e (nm_r (nI_1 d) (rX post J h))))))), fun post J h => br_f h16 (sY _ (br_f z (gY _ (br_t w (nm_e (nm_r (nI_1 d) (rY post J h)))))))⟩
      · obtain ⟨r, rX, rY⟩ := ih (d + 1) (by omega) x
        exact ⟨r, fun post J h => br_f h16 (sX _ (br_f z (gX _ (br_f w (nm_r (nI_1 d) (rX post J h)))))), fun post J h => br_f h16 (sY _ (br_f z (gY _ (br_f w (nm_r (nI_1 d) (rY post J h))))))⟩
theorem bt_rect {p k : Nat} {a b : Nat → Int32} (hp : p ≤ 60) (H : bt_H p a b) (hk : k < 4) (e : Int32) : ∀ m t : Nat, t + m = p + 1 → ∀ x : Int32, ∃ r : Int32, (∀ post : Int32 → Prop, post r → wX_rectangles_13 post (nI k) (nI p) e a (m + 1) x (nI t)) ∧ (∀ post : Int32 → Prop, post r → wY_rectangles_4 post (nI k) (nI p) e b (m + 1) x (nI t)) := by
  intro m
  induction m with
  | zero =>
    intro t ht x
    have h : nI p < nI t := nI_lt (by omega) (by omega)
    exact ⟨x, fun _ hq => br_t h hq, fun _ hq => br_t h hq⟩
  | succ m ih =>
    intro t ht x
    have hn : ¬ nI p < nI t := nI_nlt (by omega) (by omega)
    obtain ⟨s, sX, sY⟩ := bt_rectI hp H (t := t) (by omega) hk (nI p) e 16 0 rfl x
    obtain ⟨r, rX, rY⟩ := ih (t + 1) (by omega) s
    exact ⟨r, fun post h => br_f hn (bt_rowOf ⟨17, sX post _ (rX post h)⟩), fun post h => br_f hn (bt_keyY hk (br_f bt_01 ⟨17, sY post _ (rY post h)⟩))⟩
