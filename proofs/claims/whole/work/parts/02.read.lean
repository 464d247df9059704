theorem bt_begY {t k d : Nat} (ht : t ≤ 60) (hk : k < 4) (hd : d < 16) {f e : Int32} {b : Nat → Int32} {post : Int32 → Prop} (h : (b (64 * t + 16 * k + d) ≤ 0 → post 0) ∧ (¬ b (64 * t + 16 * k + d) ≤ 0 → ((nI d = 0 → post 1) ∧ (¬ nI d = 0 → wpY_cell (fun r_7 => wpY_cell (fun r_11 => ((r_7 = r_11 → post 0) ∧ (¬ r_7 = r_11 → post 1))) (f, e, b) (nI t) (nI k) (nI d)) (f, e, b) (nI t) (nI k) (nI d - 1))))) : wpY_begins post (f, e, b) (nI t) (nI k) (nI d) := by
  unfold wpY_begins
  dsimp only
  exact bt_ycell ht hk hd h
theorem bt_starts {p t k d : Nat} {a b : Nat → Int32} (hp : p ≤ 60) (H : bt_H p a b) (ht : t ≤ p) (hk : k < 4) (hd : d < 16) (f e : Int32) : ∃ r : Int32, (∀ post : Int32 → Prop, post r → wpX_periodStarts post (f, e, a) (nI (64 * t + 16 * k)) (nI d)) ∧ (∀ post : Int32 → Prop, post r → wpY_begins post (f, e, b) (nI t) (nI k) (nI d)) := by
  have hc := H (64 * t + 16 * k + d) (by omega)
  have hi : vp_in (nI (64 * t + 16 * k) + nI d) 3904 := bt_in (by omega)
  have hl : a (nI (64 * t + 16 * k) + nI d).toNatClampNeg = a (64 * t + 16 * k + d) := by rw [bt_cl (by omega)]
  have ht' : t ≤ 60 := by omega
  by_cases z : a (64 * t + 16 * k + d) = -1
  · exact ⟨0, fun post h => ⟨hi, nm_r hl (br_t z h)⟩, fun post h => bt_begY ht' hk hd (br_t ((bt_none hc).mpr z) h)⟩
  · have z' : ¬ b (64 * t + 16 * k + d) ≤ 0 := fun q => z ((bt_none hc).mp q)
    cases d with
    | zero => exact ⟨1, fun post h => ⟨hi, nm_r hl (br_f z (br_t nI_0 h))⟩, fun post h => bt_begY ht' hk hd (br_f z' (br_t nI_0 h))⟩
    | succ d =>
      have hc' := H (64 * t + 16 * k + d) (by omega)
      have n0 : ¬ nI (d + 1) = 0 := nI_ne0 (by omega) (by omega)
      have em : nI (64 * t + 16 * k) + nI (d + 1) - 1 = nI (64 * t + 16 * k + d) := by
        rw [nI_add]
        exact nI_pred (64 * t + 16 * k + d)
      have hi' : vp_in (nI (64 * t + 16 * k) + nI (d + 1) - 1) 3904 := by
        rw [em]
        exact vp_in_nI (by omega) (by decide)
      have hl' : a (nI (64 * t + 16 * k) + nI (d + 1) - 1).toNatClampNeg = a (64 * t + 16 * k + d) := by
        rw [em, nI_clamp (by omega)]
      by_cases w : a (64 * t + 16 * k + d) = a (64 * t + 16 * k + (d + 1))
      · refine ⟨0, fun post h => ⟨hi, nm_r hl (br_f z (br_f n0 ⟨hi', br_t (hl'.trans w) h⟩))⟩, fun post h => bt_begY ht' hk hd (br_f z' (br_f n0 ?_))⟩
        rw [nI_pred]
        exact bt_ycell ht' hk (by omega) (bt_ycell ht' hk hd (br_t ((bt_eq hc' hc).mpr w) h))
      · refine ⟨1, fun post h => ⟨hi, nm_r hl (br_f z (br_f n0 ⟨hi', br_f (fun q => w (hl'.symm.trans q)) h⟩))⟩, fun post h => bt_begY ht' hk hd (br_f z' (br_f n0 ?_))⟩
        rw [nI_pred]
        exact bt_ycell ht' hk (by omega) (bt_ycell ht' hk hd (br_f (fun q => w ((bt_eq hc' hc).mp q)) h))
theorem bt_periods {p t k : Nat} {a b : Nat → Int32} (hp : p ≤ 60) (H : bt_H p a b) (ht : t ≤ p) (hk : k < 4) (e : Int32) : ∀ m d : Nat, d + m = 16 → ∀ x : Int32, ∃ r : Int32, (∀ post : Int32 → Prop, post r → wX_periods_29 post (nI (64 * t + 16 * k)) (nI p) e a (m + 1) x (nI d)) ∧ (∀ post : Int32 → Prop, post r → wY_periods_5 post (nI t) (nI k) (nI p) e b (m + 1) x (nI d)) := by
  intro m
  induction m with
  | zero =>
    intro d hd x
    have h : (16 : Int32) ≤ nI d := nI_le (a := 16) (by omega) (by omega)
    exact ⟨x, fun _ hq => br_t h hq, fun _ hq => br_t h hq⟩
  | succ m ih =>
    intro d hd x
    have h16 : ¬ (16 : Int32) ≤ nI d := nI_ge (b := 16) (by omega) (by decide)
    obtain ⟨s, sX, sY⟩ := bt_starts hp H ht hk (d := d) (by omega) (nI p) e
    by_cases z : s = 0
    · obtain ⟨r, rX, rY⟩ := ih (d + 1) (by omega) x
      exact ⟨r, fun post h => br_f h16 (sX _ (br_t z (nm_r (nI_1 d) (rX post h)))), fun post h => br_f h16 (bt_tickY hp ht (br_f bt_01 (bt_keyY hk (br_f bt_01 (sY _ (br_t z (nm_r (nI_1 d) (rY post h))))))))⟩
    · obtain ⟨r, rX, rY⟩ := ih (d + 1) (by omega) (x + 1)
      exact ⟨r, fun post h => br_f h16 (sX _ (br_f z (nm_e (nm_r (nI_1 d) (rX post h))))), fun post h => br_f h16 (bt_tickY hp ht (br_f bt_01 (bt_keyY hk (br_f bt_01 (sY _ (br_f z (nm_e (nm_r (nI_1 d) (rY post h)))))))))⟩
theorem bt_first {p t k : Nat} {a b : Nat → Int32} (hp : p ≤ 60) (H : bt_H p a b) (ht : t ≤ p) (hk : k < 4) (e i : Int32) : ∀ m d : Nat, d + m = 16 → ∀ x : Int32, ∃ r : Int32, (r = -1 ∨ ∃ q : Nat, q < 16 ∧ r = nI q) ∧ (∀ post : Int32 → Prop, post r → wX_firstDay_5 post (nI (64 * t + 16 * k)) i (nI p) e a (m + 1) x (nI d)) ∧ (∀ post : Int32 → Prop, post r → wY_periodFrom_6 post (nI t) (nI k) i (nI p) e b (m + 1) x (nI d)) := by
  intro m
  induction m with
  | zero =>
    intro d hd x
    have h : (16 : Int32) ≤ nI d := nI_le (a := 16) (by omega) (by omega)
    exact ⟨-1, Or.inl rfl, fun _ hq => br_t h hq, fun _ hq => br_t h hq⟩
  | succ m ih =>
    intro d hd x
    have h16 : ¬ (16 : Int32) ≤ nI d := nI_ge (b := 16) (by omega) (by decide)
    obtain ⟨s, sX, sY⟩ := bt_starts hp H ht hk (d := d) (by omega) (nI p) e
    by_cases z : s = 0
    · obtain ⟨r, hr, rX, rY⟩ := ih (d + 1) (by omega) x
      exact ⟨r, hr, fun post h => br_f h16 (sX _ (br_t z (nm_r (nI_1 d) (rX post h)))), fun post h => br_f h16 (bt_tickY hp ht (br_f bt_01 (bt_keyY hk (br_f bt_01 (sY _ (br_t z (nm_r (nI_1 d) (rY post h))))))))⟩
    · by_cases w : x = i
      · exact ⟨nI d, Or.inr ⟨d, by omega, rfl⟩, fun post h => br_f h16 (sX _ (br_f z (br_t w h))), fun post h => br_f h16 (bt_tickY hp ht (br_f bt_01 (bt_keyY hk (br_f bt_01 (sY _ (br_f z (br_t w h)))))))⟩
      · obtain ⟨r, hr, rX, rY⟩ := ih (d + 1) (by omega) (x + 1)
        exact ⟨r, hr, fun post h => br_f h16 (sX _ (br_f z (br_f w (nm_e (nm_r (nI_1 d) (rX post h)))))), fun post h => br_f h16 (bt_tickY hp ht (br_f bt_01 (bt_keyY hk (br_f bt_01 (sY _ (br_f z (br_f w (nm_e (nm_r (nI_1 d) (rY post h))))))))))⟩
theorem bt_endL {p t k q : Nat} {a b : Nat → Int32} (hp : p ≤ 60) (H : bt_H p a b) (ht : t ≤ p) (hk : k < 4) (hq : q < 16) (f e : Int32) : ∀ m d : Nat, d + m = 16 → ∃ r : Int32, (∀ post : Int32 → Prop, post r → wX_dayAfter_14 post (nI (64 * t + 16 * k)) (a (64 * t + 16 * k + q)) f e a (m + 1) (nI d)) ∧ (∀ post : Int32 → Prop, post r → wY_end_3 post (nI t) (nI k) (nI q) f e b (m + 1) (nI d)) := by
  have ht' : t ≤ 60 := by omega
  have hcq := H (64 * t + 16 * k + q) (by omega)
  intro m
  induction m with
  | zero =>
    intro d hd
    obtain rfl : d = 16 := by omega
    have h : (16 : Int32) ≤ nI 16 := nI_le (a := 16) (by omega) (by omega)
    exact ⟨nI 16, fun _ hq => br_t h hq, fun _ hq => br_t h hq⟩
  | succ m ih =>
    intro d hd
    have h16 : ¬ (16 : Int32) ≤ nI d := nI_ge (b := 16) (by omega) (by decide)
    have hd' : d < 16 := by omega
    have hc := H (64 * t + 16 * k + d) (by omega)
    have hi : vp_in (nI (64 * t + 16 * k) + nI d) 3904 := bt_in (by omega)
    have hl : a (nI (64 * t + 16 * k) + nI d).toNatClampNeg = a (64 * t + 16 * k + d) := by rw [bt_cl (by omega)]
    by_cases w : a (64 * t + 16 * k + d) = a (64 * t + 16 * k + q)
    · obtain ⟨r, rX, rY⟩ := ih (d + 1) (by omega)
      exact ⟨r, fun post h => br_f h16 ⟨hi, br_t (hl.trans w) (nm_r (nI_1 d) (rX post h))⟩, fun post h => br_f h16 (bt_ycell ht' hk hd' (bt_ycell ht' hk hq (br_t ((bt_eq hc hcq).mpr w) (nm_r (nI_1 d) (rY post h)))))⟩
    · exact ⟨nI d, fun post h => br_f h16 ⟨hi, br_f (fun g => w (hl.symm.trans g)) h⟩, fun post h => br_f h16 (bt_ycell ht' hk hd' (bt_ycell ht' hk hq (br_f (fun g => w ((bt_eq hc hcq).mp g)) h)))⟩
theorem bt_end {p t k q : Nat} {a b : Nat → Int32} (hp : p ≤ 60) (H : bt_H p a b) (ht : t ≤ p) (hk : k < 4) (hq : q < 16) (f e : Int32) : ∃ r : Int32, (∀ post : Int32 → Prop, post r → wpX_dayAfter post (f, e, a) (nI (64 * t + 16 * k)) (nI q)) ∧ (∀ post : Int32 → Prop, post r → wpY_end post (f, e, b) (nI t) (nI k) (nI q)) := by
  have ht' : t ≤ 60 := by omega
  obtain ⟨r, rX, rY⟩ := bt_endL hp H ht hk hq f e (15 - q) (q + 1) (by omega)
  have hi : vp_in (nI (64 * t + 16 * k) + nI q) 3904 := bt_in (by omega)
  have hl : a (nI (64 * t + 16 * k) + nI q).toNatClampNeg = a (64 * t + 16 * k + q) := by rw [bt_cl (by omega)]
  have h16 : ¬ (16 : Int32) ≤ nI q := nI_ge (b := 16) (by omega) (by decide)
  exact ⟨r, fun post h => ⟨hi, nm_r hl (nm_r (nI_1 q) ⟨_, rX post h⟩)⟩, fun post h => ⟨15 - q + 1 + 1, br_f h16 (bt_ycell ht' hk hq (bt_ycell ht' hk hq (br_t rfl (nm_r (nI_1 q) (rY post h)))))⟩⟩
theorem bt_era0 {f e k q : Int32} {a : Nat → Int32} {post : Int32 → Prop} (h : post 1) : wpX_eraStarts post (f, e, a) (nI 0) k q := br_t nI_0 h
theorem bt_eraE {s k q : Nat} (hs : s + 1 ≤ 60) (hk : k < 4) (hq : q < 16) {f e : Int32} {a : Nat → Int32} (w : a (64 * (s + 1) + 16 * k + q) = a (64 * s + 16 * k + q)) {post : Int32 → Prop} (h : post 0) : wpX_eraStarts post (f, e, a) (nI (s + 1)) (nI k) (nI q) := by
  refine br_f (nI_ne0 (by omega) (by omega)) (bt_rowOf ?_)
  rw [bt_rm, bt_cl (by omega), bt_cl (by omega)]
  exact ⟨bt_in (by omega), bt_in (by omega), br_t w h⟩
theorem bt_eraN {s k q : Nat} (hs : s + 1 ≤ 60) (hk : k < 4) (hq : q < 16) {f e : Int32} {a : Nat → Int32} (w : ¬ a (64 * (s + 1) + 16 * k + q) = a (64 * s + 16 * k + q)) {post : Int32 → Prop} (h : post 1) : wpX_eraStarts post (f, e, a) (nI (s + 1)) (nI k) (nI q) := by
  refine br_f (nI_ne0 (by omega) (by omega)) (bt_rowOf ?_)
  rw [bt_rm, bt_cl (by omega), bt_cl (by omega)]
  exact ⟨bt_in (by omega), bt_in (by omega), br_f w h⟩
theorem bt_eras {p k q : Nat} {a b : Nat → Int32} (hp : p ≤ 60) (H : bt_H p a b) (hk : k < 4) (hq : q < 16) (e : Int32) : ∀ m t : Nat, t + m = p + 1 → ∀ x : Int32, ∃ r : Int32, (∀ post : Int32 → Prop, post r → wX_eras_21 post (nI k) (nI q) (nI p) e a (m + 1) x (nI t)) ∧ (∀ post : Int32 → Prop, post r → wY_eras_5 post (nI k) (nI q) (nI p) e b (m + 1) x (nI t)) := by
  intro m
  induction m with
  | zero =>
    intro t ht x
    have h : nI p < nI t := nI_lt (by omega) (by omega)
    exact ⟨x, fun _ hq => br_t h hq, fun _ hq => br_t h hq⟩
  | succ m ih =>
    intro t ht x
    have hn : ¬ nI p < nI t := nI_nlt (by omega) (by omega)
    cases t with
    | zero =>
      obtain ⟨r, rX, rY⟩ := ih (0 + 1) (by omega) (x + 1)
      exact ⟨r, fun post h => br_f hn (bt_era0 (br_f bt_01 (nm_e (nm_r (nI_1 0) (rX post h))))), fun post h => br_f hn (bt_keyY hk (br_f bt_01 (bt_dayY hq (br_t nI_0 (nm_e (nm_r (nI_1 0) (rY post h)))))))⟩
    | succ s =>
      have n0 : ¬ nI (s + 1) = 0 := nI_ne0 (by omega) (by omega)
      have h1 := H (64 * (s + 1) + 16 * k + q) (by omega)
      have h0 := H (64 * s + 16 * k + q) (by omega)
      by_cases w : a (64 * (s + 1) + 16 * k + q) = a (64 * s + 16 * k + q)
      · obtain ⟨r, rX, rY⟩ := ih (s + 1 + 1) (by omega) x
        refine ⟨r, fun post h => br_f hn (bt_eraE (by omega) hk hq w (br_t rfl (nm_r (nI_1 (s + 1)) (rX post h)))), fun post h => br_f hn (bt_keyY hk (br_f bt_01 (bt_dayY hq (br_f n0 (bt_ycell (by omega) hk hq ?_)))))⟩
        rw [nI_pred]
        exact bt_ycell (by omega) hk hq (br_t ((bt_eq h1 h0).mpr w) (nm_r (nI_1 (s + 1)) (rY post h)))
      · obtain ⟨r, rX, rY⟩ := ih (s + 1 + 1) (by omega) (x + 1)
        refine ⟨r, fun post h => br_f hn (bt_eraN (by omega) hk hq w (br_f bt_01 (nm_e (nm_r (nI_1 (s + 1)) (rX post h))))), fun post h => br_f hn (bt_keyY hk (br_f bt_01 (bt_dayY hq (br_f n0 (bt_ycell (by omega) hk hq ?_)))))⟩
        rw [nI_pred]
        exact bt_ycell (by omega) hk hq (br_f (fun g => w ((bt_eq h1 h0).mp g)) (nm_e (nm_r (nI_1 (s + 1)) (rY post h))))
theorem bt_eraFrom {p k q : Nat} {a b : Nat → Int32} (hp : p ≤ 60) (H : bt_H p a b) (hk : k < 4) (hq : q < 16) (e i : Int32) : ∀ m t : Nat, t + m = p + 1 → ∀ x : Int32, ∃ r : Int32, (∀ post : Int32 → Prop, post r → wX_eraFrom_22 post (nI k) (nI q) i (nI p) e a (m + 1) x (nI t)) ∧ (∀ post : Int32 → Prop, post r → wY_eraFrom_6 post (nI k) (nI q) i (nI p) e b (m + 1) x (nI t)) := by
  intro m
  induction m with
  | zero =>
    intro t ht x
    have h : nI p < nI t := nI_lt (by omega) (by omega)
    exact ⟨-1, fun _ hq => br_t h hq, fun _ hq => br_t h hq⟩
  | succ m ih =>
    intro t ht x
    have hn : ¬ nI p < nI t := nI_nlt (by omega) (by omega)
    cases t with
    | zero =>
      by_cases v : x = i
      · exact ⟨nI 0, fun post h => br_f hn (bt_era0 (br_f bt_01 (br_t v h))), fun post h => br_f hn (bt_keyY hk (br_f bt_01 (bt_dayY hq (br_t nI_0 (br_t v h)))))⟩
      · obtain ⟨r, rX, rY⟩ := ih (0 + 1) (by omega) (x + 1)
        exact ⟨r, fun post h => br_f hn (bt_era0 (br_f bt_01 (br_f v (nm_e (nm_r (nI_1 0) (rX post h)))))), fun post h => br_f hn (bt_keyY hk (br_f bt_01 (bt_dayY hq (br_t nI_0 (br_f v (nm_e (nm_r (nI_1 0) (rY post h))))))))⟩
    | succ s =>
      have n0 : ¬ nI (s + 1) = 0 := nI_ne0 (by omega) (by omega)
      have h1 := H (64 * (s + 1) + 16 * k + q) (by omega)
      have h0 := H (64 * s + 16 * k + q) (by omega)
      by_cases w : a (64 * (s + 1) + 16 * k + q) = a (64 * s + 16 * k + q)
      · obtain ⟨r, rX, rY⟩ := ih (s + 1 + 1) (by omega) x
        refine ⟨r, fun post h => br_f hn (bt_eraE (by omega) hk hq w (br_t rfl (nm_r (nI_1 (s + 1)) (rX post h)))), fun post h => br_f hn (bt_keyY hk (br_f bt_01 (bt_dayY hq (br_f n0 (bt_ycell (by omega) hk hq ?_)))))⟩
        rw [nI_pred]
        exact bt_ycell (by omega) hk hq (br_t ((bt_eq h1 h0).mpr w) (nm_r (nI_1 (s + 1)) (rY post h)))
      · have w' : ¬ b (64 * (s + 1) + 16 * k + q) = b (64 * s + 16 * k + q) := fun g => w ((bt_eq h1 h0).mp g)
        by_cases v : x = i
        · refine ⟨nI (s + 1), fun post h => br_f hn (bt_eraN (by omega) hk hq w (br_f bt_01 (br_t v h))), fun post h => br_f hn (bt_keyY hk (br_f bt_01 (bt_dayY hq (br_f n0 (bt_ycell (by omega) hk hq ?_)))))⟩
          rw [nI_pred]
          exact bt_ycell (by omega) hk hq (br_f w' (br_t v h))
        · obtain ⟨r, rX, rY⟩ := ih (s + 1 + 1) (by omega) (x + 1)
          refine ⟨r, fun post h => br_f hn (bt_eraN (by omega) hk hq w (br_f bt_01 (br_f v (nm_e (nm_r (nI_1 (s + 1)) (rX post h)))))), fun post h => br_f hn (bt_keyY hk (br_f bt_01 (bt_dayY hq (br_f n0 (bt_ycell (by omega) hk hq ?_)))))⟩
          rw [nI_pred]
          exact bt_ycell (by omega) hk hq (br_f w' (br_f v (nm_e (nm_r (nI_1 (s + 1)) (rY post h)))))
