section
theorem pk_us {f : Nat → Int32} {k : Nat} {x : Int32} : upd f k x k = x := if_pos rfl
theorem pk_un {f : Nat → Int32} {k j : Nat} {x : Int32} (h : j ≠ k) : upd f k x j = f j := if_neg h
theorem pk_sub {a b : Nat} (h : b ≤ a) : nI a - nI b = nI (a - b) := by
  obtain ⟨c, rfl⟩ : ∃ c, a = c + b := ⟨a - b, by omega⟩
  rw [← nI_add, Int32.add_sub_cancel, Nat.add_sub_cancel]
theorem pk_mul (a b : Nat) : nI a * nI b = nI (a * b) := (Int32.ofNat_mul a b).symm
/-- one cell on both sides: the reference's is one more than the class's, and never negative -/
def bt_cell (x y : Int32) : Prop := y = x + 1 ∧ ¬ y < 0
/-- all cells up to the present tick -/
def bt_H (p : Nat) (a b : Nat → Int32) : Prop := ∀ j : Nat, j < 64 * (p + 1) → bt_cell (a j) (b j)
/-- the same tick, the same count of changes, the same table at each tick so far -/
def i_Rel (k : Nat) (u : SX) (v : SY) : Prop := ∃ (p c : Nat) (a b : Nat → Int32), u = (nI p, nI c, a) ∧ v = (nI p, nI c, b) ∧ p ≤ 60 ∧ c ≤ 50 ∧ bt_H p a b
theorem i_up {k : Nat} {u : SX} {v : SY} (h : i_Rel k u v) : i_Rel (k + 5) u v := h
theorem bt_01 : ¬ (1 : Int32) = 0 := by decide
theorem bt_160 : ¬ (16 : Int32) ≤ 0 := by decide
theorem bt_640 : ¬ (64 : Int32) ≤ 0 := by decide
theorem bt_inj {x x' : Int32} : x + 1 = x' + 1 ↔ x = x' := by
  constructor
  · intro h
    have h2 : x + 1 - 1 = x' + 1 - 1 := by rw [h]
    rw [Int32.add_sub_cancel, Int32.add_sub_cancel] at h2
    exact h2
  · intro h
    rw [h]
theorem bt_eq {x y x' y' : Int32} (h : bt_cell x y) (h' : bt_cell x' y') : y = y' ↔ x = x' := by
  rw [h.1, h'.1]
  exact bt_inj
theorem bt_none {x y : Int32} (h : bt_cell x y) : y ≤ 0 ↔ x = -1 := by
  constructor
  · intro hy
    have e0 : y = 0 := Int32.le_antisymm hy (Int32.not_lt.mp h.2)
    have e := h.1
    rw [e0, show (0 : Int32) = -1 + 1 from by decide] at e
    exact (bt_inj.mp e).symm
  · intro hx
    rw [h.1, hx]
    decide
theorem bt_pred {x y : Int32} (h : bt_cell x y) : y - 1 = x := by
  rw [h.1, Int32.add_sub_cancel]
theorem bt_val {x y v : Int32} (h : bt_cell x y) : y = v + 1 ↔ x = v := by
  rw [h.1]
  exact bt_inj
theorem bt_upd {p i : Nat} {a b : Nat → Int32} {x y : Int32} (H : bt_H p a b) (h : bt_cell x y) : bt_H p (upd a i x) (upd b i y) := by
  intro j hj
  by_cases e : j = i
  · subst e
    rw [pk_us, pk_us]
    exact h
  · rw [pk_un e, pk_un e]
    exact H j hj
theorem bt_updY {p i : Nat} {a b : Nat → Int32} {x y : Int32} (H : bt_H p a b) (h : bt_cell x y) (e : a i = x) : bt_H p a (upd b i y) := by
  intro j hj
  by_cases e' : j = i
  · subst e'
    rw [pk_us, e]
    exact h
  · rw [pk_un e']
    exact H j hj
theorem bt_rx (t k : Nat) : nI t * 64 + nI k * 16 = nI (64 * t + 16 * k) := by
  rw [show (64 : Int32) = nI 64 from rfl, show (16 : Int32) = nI 16 from rfl, pk_mul, pk_mul, nI_add, Nat.mul_comm t, Nat.mul_comm k]
theorem bt_ry (t k d : Nat) : 64 * nI t + 16 * nI k + nI d = nI (64 * t + 16 * k + d) := by
  rw [show (64 : Int32) = nI 64 from rfl, show (16 : Int32) = nI 16 from rfl, pk_mul, pk_mul, nI_add, nI_add]
theorem bt_rm (s k : Nat) : nI (64 * (s + 1) + 16 * k) - 64 = nI (64 * s + 16 * k) := by
  rw [show (64 : Int32) = nI 64 from rfl, pk_sub (by omega), show 64 * (s + 1) + 16 * k - 64 = 64 * s + 16 * k from by omega]
theorem bt_in {r d : Nat} (h : r + d < 3904) : vp_in (nI r + nI d) 3904 := by
  rw [nI_add]
  exact vp_in_nI h (by decide)
theorem bt_cl {r d : Nat} (h : r + d < 3904) : (nI r + nI d).toNatClampNeg = r + d := by
  rw [nI_add]
  exact nI_clamp (by omega)
theorem bt_rowOf {t k : Nat} {post : Int32 → Prop} (h : post (nI (64 * t + 16 * k))) : wpX_rowOf post (nI t) (nI k) := by
  unfold wpX_rowOf
  rw [bt_rx]
  exact h
theorem bt_ycell {t k d : Nat} (ht : t ≤ 60) (hk : k < 4) (hd : d < 16) {f e : Int32} {g : Nat → Int32} {post : Int32 → Prop} (h : post (g (64 * t + 16 * k + d))) : wpY_cell post (f, e, g) (nI t) (nI k) (nI d) := by
  unfold wpY_cell
  dsimp only
  rw [bt_ry, nI_clamp (by omega)]
  exact ⟨vp_in_nI (by omega) (by decide), h⟩
-- the argument tests
theorem bt_keyX {k : Nat} (h : k < 4) {post : Int32 → Prop} (hp : post 1) : wpX_isKey post (nI k) :=
  br_f (nI_pos (by omega)) (br_f (nI_ge (b := 4) h (by decide)) hp)
theorem bt_keyY {k : Nat} (h : k < 4) {f e : Int32} {g : Nat → Int32} {post : Int32 → Prop} (hp : post 1) : wpY_key post (f, e, g) (nI k) :=
  br_f (nI_pos (by omega)) (br_f (nI_nlt (a := 3) (by omega) (by decide)) hp)
theorem bt_keyN (x : Int32) : (∃ k : Nat, k < 4 ∧ x = nI k) ∨ ((∀ post : Int32 → Prop, post 0 → wpX_isKey post x) ∧ (∀ (post : Int32 → Prop) (f e : Int32) (g : Nat → Int32), post 0 → wpY_key post (f, e, g) x)) := by
  by_cases h : x < 0
  · exact Or.inr ⟨fun _ hp => br_t h hp, fun _ _ _ _ hp => br_t h hp⟩
  · obtain ⟨j, hj, rfl⟩ := nI_of h
    by_cases h4 : j < 4
    · exact Or.inl ⟨j, h4, rfl⟩
    · exact Or.inr ⟨fun _ hp => br_f h (br_t (nI_le (a := 4) (by omega) hj) hp), fun _ _ _ _ hp => br_f h (br_t (nI_lt (a := 3) (by omega) hj) hp)⟩
theorem bt_tickX {p t : Nat} (hp : p ≤ 60) (h : t ≤ p) {e : Int32} {g : Nat → Int32} {post : Int32 → Prop} (h1 : post 1) : wpX_isTick post (nI p, e, g) (nI t) :=
  br_f (nI_pos (by omega)) (br_f (nI_nlt h (by omega)) h1)
theorem bt_tickY {p t : Nat} (hp : p ≤ 60) (h : t ≤ p) {e : Int32} {g : Nat → Int32} {post : Int32 → Prop} (h1 : post 1) : wpY_time post (nI p, e, g) (nI t) :=
  br_f (nI_pos (by omega)) (br_f (nI_nlt h (by omega)) h1)
theorem bt_tickN (p : Nat) (x : Int32) : (∃ t : Nat, t ≤ p ∧ x = nI t) ∨ ((∀ (post : Int32 → Prop) (e : Int32) (g : Nat → Int32), post 0 → wpX_isTick post (nI p, e, g) x) ∧ (∀ (post : Int32 → Prop) (e : Int32) (g : Nat → Int32), post 0 → wpY_time post (nI p, e, g) x)) := by
  by_cases h : x < 0
  · exact Or.inr ⟨fun _ _ _ hp => br_t h hp, fun _ _ _ hp => br_t h hp⟩
  · obtain ⟨j, hj, rfl⟩ := nI_of h
    by_cases h4 : j ≤ p
    · exact Or.inl ⟨j, h4, rfl⟩
    · have l : nI p < nI j := nI_lt (by omega) hj
      exact Or.inr ⟨fun _ _ _ hp => br_f h (br_t l hp), fun _ _ _ hp => br_f h (br_t l hp)⟩
theorem bt_dayX {d : Nat} (h : d < 16) {post : Int32 → Prop} (hp : post 1) : wpX_isDay post (nI d) :=
  br_f (nI_pos (by omega)) (br_f (nI_ge (b := 16) h (by decide)) hp)
theorem bt_dayY {d : Nat} (h : d < 16) {A B : Prop} (hb : B) : (nI d < 0 → A) ∧ (¬ nI d < 0 → ((15 < nI d → A) ∧ (¬ 15 < nI d → B))) :=
  br_f (nI_pos (by omega)) (br_f (nI_nlt (a := 15) (by omega) (by decide)) hb)
theorem bt_dayN (x : Int32) : (∃ d : Nat, d < 16 ∧ x = nI d) ∨ ((∀ post : Int32 → Prop, post 0 → wpX_isDay post x) ∧ (∀ A B : Prop, A → ((x < 0 → A) ∧ (¬ x < 0 → ((15 < x → A) ∧ (¬ 15 < x → B)))))) := by
  by_cases h : x < 0
  · exact Or.inr ⟨fun _ hp => br_t h hp, fun _ _ hp => br_t h hp⟩
  · obtain ⟨j, hj, rfl⟩ := nI_of h
    by_cases h4 : j < 16
    · exact Or.inl ⟨j, h4, rfl⟩
    · exact Or.inr ⟨fun _ hp => br_f h (br_t (nI_le (a := 16) (by omega) hj) hp), fun _ _ hp => br_f h (br_t (nI_lt (a := 15) (by omega) hj) hp)⟩
theorem bt_valX {d : Nat} (h : d < 10) {post : Int32 → Prop} (hp : post 1) : wpX_isValue post (nI d) :=
  br_f (nI_pos (by omega)) (br_f (nI_ge (b := 10) h (by decide)) hp)
theorem bt_valY {d : Nat} (h : d < 10) {A B : Prop} (hb : B) : (nI d < 0 → A) ∧ (¬ nI d < 0 → ((9 < nI d → A) ∧ (¬ 9 < nI d → B))) :=
  br_f (nI_pos (by omega)) (br_f (nI_nlt (a := 9) (by omega) (by decide)) hb)
theorem bt_valN (x : Int32) : (∃ d : Nat, d < 10 ∧ x = nI d) ∨ ((∀ post : Int32 → Prop, post 0 → wpX_isValue post x) ∧ (∀ A B : Prop, A → ((x < 0 → A) ∧ (¬ x < 0 → ((9 < x → A) ∧ (¬ 9 < x → B)))))) := by
  by_cases h : x < 0
  · exact Or.inr ⟨fun _ hp => br_t h hp, fun _ _ hp => br_t h hp⟩
  · obtain ⟨j, hj, rfl⟩ := nI_of h
    by_cases h4 : j < 10
    · exact Or.inl ⟨j, h4, rfl⟩
    · exact Or.inr ⟨fun _ hp => br_f h (br_t (nI_le (a := 10) (by omega) hj) hp), fun _ _ hp => br_f h (br_t (nI_lt (a := 9) (by omega) hj) hp)⟩
theorem bt_spanX {m n : Nat} (h : m < n) (hn : n ≤ 16) {post : Int32 → Prop} (hp : post 1) : wpX_isSpan post (nI m) (nI n) :=
  br_f (nI_pos (by omega)) (br_f (nI_ge h (by omega)) (br_f (nI_nlt (a := 16) hn (by decide)) hp))
theorem bt_spanY {m n : Nat} (h : m < n) (hn : n ≤ 16) {A B : Prop} (hb : B) : (nI m < 0 → A) ∧ (¬ nI m < 0 → ((nI n ≤ nI m → A) ∧ (¬ nI n ≤ nI m → ((16 < nI n → A) ∧ (¬ 16 < nI n → B))))) :=
  br_f (nI_pos (by omega)) (br_f (nI_ge h (by omega)) (br_f (nI_nlt (a := 16) hn (by decide)) hb))
theorem bt_spanN (x y : Int32) : (∃ m n : Nat, m < n ∧ n ≤ 16 ∧ x = nI m ∧ y = nI n) ∨ ((∀ post : Int32 → Prop, post 0 → wpX_isSpan post x y) ∧ (∀ A B : Prop, A → ((x < 0 → A) ∧ (¬ x < 0 → ((y ≤ x → A) ∧ (¬ y ≤ x → ((16 < y → A) ∧ (¬ 16 < y → B)))))))) := by
  by_cases h : x < 0
  · exact Or.inr ⟨fun _ hp => br_t h hp, fun _ _ hp => br_t h hp⟩
  · by_cases h2 : y ≤ x
    · exact Or.inr ⟨fun _ hp => br_f h (br_t h2 hp), fun _ _ hp => br_f h (br_t h2 hp)⟩
    · by_cases h3 : 16 < y
      · exact Or.inr ⟨fun _ hp => br_f h (br_f h2 (br_t h3 hp)), fun _ _ hp => br_f h (br_f h2 (br_t h3 hp))⟩
      · have hy : ¬ y < 0 := by
          intro z
          exact h2 (Int32.le_trans (Int32.le_of_lt z) (Int32.not_lt.mp h))
        obtain ⟨m, hm, rfl⟩ := nI_of h
        obtain ⟨n, hn, rfl⟩ := nI_of hy
        refine Or.inl ⟨m, n, ?_, ?_, rfl, rfl⟩
        · rw [nI_leI hn hm] at h2
          omega
        · rw [show (16 : Int32) = nI 16 from rfl, nI_ltI (by decide) hn] at h3
          omega
end
section
theorem bt_begY {t k d : Nat} (ht : t ≤ 60) (hk : k < 4) (hd : d < 16) {f e : Int32} {b : Nat → Int32} {post : Int32 → Prop} (h : (b (64 * t + 16 * k + d) ≤ 0 → post 0) ∧ (¬ b (64 * t + 16 * k + d) ≤ 0 → ((nI d = 0 → post 1) ∧ (¬ nI d = 0 → wpY_cell (fun r_7 => wpY_cell (fun r_11 => ((r_7 = r_11 → post 0) ∧ (¬ r_7 = r_11 → post 1))) (f, e, b) (nI t) (nI k) (nI d)) (f, e, b) (nI t) (nI k) (nI d - 1))))) : wpY_begins post (f, e, b) (nI t) (nI k) (nI d) := by
  unfold wpY_begins
  dsimp only
  exact bt_ycell ht hk hd h
theorem bt_starts {p t k d : Nat} {a b : Nat → Int32} (hp : p ≤ 60) (H : bt_H p a b) (ht : t ≤ p) (hk : k < 4) (hd : d < 16) (f e : Int32) : ∃ r : Int32, (∀ post : Int32 → Prop, post r → wpX_periodStarts post (f, e, a) (nI (64 * t + 16 * k)) (nI d)) ∧ (∀ post : Int32 → Prop, post r → wpY_begins post (f, e, b) (nI t) (nI k) (nI d)) := by
  have hc := H (64 * t + 16 * k + d) (by omega)
  have hi : vp_in (nI (64 * t + 16 * k) + nI d) 3904 := bt_in (by omega)
  have hl : a (nI (64 * t + 16 * k) + nI d).toNatClampNeg = a (64 * t + 16 * k + d) := by rw [bt_cl (by omega)]
  have ht' : t ≤ 60 := by omega
  by_cases z : a (64 * t + 16 * k + d) = -1
  · exact ⟨0, fun post h => ⟨hi, nm_r hl (br_t z h)⟩, fun post h => bt_begY ht' hk hd (br_t ((bt_none hc).mpr z) h)⟩
  · have z' : ¬ b (64 * t + 16 * k + d) ≤ 0 := fun q => z ((bt_none hc).mp q)
    cases d with
    | zero => exact ⟨1, fun post h => ⟨hi, nm_r hl (br_f z (br_t nI_0 h))⟩, fun post h => bt_begY ht' hk hd (br_f z' (br_t nI_0 h))⟩
    | succ d =>
      have hc' := H (64 * t + 16 * k + d) (by omega)
      have n0 : ¬ nI (d + 1) = 0 := nI_ne0 (by omega) (by omega)
      have em : nI (64 * t + 16 * k) + nI (d + 1) - 1 = nI (64 * t + 16 * k + d) := by
        rw [nI_add]
        exact nI_pred (64 * t + 16 * k + d)
      have hi' : vp_in (nI (64 * t + 16 * k) + nI (d + 1) - 1) 3904 := by
        rw [em]
        exact vp_in_nI (by omega) (by decide)
      have hl' : a (nI (64 * t + 16 * k) + nI (d + 1) - 1).toNatClampNeg = a (64 * t + 16 * k + d) := by
        rw [em, nI_clamp (by omega)]
      by_cases w : a (64 * t + 16 * k + d) = a (64 * t + 16 * k + (d + 1))
      · refine ⟨0, fun post h => ⟨hi, nm_r hl (br_f z (br_f n0 ⟨hi', br_t (hl'.trans w) h⟩))⟩, fun post h => bt_begY ht' hk hd (br_f z' (br_f n0 ?_))⟩
        rw [nI_pred]
        exact bt_ycell ht' hk (by omega) (bt_ycell ht' hk hd (br_t ((bt_eq hc' hc).mpr w) h))
      · refine ⟨1, fun post h => ⟨hi, nm_r hl (br_f z (br_f n0 ⟨hi', br_f (fun q => w (hl'.symm.trans q)) h⟩))⟩, fun post h => bt_begY ht' hk hd (br_f z' (br_f n0 ?_))⟩
        rw [nI_pred]
        exact bt_ycell ht' hk (by omega) (bt_ycell ht' hk hd (br_f (fun q => w ((bt_eq hc' hc).mp q)) h))
theorem bt_periods {p t k : Nat} {a b : Nat → Int32} (hp : p ≤ 60) (H : bt_H p a b) (ht : t ≤ p) (hk : k < 4) (e : Int32) : ∀ m d : Nat, d + m = 16 → ∀ x : Int32, ∃ r : Int32, (∀ post : Int32 → Prop, post r → wX_periods_29 post (nI (64 * t + 16 * k)) (nI p) e a (m + 1) x (nI d)) ∧ (∀ post : Int32 → Prop, post r → wY_periods_5 post (nI t) (nI k) (nI p) e b (m + 1) x (nI d)) := by
  intro m
  induction m with
  | zero =>
    intro d hd x
    have h : (16 : Int32) ≤ nI d := nI_le (a := 16) (by omega) (by omega)
    exact ⟨x, fun _ hq => br_t h hq, fun _ hq => br_t h hq⟩
  | succ m ih =>
    intro d hd x
    have h16 : ¬ (16 : Int32) ≤ nI d := nI_ge (b := 16) (by omega) (by decide)
    obtain ⟨s, sX, sY⟩ := bt_starts hp H ht hk (d := d) (by omega) (nI p) e
    by_cases z : s = 0
    · obtain ⟨r, rX, rY⟩ := ih (d + 1) (by omega) x
      exact ⟨r, fun post h => br_f h16 (sX _ (br_t z (nm_r (nI_1 d) (rX post h)))), fun post h => br_f h16 (bt_tickY hp ht (br_f bt_01 (bt_keyY hk (br_f bt_01 (sY _ (br_t z (nm_r (nI_1 d) (rY post h))))))))⟩
    · obtain ⟨r, rX, rY⟩ := ih (d + 1) (by omega) (x + 1)
      exact ⟨r, fun post h => br_f h16 (sX _ (br_f z (nm_e (nm_r (nI_1 d) (rX post h))))), fun post h => br_f h16 (bt_tickY hp ht (br_f bt_01 (bt_keyY hk (br_f bt_01 (sY _ (br_f z (nm_e (nm_r (nI_1 d) (rY post h)))))))))⟩
theorem bt_first {p t k : Nat} {a b : Nat → Int32} (hp : p ≤ 60) (H : bt_H p a b) (ht : t ≤ p) (hk : k < 4) (e i : Int32) : ∀ m d : Nat, d + m = 16 → ∀ x : Int32, ∃ r : Int32, (r = -1 ∨ ∃ q : Nat, q < 16 ∧ r = nI q) ∧ (∀ post : Int32 → Prop, post r → wX_firstDay_5 post (nI (64 * t + 16 * k)) i (nI p) e a (m + 1) x (nI d)) ∧ (∀ post : Int32 → Prop, post r → wY_periodFrom_6 post (nI t) (nI k) i (nI p) e b (m + 1) x (nI d)) := by
  intro m
  induction m with
  | zero =>
    intro d hd x
    have h : (16 : Int32) ≤ nI d := nI_le (a := 16) (by omega) (by omega)
    exact ⟨-1, Or.inl rfl, fun _ hq => br_t h hq, fun _ hq => br_t h hq⟩
  | succ m ih =>
    intro d hd x
    have h16 : ¬ (16 : Int32) ≤ nI d := nI_ge (b := 16) (by omega) (by decide)
    obtain ⟨s, sX, sY⟩ := bt_starts hp H ht hk (d := d) (by omega) (nI p) e
    by_cases z : s = 0
    · obtain ⟨r, hr, rX, rY⟩ := ih (d + 1) (by omega) x
      exact ⟨r, hr, fun post h => br_f h16 (sX _ (br_t z (nm_r (nI_1 d) (rX post h)))), fun post h => br_f h16 (bt_tickY hp ht (br_f bt_01 (bt_keyY hk (br_f bt_01 (sY _ (br_t z (nm_r (nI_1 d) (rY post h))))))))⟩
    · by_cases w : x = i
      · exact ⟨nI d, Or.inr ⟨d, by omega, rfl⟩, fun post h => br_f h16 (sX _ (br_f z (br_t w h))), fun post h => br_f h16 (bt_tickY hp ht (br_f bt_01 (bt_keyY hk (br_f bt_01 (sY _ (br_f z (br_t w h)))))))⟩
      · obtain ⟨r, hr, rX, rY⟩ := ih (d + 1) (by omega) (x + 1)
        exact ⟨r, hr, fun post h => br_f h16 (sX _ (br_f z (br_f w (nm_e (nm_r (nI_1 d) (rX post h)))))), fun post h => br_f h16 (bt_tickY hp ht (br_f bt_01 (bt_keyY hk (br_f bt_01 (sY _ (br_f z (br_f w (nm_e (nm_r (nI_1 d) (rY post h))))))))))⟩
theorem bt_endL {p t k q : Nat} {a b : Nat → Int32} (hp : p ≤ 60) (H : bt_H p a b) (ht : t ≤ p) (hk : k < 4) (hq : q < 16) (f e : Int32) : ∀ m d : Nat, d + m = 16 → ∃ r : Int32, (∀ post : Int32 → Prop, post r → wX_dayAfter_14 post (nI (64 * t + 16 * k)) (a (64 * t + 16 * k + q)) f e a (m + 1) (nI d)) ∧ (∀ post : Int32 → Prop, post r → wY_end_3 post (nI t) (nI k) (nI q) f e b (m + 1) (nI d)) := by
  have ht' : t ≤ 60 := by omega
  have hcq := H (64 * t + 16 * k + q) (by omega)
  intro m
  induction m with
  | zero =>
    intro d hd
    obtain rfl : d = 16 := by omega
    have h : (16 : Int32) ≤ nI 16 := nI_le (a := 16) (by omega) (by omega)
    exact ⟨nI 16, fun _ hq => br_t h hq, fun _ hq => br_t h hq⟩
  | succ m ih =>
    intro d hd
    have h16 : ¬ (16 : Int32) ≤ nI d := nI_ge (b := 16) (by omega) (by decide)
    have hd' : d < 16 := by omega
    have hc := H (64 * t + 16 * k + d) (by omega)
    have hi : vp_in (nI (64 * t + 16 * k) + nI d) 3904 := bt_in (by omega)
    have hl : a (nI (64 * t + 16 * k) + nI d).toNatClampNeg = a (64 * t + 16 * k + d) := by rw [bt_cl (by omega)]
    by_cases w : a (64 * t + 16 * k + d) = a (64 * t + 16 * k + q)
    · obtain ⟨r, rX, rY⟩ := ih (d + 1) (by omega)
      exact ⟨r, fun post h => br_f h16 ⟨hi, br_t (hl.trans w) (nm_r (nI_1 d) (rX post h))⟩, fun post h => br_f h16 (bt_ycell ht' hk hd' (bt_ycell ht' hk hq (br_t ((bt_eq hc hcq).mpr w) (nm_r (nI_1 d) (rY post h)))))⟩
    · exact ⟨nI d, fun post h => br_f h16 ⟨hi, br_f (fun g => w (hl.symm.trans g)) h⟩, fun post h => br_f h16 (bt_ycell ht' hk hd' (bt_ycell ht' hk hq (br_f (fun g => w ((bt_eq hc hcq).mp g)) h)))⟩
theorem bt_end {p t k q : Nat} {a b : Nat → Int32} (hp : p ≤ 60) (H : bt_H p a b) (ht : t ≤ p) (hk : k < 4) (hq : q < 16) (f e : Int32) : ∃ r : Int32, (∀ post : Int32 → Prop, post r → wpX_dayAfter post (f, e, a) (nI (64 * t + 16 * k)) (nI q)) ∧ (∀ post : Int32 → Prop, post r → wpY_end post (f, e, b) (nI t) (nI k) (nI q)) := by
  have ht' : t ≤ 60 := by omega
  obtain ⟨r, rX, rY⟩ := bt_endL hp H ht hk hq f e (15 - q) (q + 1) (by omega)
  have hi : vp_in (nI (64 * t + 16 * k) + nI q) 3904 := bt_in (by omega)
  have hl : a (nI (64 * t + 16 * k) + nI q).toNatClampNeg = a (64 * t + 16 * k + q) := by rw [bt_cl (by omega)]
  have h16 : ¬ (16 : Int32) ≤ nI q := nI_ge (b := 16) (by omega) (by decide)
  exact ⟨r, fun post h => ⟨hi, nm_r hl (nm_r (nI_1 q) ⟨_, rX post h⟩)⟩, fun post h => ⟨15 - q + 1 + 1, br_f h16 (bt_ycell ht' hk hq (bt_ycell ht' hk hq (br_t rfl (nm_r (nI_1 q) (rY post h)))))⟩⟩
theorem bt_era0 {f e k q : Int32} {a : Nat → Int32} {post : Int32 → Prop} (h : post 1) : wpX_eraStarts post (f, e, a) (nI 0) k q := br_t nI_0 h
theorem bt_eraE {s k q : Nat} (hs : s + 1 ≤ 60) (hk : k < 4) (hq : q < 16) {f e : Int32} {a : Nat → Int32} (w : a (64 * (s + 1) + 16 * k + q) = a (64 * s + 16 * k + q)) {post : Int32 → Prop} (h : post 0) : wpX_eraStarts post (f, e, a) (nI (s + 1)) (nI k) (nI q) := by
  refine br_f (nI_ne0 (by omega) (by omega)) (bt_rowOf ?_)
  rw [bt_rm, bt_cl (by omega), bt_cl (by omega)]
  exact ⟨bt_in (by omega), bt_in (by omega), br_t w h⟩
theorem bt_eraN {s k q : Nat} (hs : s + 1 ≤ 60) (hk : k < 4) (hq : q < 16) {f e : Int32} {a : Nat → Int32} (w : ¬ a (64 * (s + 1) + 16 * k + q) = a (64 * s + 16 * k + q)) {post : Int32 → Prop} (h : post 1) : wpX_eraStarts post (f, e, a) (nI (s + 1)) (nI k) (nI q) := by
  refine br_f (nI_ne0 (by omega) (by omega)) (bt_rowOf ?_)
  rw [bt_rm, bt_cl (by omega), bt_cl (by omega)]
  exact ⟨bt_in (by omega), bt_in (by omega), br_f w h⟩
theorem bt_eras {p k q : Nat} {a b : Nat → Int32} (hp : p ≤ 60) (H : bt_H p a b) (hk : k < 4) (hq : q < 16) (e : Int32) : ∀ m t : Nat, t + m = p + 1 → ∀ x : Int32, ∃ r : Int32, (∀ post : Int32 → Prop, post r → wX_eras_21 post (nI k) (nI q) (nI p) e a (m + 1) x (nI t)) ∧ (∀ post : Int32 → Prop, post r → wY_eras_5 post (nI k) (nI q) (nI p) e b (m + 1) x (nI t)) := by
  intro m
  induction m with
  | zero =>
    intro t ht x
    have h : nI p < nI t := nI_lt (by omega) (by omega)
    exact ⟨x, fun _ hq => br_t h hq, fun _ hq => br_t h hq⟩
  | succ m ih =>
    intro t ht x
    have hn : ¬ nI p < nI t := nI_nlt (by omega) (by omega)
    cases t with
    | zero =>
      obtain ⟨r, rX, rY⟩ := ih (0 + 1) (by omega) (x + 1)
      exact ⟨r, fun post h => br_f hn (bt_era0 (br_f bt_01 (nm_e (nm_r (nI_1 0) (rX post h))))), fun post h => br_f hn (bt_keyY hk (br_f bt_01 (bt_dayY hq (br_t nI_0 (nm_e (nm_r (nI_1 0) (rY post h)))))))⟩
    | succ s =>
      have n0 : ¬ nI (s + 1) = 0 := nI_ne0 (by omega) (by omega)
      have h1 := H (64 * (s + 1) + 16 * k + q) (by omega)
      have h0 := H (64 * s + 16 * k + q) (by omega)
      by_cases w : a (64 * (s + 1) + 16 * k + q) = a (64 * s + 16 * k + q)
      · obtain ⟨r, rX, rY⟩ := ih (s + 1 + 1) (by omega) x
        refine ⟨r, fun post h => br_f hn (bt_eraE (by omega) hk hq w (br_t rfl (nm_r (nI_1 (s + 1)) (rX post h)))), fun post h => br_f hn (bt_keyY hk (br_f bt_01 (bt_dayY hq (br_f n0 (bt_ycell (by omega) hk hq ?_)))))⟩
        rw [nI_pred]
        exact bt_ycell (by omega) hk hq (br_t ((bt_eq h1 h0).mpr w) (nm_r (nI_1 (s + 1)) (rY post h)))
      · obtain ⟨r, rX, rY⟩ := ih (s + 1 + 1) (by omega) (x + 1)
        refine ⟨r, fun post h => br_f hn (bt_eraN (by omega) hk hq w (br_f bt_01 (nm_e (nm_r (nI_1 (s + 1)) (rX post h))))), fun post h => br_f hn (bt_keyY hk (br_f bt_01 (bt_dayY hq (br_f n0 (bt_ycell (by omega) hk hq ?_)))))⟩
        rw [nI_pred]
        exact bt_ycell (by omega) hk hq (br_f (fun g => w ((bt_eq h1 h0).mp g)) (nm_e (nm_r (nI_1 (s + 1)) (rY post h))))
theorem bt_eraFrom {p k q : Nat} {a b : Nat → Int32} (hp : p ≤ 60) (H : bt_H p a b) (hk : k < 4) (hq : q < 16) (e i : Int32) : ∀ m t : Nat, t + m = p + 1 → ∀ x : Int32, ∃ r : Int32, (∀ post : Int32 → Prop, post r → wX_eraFrom_22 post (nI k) (nI q) i (nI p) e a (m + 1) x (nI t)) ∧ (∀ post : Int32 → Prop, post r → wY_eraFrom_6 post (nI k) (nI q) i (nI p) e b (m + 1) x (nI t)) := by
  intro m
  induction m with
  | zero =>
    intro t ht x
    have h : nI p < nI t := nI_lt (by omega) (by omega)
    exact ⟨-1, fun _ hq => br_t h hq, fun _ hq => br_t h hq⟩
  | succ m ih =>
    intro t ht x
    have hn : ¬ nI p < nI t := nI_nlt (by omega) (by omega)
    cases t with
    | zero =>
      by_cases v : x = i
      · exact ⟨nI 0, fun post h => br_f hn (bt_era0 (br_f bt_01 (br_t v h))), fun post h => br_f hn (bt_keyY hk (br_f bt_01 (bt_dayY hq (br_t nI_0 (br_t v h)))))⟩
      · obtain ⟨r, rX, rY⟩ := ih (0 + 1) (by omega) (x + 1)
        exact ⟨r, fun post h => br_f hn (bt_era0 (br_f bt_01 (br_f v (nm_e (nm_r (nI_1 0) (rX post h)))))), fun post h => br_f hn (bt_keyY hk (br_f bt_01 (bt_dayY hq (br_t nI_0 (br_f v (nm_e (nm_r (nI_1 0) (rY post h))))))))⟩
    | succ s =>
      have n0 : ¬ nI (s + 1) = 0 := nI_ne0 (by omega) (by omega)
      have h1 := H (64 * (s + 1) + 16 * k + q) (by omega)
      have h0 := H (64 * s + 16 * k + q) (by omega)
      by_cases w : a (64 * (s + 1) + 16 * k + q) = a (64 * s + 16 * k + q)
      · obtain ⟨r, rX, rY⟩ := ih (s + 1 + 1) (by omega) x
        refine ⟨r, fun post h => br_f hn (bt_eraE (by omega) hk hq w (br_t rfl (nm_r (nI_1 (s + 1)) (rX post h)))), fun post h => br_f hn (bt_keyY hk (br_f bt_01 (bt_dayY hq (br_f n0 (bt_ycell (by omega) hk hq ?_)))))⟩
        rw [nI_pred]
        exact bt_ycell (by omega) hk hq (br_t ((bt_eq h1 h0).mpr w) (nm_r (nI_1 (s + 1)) (rY post h)))
      · have w' : ¬ b (64 * (s + 1) + 16 * k + q) = b (64 * s + 16 * k + q) := fun g => w ((bt_eq h1 h0).mp g)
        by_cases v : x = i
        · refine ⟨nI (s + 1), fun post h => br_f hn (bt_eraN (by omega) hk hq w (br_f bt_01 (br_t v h))), fun post h => br_f hn (bt_keyY hk (br_f bt_01 (bt_dayY hq (br_f n0 (bt_ycell (by omega) hk hq ?_)))))⟩
          rw [nI_pred]
          exact bt_ycell (by omega) hk hq (br_f w' (br_t v h))
        · obtain ⟨r, rX, rY⟩ := ih (s + 1 + 1) (by omega) (x + 1)
          refine ⟨r, fun post h => br_f hn (bt_eraN (by omega) hk hq w (br_f bt_01 (br_f v (nm_e (nm_r (nI_1 (s + 1)) (rX post h)))))), fun post h => br_f hn (bt_keyY hk (br_f bt_01 (bt_dayY hq (br_f n0 (bt_ycell (by omega) hk hq ?_)))))⟩
          rw [nI_pred]
          exact bt_ycell (by omega) hk hq (br_f w' (br_f v (nm_e (nm_r (nI_1 (s + 1)) (rY post h)))))
end
section
theorem bt_diff {p t u k : Nat} {a b : Nat → Int32} (hp : p ≤ 60) (H : bt_H p a b) (ht : t ≤ p) (hu : u ≤ p) (hk : k < 4) (f e : Int32) : ∀ m d : Nat, d + m = 16 → ∀ x : Int32, ∃ r : Int32, (∀ post : Int32 → Prop, post r → wX_difference_46 post (nI (64 * t + 16 * k)) (nI (64 * u + 16 * k)) f e a (m + 1) x (nI d)) ∧ (∀ post : Int32 → Prop, post r → wY_difference_33 post (nI t) (nI u) (nI k) f e b (m + 1) x (nI d)) := by
  have ht' : t ≤ 60 := by omega
  have hu' : u ≤ 60 := by omega
  intro m
  induction m with
  | zero =>
    intro d hd x
    have h : (16 : Int32) ≤ nI d := nI_le (a := 16) (by omega) (by omega)
    exact ⟨x, fun _ hq => br_t h hq, fun _ hq => br_t h hq⟩
  | succ m ih =>
    intro d hd x
    have h16 : ¬ (16 : Int32) ≤ nI d := nI_ge (b := 16) (by omega) (by decide)
    have hd' : d < 16 := by omega
    have hc := H (64 * t + 16 * k + d) (by omega)
    have hc' := H (64 * u + 16 * k + d) (by omega)
    have hi : vp_in (nI (64 * t + 16 * k) + nI d) 3904 := bt_in (by omega)
    have hl : a (nI (64 * t + 16 * k) + nI d).toNatClampNeg = a (64 * t + 16 * k + d) := by rw [bt_cl (by omega)]
    have hi' : vp_in (nI (64 * u + 16 * k) + nI d) 3904 := bt_in (by omega)
    have hl' : a (nI (64 * u + 16 * k) + nI d).toNatClampNeg = a (64 * u + 16 * k + d) := by rw [bt_cl (by omega)]
    by_cases w : a (64 * t + 16 * k + d) = a (64 * u + 16 * k + d)
    · obtain ⟨r, rX, rY⟩ := ih (d + 1) (by omega) x
      exact ⟨r, fun post h => br_f h16 ⟨hi, hi', br_t ((hl.trans w).trans hl'.symm) (nm_r (nI_1 d) (rX post h))⟩, fun post h => br_f h16 (bt_ycell ht' hk hd' (bt_ycell hu' hk hd' (br_t ((bt_eq hc hc').mpr w) (nm_r (nI_1 d) (rY post h)))))⟩
    · obtain ⟨r, rX, rY⟩ := ih (d + 1) (by omega) (x + 1)
      exact ⟨r, fun post h => br_f h16 ⟨hi, hi', br_f (fun g => w ((hl.symm.trans g).trans hl')) (nm_e (nm_r (nI_1 d) (rX post h)))⟩, fun post h => br_f h16 (bt_ycell ht' hk hd' (bt_ycell hu' hk hd' (br_f (fun g => w ((bt_eq hc hc').mp g)) (nm_e (nm_r (nI_1 d) (rY post h))))))⟩
theorem bt_64 (t d : Nat) : 64 * nI t + nI d = nI (64 * t + d) := by
  rw [show (64 : Int32) = nI 64 from rfl, pk_mul, nI_add]
theorem bt_46 (t : Nat) : nI t * 64 = nI (64 * t) := by
  rw [show (64 : Int32) = nI 64 from rfl, pk_mul, Nat.mul_comm]
theorem bt_count {p t w : Nat} {a b : Nat → Int32} (hp : p ≤ 60) (H : bt_H p a b) (ht : t ≤ p) (hw : w < 10) (e : Int32) : ∀ m d : Nat, d + m = 64 → ∀ x : Int32, ∃ r : Int32, (∀ post : Int32 → Prop, post r → wX_count_28 post (nI w) (nI (64 * t)) (nI p) e a (m + 1) x (nI d)) ∧ (∀ post : Int32 → Prop, post r → wY_count_5 post (nI t) (nI w) (nI p) e b (m + 1) x (nI d)) := by
  intro m
  induction m with
  | zero =>
    intro d hd x
    have h : (64 : Int32) ≤ nI d := nI_le (a := 64) (by omega) (by omega)
    exact ⟨x, fun _ hq => br_t h hq, fun _ hq => br_t h hq⟩
  | succ m ih =>
    intro d hd x
    have h64 : ¬ (64 : Int32) ≤ nI d := nI_ge (b := 64) (by omega) (by decide)
    have hc := H (64 * t + d) (by omega)
    have hi : vp_in (nI (64 * t) + nI d) 3904 := bt_in (by omega)
    have hl : a (nI (64 * t) + nI d).toNatClampNeg = a (64 * t + d) := by rw [bt_cl (by omega)]
    have hi' : vp_in (64 * nI t + nI d) 3904 := by
      rw [bt_64]
      exact vp_in_nI (by omega) (by decide)
    have hl' : b (64 * nI t + nI d).toNatClampNeg = b (64 * t + d) := by rw [bt_64, nI_clamp (by omega)]
    by_cases z : a (64 * t + d) = nI w
    · obtain ⟨r, rX, rY⟩ := ih (d + 1) (by omega) (x + 1)
      exact ⟨r, fun post h => br_f h64 ⟨hi, br_t (hl.trans z) (nm_e (nm_r (nI_1 d) (rX post h)))⟩, fun post h => br_f h64 (bt_tickY hp ht (br_f bt_01 (bt_valY hw ⟨hi', br_t (hl'.trans ((bt_val hc).mpr z)) (nm_e (nm_r (nI_1 d) (rY post h)))⟩)))⟩
    · obtain ⟨r, rX, rY⟩ := ih (d + 1) (by omega) x
      exact ⟨r, fun post h => br_f h64 ⟨hi, br_f (fun g => z (hl.symm.trans g)) (nm_r (nI_1 d) (rX post h))⟩, fun post h => br_f h64 (bt_tickY hp ht (br_f bt_01 (bt_valY hw ⟨hi', br_f (fun g => z ((bt_val hc).mp (hl'.symm.trans g))) (nm_r (nI_1 d) (rY post h))⟩)))⟩
theorem bt_agree {p t k l : Nat} {a b : Nat → Int32} (hp : p ≤ 60) (H : bt_H p a b) (ht : t ≤ p) (hk : k < 4) (hm : l < 4) (e : Int32) : ∀ m d : Nat, d + m = 16 → ∀ x : Int32, ∃ r : Int32, (∀ post : Int32 → Prop, post r → wX_agree_44 post (nI (64 * t + 16 * k)) (nI (64 * t + 16 * l)) (nI p) e a (m + 1) x (nI d)) ∧ (∀ post : Int32 → Prop, post r → wY_agree_6 post (nI t) (nI k) (nI l) (nI p) e b (m + 1) x (nI d)) := by
  have ht' : t ≤ 60 := by omega
  intro m
  induction m with
  | zero =>
    intro d hd x
    have h : (16 : Int32) ≤ nI d := nI_le (a := 16) (by omega) (by omega)
    exact ⟨x, fun _ hq => br_t h hq, fun _ hq => br_t h hq⟩
  | succ m ih =>
    intro d hd x
    have h16 : ¬ (16 : Int32) ≤ nI d := nI_ge (b := 16) (by omega) (by decide)
    have hd' : d < 16 := by omega
    have hc := H (64 * t + 16 * k + d) (by omega)
    have hc' := H (64 * t + 16 * l + d) (by omega)
    have hi : vp_in (nI (64 * t + 16 * k) + nI d) 3904 := bt_in (by omega)
    have hl : a (nI (64 * t + 16 * k) + nI d).toNatClampNeg = a (64 * t + 16 * k + d) := by rw [bt_cl (by omega)]
    have hi' : vp_in (nI (64 * t + 16 * l) + nI d) 3904 := bt_in (by omega)
    have hl' : a (nI (64 * t + 16 * l) + nI d).toNatClampNeg = a (64 * t + 16 * l + d) := by rw [bt_cl (by omega)]
    by_cases z : a (64 * t + 16 * k + d) = -1
    · obtain ⟨r, rX, rY⟩ := ih (d + 1) (by omega) x
      exact ⟨r, fun post h => br_f h16 ⟨hi, nm_r hl (br_t z (nm_r (nI_1 d) (rX post h)))⟩, fun post h => br_f h16 (bt_tickY hp ht (br_f bt_01 (bt_keyY hk (br_f bt_01 (bt_keyY hm (br_f bt_01 (bt_ycell ht' hk hd' (br_t ((bt_none hc).mpr z) (nm_r (nI_1 d) (rY post h))))))))))⟩
    · have z' : ¬ b (64 * t + 16 * k + d) ≤ 0 := fun q => z ((bt_none hc).mp q)
      by_cases w : a (64 * t + 16 * k + d) = a (64 * t + 16 * l + d)
      · obtain ⟨r, rX, rY⟩ := ih (d + 1) (by omega) (x ||| ((1 : Int32) <<< (nI d &&& 31)))
        exact ⟨r, fun post h => br_f h16 ⟨hi, nm_r hl (br_f z ⟨hi', br_t (w.trans hl'.symm) (nm_e (nm_r (nI_1 d) (rX post h)))⟩)⟩, fun post h => br_f h16 (bt_tickY hp ht (br_f bt_01 (bt_keyY hk (br_f bt_01 (bt_keyY hm (br_f bt_01 (bt_ycell ht' hk hd' (br_f z' (bt_ycell ht' hk hd' (bt_ycell ht' hm hd' (br_t ((bt_eq hc hc').mpr w) (nm_e (nm_r (nI_1 d) (rY post h))))))))))))))⟩
      · obtain ⟨r, rX, rY⟩ := ih (d + 1) (by omega) x
        exact ⟨r, fun post h => br_f h16 ⟨hi, nm_r hl (br_f z ⟨hi', br_f (fun g => w (g.trans hl')) (nm_r (nI_1 d) (rX post h))⟩)⟩, fun post h => br_f h16 (bt_tickY hp ht (br_f bt_01 (bt_keyY hk (br_f bt_01 (bt_keyY hm (br_f bt_01 (bt_ycell ht' hk hd' (br_f z' (bt_ycell ht' hk hd' (bt_ycell ht' hm hd' (br_f (fun g => w ((bt_eq hc hc').mp g)) (nm_r (nI_1 d) (rY post h)))))))))))))⟩
theorem bt_stood {p t k q : Nat} {a b : Nat → Int32} (hp : p ≤ 60) (H : bt_H p a b) (ht : t ≤ p) (hk : k < 4) (hq : q < 16) (f e : Int32) : ∃ r : Int32, (∀ post : Int32 → Prop, post r → wpX_stoodBefore post (f, e, a) (nI t) (nI k) (nI q)) ∧ (∀ post : Int32 → Prop, post r → wpY_lasts post (f, e, b) (nI t) (nI k) (nI q)) := by
  cases t with
  | zero => exact ⟨0, fun post h => br_t nI_0 h, fun post h => br_t (nI_le (a := 0) (b := 0) (by omega) (by omega)) h⟩
  | succ s =>
    have n0 : ¬ nI (s + 1) = 0 := nI_ne0 (by omega) (by omega)
    have n1 : ¬ nI (s + 1) ≤ 0 := nI_nle (by omega) (by omega)
    have hs' : s ≤ 60 := by omega
    have ht' : s + 1 ≤ 60 := by omega
    have hc := H (64 * s + 16 * k + q) (by omega)
    have hc' := H (64 * (s + 1) + 16 * k + q) (by omega)
    have hi : vp_in (nI (64 * s + 16 * k) + nI q) 3904 := bt_in (by omega)
    have hl : a (nI (64 * s + 16 * k) + nI q).toNatClampNeg = a (64 * s + 16 * k + q) := by rw [bt_cl (by omega)]
    have hi' : vp_in (nI (64 * (s + 1) + 16 * k) + nI q) 3904 := bt_in (by omega)
    have hl' : a (nI (64 * (s + 1) + 16 * k) + nI q).toNatClampNeg = a (64 * (s + 1) + 16 * k + q) := by rw [bt_cl (by omega)]
    obtain ⟨g, gX, gY⟩ := bt_starts hp H (t := s) (by omega) hk hq f e
    obtain ⟨i, iX, iY⟩ := bt_end hp H (t := s) (by omega) hk hq f e
    obtain ⟨j, jX, jY⟩ := bt_end hp H (t := s + 1) (by omega) hk hq f e
    by_cases z : g = 0
    · refine ⟨0, fun post h => br_f n0 (bt_rowOf (nm_r (bt_rm s k) (gX _ (br_t z h)))), fun post h => br_f n1 ?_⟩
      rw [nI_pred]
      exact gY _ (br_t z h)
    · by_cases w : a (64 * s + 16 * k + q) = a (64 * (s + 1) + 16 * k + q)
      · by_cases y : i = j
        · refine ⟨1, fun post h => br_f n0 (bt_rowOf (nm_r (bt_rm s k) (gX _ (br_f z ⟨hi, hi', br_t ((hl.trans w).trans hl'.symm) (iX _ (jX _ (br_t y h)))⟩)))), fun post h => br_f n1 ?_⟩
          rw [nI_pred]
          exact gY _ (br_f z (bt_ycell hs' hk hq (bt_ycell ht' hk hq (br_t ((bt_eq hc hc').mpr w) (iY _ (jY _ (br_t y h)))))))
        · refine ⟨0, fun post h => br_f n0 (bt_rowOf (nm_r (bt_rm s k) (gX _ (br_f z ⟨hi, hi', br_t ((hl.trans w).trans hl'.symm) (iX _ (jX _ (br_f y h)))⟩)))), fun post h => br_f n1 ?_⟩
          rw [nI_pred]
          exact gY _ (br_f z (bt_ycell hs' hk hq (bt_ycell ht' hk hq (br_t ((bt_eq hc hc').mpr w) (iY _ (jY _ (br_f y h)))))))
      · refine ⟨0, fun post h => br_f n0 (bt_rowOf (nm_r (bt_rm s k) (gX _ (br_f z ⟨hi, hi', br_f (fun o => w ((hl.symm.trans o).trans hl')) h⟩)))), fun post h => br_f n1 ?_⟩
        rw [nI_pred]
        exact gY _ (br_f z (bt_ycell hs' hk hq (bt_ycell ht' hk hq (br_f (fun o => w ((bt_eq hc hc').mp o)) h))))
theorem bt_rectI {p t k : Nat} {a b : Nat → Int32} (hp : p ≤ 60) (H : bt_H p a b) (ht : t ≤ p) (hk : k < 4) (f e : Int32) : ∀ m d : Nat, d + m = 16 → ∀ x : Int32, ∃ r : Int32, (∀ (post : Int32 → Prop) (J : Int32 → Int32 → Prop), J r (nI (t + 1)) → wX_rectangles_31 post J (nI k) (nI t) (nI (64 * t + 16 * k)) f e a (m + 1) x (nI d)) ∧ (∀ (post : Int32 → Prop) (J : Int32 → Int32 → Prop), J r (nI (t + 1)) → wY_rectangles_23 post J (nI k) (nI t) f e b (m + 1) x (nI d)) := by
  intro m
  induction m with
  | zero =>
    intro d hd x
    have h : (16 : Int32) ≤ nI d := nI_le (a := 16) (by omega) (by omega)
    exact ⟨x, fun _ _ hq => br_t h (nm_r (nI_1 t) hq), fun _ _ hq => br_t h (nm_r (nI_1 t) hq)⟩
  | succ m ih =>
    intro d hd x
    have h16 : ¬ (16 : Int32) ≤ nI d := nI_ge (b := 16) (by omega) (by decide)
    obtain ⟨s, sX, sY⟩ := bt_starts hp H ht hk (d := d) (by omega) f e
    obtain ⟨g, gX, gY⟩ := bt_stood hp H ht hk (q := d) (by omega) f e
    by_cases z : s = 0
    · obtain ⟨r, rX, rY⟩ := ih (d + 1) (by omega) x
      exact ⟨r, fun post J h => br_f h16 (sX _ (br_t z (nm_r (nI_1 d) (rX post J h)))), fun post J h => br_f h16 (sY _ (br_t z (nm_r (nI_1 d) (rY post J h))))⟩
    · by_cases w : g = 0
      · obtain ⟨r, rX, rY⟩ := ih (d + 1) (by omega) (x + 1)
        exact ⟨r, fun post J h => br_f h16 (sX _ (br_f z (gX _ (br_t w (nm_e (nm_r (nI_1 d) (rX post J h))))))), fun post J h => br_f h16 (sY _ (br_f z (gY _ (br_t w (nm_e (nm_r (nI_1 d) (rY post J h)))))))⟩
      · obtain ⟨r, rX, rY⟩ := ih (d + 1) (by omega) x
        exact ⟨r, fun post J h => br_f h16 (sX _ (br_f z (gX _ (br_f w (nm_r (nI_1 d) (rX post J h)))))), fun post J h => br_f h16 (sY _ (br_f z (gY _ (br_f w (nm_r (nI_1 d) (rY post J h))))))⟩
theorem bt_rect {p k : Nat} {a b : Nat → Int32} (hp : p ≤ 60) (H : bt_H p a b) (hk : k < 4) (e : Int32) : ∀ m t : Nat, t + m = p + 1 → ∀ x : Int32, ∃ r : Int32, (∀ post : Int32 → Prop, post r → wX_rectangles_13 post (nI k) (nI p) e a (m + 1) x (nI t)) ∧ (∀ post : Int32 → Prop, post r → wY_rectangles_4 post (nI k) (nI p) e b (m + 1) x (nI t)) := by
  intro m
  induction m with
  | zero =>
    intro t ht x
    have h : nI p < nI t := nI_lt (by omega) (by omega)
    exact ⟨x, fun _ hq => br_t h hq, fun _ hq => br_t h hq⟩
  | succ m ih =>
    intro t ht x
    have hn : ¬ nI p < nI t := nI_nlt (by omega) (by omega)
    obtain ⟨s, sX, sY⟩ := bt_rectI hp H (t := t) (by omega) hk (nI p) e 16 0 rfl x
    obtain ⟨r, rX, rY⟩ := ih (t + 1) (by omega) s
    exact ⟨r, fun post h => br_f hn (bt_rowOf ⟨17, sX post _ (rX post h)⟩), fun post h => br_f hn (bt_keyY hk (br_f bt_01 ⟨17, sY post _ (rY post h)⟩))⟩
end
section
theorem bt_init : ∀ m i : Nat, i + m = 64 → ∀ a : Nat → Int32, (∀ j : Nat, j < i → a j = -1) → ∃ a' : Nat → Int32, (∀ j : Nat, j < 64 → a' j = -1) ∧ (∀ post : SX → Prop, post (0, 0, a') → wX_init_15 post 0 0 (m + 1) (nI i) a) := by
  intro m
  induction m with
  | zero =>
    intro i hi a ha
    have h : (64 : Int32) ≤ nI i := nI_le (a := 64) (by omega) (by omega)
    exact ⟨a, fun j hj => ha j (by omega), fun _ hq => br_t h hq⟩
  | succ m ih =>
    intro i hi a ha
    have h64 : ¬ (64 : Int32) ≤ nI i := nI_ge (b := 64) (by omega) (by decide)
    have hin : vp_in (nI i) 3904 := vp_in_nI (by omega) (by decide)
    have e : upd a (nI i).toNatClampNeg (-1) = upd a i (-1) := by rw [nI_clamp (by omega)]
    obtain ⟨a', h', rX⟩ := ih (i + 1) (by omega) (upd a i (-1)) (by
      intro j hj
      by_cases g : j = i
      · subst g
        exact pk_us
      · rw [pk_un g]
        exact ha j (by omega))
    exact ⟨a', h', fun post h => br_f h64 ⟨hin, nm_r e (nm_r (nI_1 i) (rX post h))⟩⟩
theorem bt_tk (p d : Nat) : 64 * nI (p + 1) - 64 + nI d = nI (64 * p + d) := by
  rw [show (64 : Int32) = nI 64 from rfl, pk_mul, pk_sub (by omega), nI_add, show 64 * (p + 1) - 64 + d = 64 * p + d from by omega]
theorem bt_tick {p : Nat} (hp : p < 60) (e : Int32) : ∀ m i : Nat, i + m = 64 → ∀ a b : Nat → Int32, (∀ j : Nat, j < 64 * (p + 1) + i → bt_cell (a j) (b j)) → ∃ a' b' : Nat → Int32, bt_H (p + 1) a' b' ∧ (∀ post : Int32 → SX → Prop, post (nI (p + 1)) (nI (p + 1), e, a') → wX_tick_27 post (nI (64 * p)) (nI (64 * (p + 1))) (nI p) e (m + 1) (nI i) a) ∧ (∀ post : Int32 → SY → Prop, post (nI (p + 1)) (nI (p + 1), e, b') → wY_tick_24 post (nI (p + 1)) e (m + 1) (nI i) b) := by
  intro m
  induction m with
  | zero =>
    intro i hi a b H
    have h : (64 : Int32) ≤ nI i := nI_le (a := 64) (by omega) (by omega)
    exact ⟨a, b, fun j hj => H j (by omega), fun _ hq => br_t h (nm_r (nI_1 p) hq), fun _ hq => br_t h hq⟩
  | succ m ih =>
    intro i hi a b H
    have h64 : ¬ (64 : Int32) ≤ nI i := nI_ge (b := 64) (by omega) (by decide)
    have x1 : vp_in (nI (64 * p) + nI i) 3904 := bt_in (by omega)
    have x2 : vp_in (nI (64 * (p + 1)) + nI i) 3904 := bt_in (by omega)
    have y1 : vp_in (64 * nI (p + 1) - 64 + nI i) 3904 := by
      rw [bt_tk]
      exact vp_in_nI (by omega) (by decide)
    have y2 : vp_in (64 * nI (p + 1) + nI i) 3904 := by
      rw [bt_64]
      exact vp_in_nI (by omega) (by decide)
    have ex : upd a (nI (64 * (p + 1)) + nI i).toNatClampNeg (a (nI (64 * p) + nI i).toNatClampNeg) = upd a (64 * (p + 1) + i) (a (64 * p + i)) := by
      rw [bt_cl (by omega), bt_cl (by omega)]
    have ey : upd b (64 * nI (p + 1) + nI i).toNatClampNeg (b (64 * nI (p + 1) - 64 + nI i).toNatClampNeg) = upd b (64 * (p + 1) + i) (b (64 * p + i)) := by
      rw [bt_tk, bt_64, nI_clamp (by omega), nI_clamp (by omega)]
    obtain ⟨a', b', h', rX, rY⟩ := ih (i + 1) (by omega) (upd a (64 * (p + 1) + i) (a (64 * p + i))) (upd b (64 * (p + 1) + i) (b (64 * p + i))) (by
      intro j hj
      by_cases g : j = 64 * (p + 1) + i
      · subst g
        rw [pk_us, pk_us]
        exact H (64 * p + i) (by omega)
      · rw [pk_un g, pk_un g]
        exact H j (by omega))
    exact ⟨a', b', h', fun post h => br_f h64 ⟨x1, x2, nm_r ex (nm_r (nI_1 i) (rX post h))⟩, fun post h => br_f h64 ⟨y1, y2, nm_r ey (nm_r (nI_1 i) (rY post h))⟩⟩
theorem bt_change {p k hi : Nat} (hp : p ≤ 60) (hk : k < 4) (hh : hi ≤ 16) {sx sy : Int32} (hs : bt_cell sx sy) (e : Int32) : ∀ m d : Nat, d + m = hi → ∀ (x : Int32) (a b : Nat → Int32), bt_H p a b → ∃ (r : Int32) (a' b' : Nat → Int32), bt_H p a' b' ∧ (∀ post : Int32 → SX → Prop, post r (nI p, e, a') → wX_change_56 post (nI hi) sx (nI (64 * p + 16 * k)) (nI p) e (m + 1) x (nI d) a) ∧ (∀ post : Int32 → SY → Prop, post r (nI p, e, b') → wY_change_28 post (nI k) (nI hi) sy (nI p) e (m + 1) x (nI d) b) := by
  intro m
  induction m with
  | zero =>
    intro d hd x a b H
    have h : nI hi ≤ nI d := nI_le (by omega) (by omega)
    exact ⟨x, a, b, H, fun _ hq => br_t h hq, fun _ hq => br_t h hq⟩
  | succ m ih =>
    intro d hd x a b H
    have hn : ¬ nI hi ≤ nI d := nI_ge (by omega) (by omega)
    have hc := H (64 * p + 16 * k + d) (by omega)
    have hx : vp_in (nI (64 * p + 16 * k) + nI d) 3904 := bt_in (by omega)
    have hl : a (nI (64 * p + 16 * k) + nI d).toNatClampNeg = a (64 * p + 16 * k + d) := by rw [bt_cl (by omega)]
    have hu : upd a (nI (64 * p + 16 * k) + nI d).toNatClampNeg sx = upd a (64 * p + 16 * k + d) sx := by rw [bt_cl (by omega)]
    have hy : vp_in (nI (64 * p + 16 * k + d)) 3904 := vp_in_nI (by omega) (by decide)
    have hm : b (nI (64 * p + 16 * k + d)).toNatClampNeg = b (64 * p + 16 * k + d) := by rw [nI_clamp (by omega)]
    have hv : upd b (nI (64 * p + 16 * k + d)).toNatClampNeg sy = upd b (64 * p + 16 * k + d) sy := by rw [nI_clamp (by omega)]
    by_cases w : a (64 * p + 16 * k + d) = sx
    · obtain ⟨r, a', b', h', rX, rY⟩ := ih (d + 1) (by omega) x a (upd b (64 * p + 16 * k + d) sy) (bt_updY H hs w)
      exact ⟨r, a', b', h', fun post h => br_f hn ⟨hx, br_t (hl.trans w) (nm_r (nI_1 d) (rX post h))⟩, fun post h => br_f hn (nm_r (bt_ry p k d) ⟨hy, br_t (hm.trans ((bt_eq hc hs).mpr w)) ⟨hy, nm_r hv (nm_r (nI_1 d) (rY post h))⟩⟩)⟩
    · obtain ⟨r, a', b', h', rX, rY⟩ := ih (d + 1) (by omega) (x + 1) (upd a (64 * p + 16 * k + d) sx) (upd b (64 * p + 16 * k + d) sy) (bt_upd H hs)
      exact ⟨r, a', b', h', fun post h => br_f hn ⟨hx, br_f (fun g => w (hl.symm.trans g)) ⟨hx, nm_r hu (nm_e (nm_r (nI_1 d) (rX post h)))⟩⟩, fun post h => br_f hn (nm_r (bt_ry p k d) ⟨hy, br_f (fun g => w ((bt_eq hc hs).mp (hm.symm.trans g))) ⟨hy, nm_r hv (nm_r (nI_1 d) (rY post h))⟩⟩)⟩
/-- X's change and Y's change, with good arguments: one answer, related states -/
theorem bt_chg {p c k lo hi : Nat} {a b : Nat → Int32} (hp : p ≤ 60) (hc : c ≤ 50) (H : bt_H p a b) (hk : k < 4) (hlo : lo < hi) (hhi : hi ≤ 16) {sx sy : Int32} (hs : bt_cell sx sy) : ∃ (r : Int32) (c' : Nat) (a' b' : Nat → Int32), c' ≤ 50 ∧ bt_H p a' b' ∧ (∀ post : Int32 → SX → Prop, post r (nI p, nI c', a') → wpX_change post (nI p, nI c, a) (nI k) (nI lo) (nI hi) sx) ∧ (∀ post : Int32 → SY → Prop, post r (nI p, nI c', b') → wpY_change post (nI p, nI c, b) (nI k) (nI lo) (nI hi) sy) := by
  by_cases z : c < 50
  · have l : nI c < 50 := nI_lt (b := 50) z (by decide)
    obtain ⟨r, a', b', h', rX, rY⟩ := bt_change hp hk hhi hs (nI (c + 1)) (hi - lo) lo (by omega) 0 a b H
    refine ⟨r, c + 1, a', b', by omega, h', fun post h => ?_, fun post h => br_t l (nm_r (nI_1 c) ⟨_, rY post h⟩)⟩
    unfold wpX_change
    dsimp only
    exact bt_keyX hk (br_f bt_01 (bt_spanX hlo hhi (br_f bt_01 (br_t l (nm_r (nI_1 c) (bt_rowOf ⟨_, rX post h⟩))))))
  · have l : ¬ nI c < 50 := nI_nlt (b := 50) (by omega) (by omega)
    refine ⟨-2, c, a, b, hc, H, fun post h => ?_, fun post h => br_f l h⟩
    unfold wpX_change
    dsimp only
    exact bt_keyX hk (br_f bt_01 (bt_spanX hlo hhi (br_f bt_01 (br_f l h))))
end
section
theorem i_vc0 : wpX_init (fun u => wpY_init (fun v => i_Rel 0 u v)) := by
  obtain ⟨a', h', rX⟩ := bt_init 64 0 rfl (fun _ => 0) (fun j hj => absurd hj (Nat.not_lt_zero j))
  refine ⟨65, rX _ ⟨0, 0, a', fun _ => 0, rfl, rfl, by omega, by omega, ?_⟩⟩
  intro j hj
  rw [h' j (by omega)]
  show bt_cell (-1) 0
  exact ⟨by decide, by decide⟩
theorem i_vc_tick {k : Nat} {u : SX} {v : SY} (I : i_Rel k u v) (hk : k + 5 ≤ 2560) : wpX_tick (fun r u' => wpY_tick (fun r' v' => r' = r ∧ i_Rel (k + 5) u' v') v) u := by
  obtain ⟨p, c, a, b, rfl, rfl, hp, hc, H⟩ := I
  by_cases z : p < 60
  · have l : nI p < 60 := nI_lt (b := 60) z (by decide)
    obtain ⟨a', b', h', rX, rY⟩ := bt_tick z (nI c) 64 0 rfl a b H
    have e2 : nI (64 * p) + 64 = nI (64 * (p + 1)) := nI_add (64 * p) 64
    exact br_t l (nm_r (bt_46 p) (nm_r e2 ⟨65, rX _ (br_t l (nm_r (nI_1 p) ⟨65, rY _ ⟨rfl, p + 1, c, a', b', rfl, rfl, by omega, hc, h'⟩⟩))⟩))
  · have l : ¬ nI p < 60 := nI_nlt (b := 60) (by omega) (by omega)
    exact br_f l (br_f l ⟨rfl, p, c, a, b, rfl, rfl, hp, hc, H⟩)
theorem i_vc_now {k : Nat} {u : SX} {v : SY} (I : i_Rel k u v) (hk : k + 5 ≤ 2560) : wpX_now (fun r => wpY_now (fun r' => r' = r ∧ i_Rel (k + 5) u v) v) u := by
  obtain ⟨p, c, a, b, rfl, rfl, hp, hc, H⟩ := I
  exact ⟨rfl, p, c, a, b, rfl, rfl, hp, hc, H⟩
theorem i_vc_say {k : Nat} {u : SX} {v : SY} (I : i_Rel k u v) (hk : k + 5 ≤ 2560) (v1 : Int32) (v2 : Int32) (v3 : Int32) (v4 : Int32) : wpX_say (fun r u' => wpY_say (fun r' v' => r' = r ∧ i_Rel (k + 5) u' v') v v1 v2 v3 v4) u v1 v2 v3 v4 := by
  obtain ⟨p, c, a, b, rfl, rfl, hp, hc, H⟩ := I
  have J : i_Rel (k + 5) (nI p, nI c, a) (nI p, nI c, b) := ⟨p, c, a, b, rfl, rfl, hp, hc, H⟩
  unfold wpX_say wpY_say
  dsimp only
  rcases bt_keyN v1 with ⟨q, hq, rfl⟩ | ⟨qX, qY⟩
  · rcases bt_spanN v2 v3 with ⟨lo, hi, hlo, hhi, rfl, rfl⟩ | ⟨sX, sY⟩
    · rcases bt_valN v4 with ⟨w, hw, rfl⟩ | ⟨wX, wY⟩
      · have hs : bt_cell (nI w) (nI w + 1) := ⟨rfl, by rw [nI_1]; exact nI_pos (by omega)⟩
        obtain ⟨r, c', a', b', hc', h', rX, rY⟩ := bt_chg hp hc H hq hlo hhi hs
        exact bt_valX hw (br_f bt_01 (rX _ (bt_keyY hq (br_f bt_01 (bt_spanY hlo hhi (bt_valY hw (rY _ ⟨rfl, p, c', a', b', rfl, rfl, hp, hc', h'⟩)))))))
      · exact wX _ (br_t rfl (bt_keyY hq (br_f bt_01 (bt_spanY hlo hhi (wY _ _ ⟨rfl, J⟩)))))
    · rcases bt_valN v4 with ⟨w, hw, rfl⟩ | ⟨wX, wY⟩
      · refine bt_valX hw (br_f bt_01 ?_)
        unfold wpX_change
        dsimp only
        exact bt_keyX hq (br_f bt_01 (sX _ (br_t rfl (bt_keyY hq (br_f bt_01 (sY _ _ ⟨rfl, J⟩))))))
      · exact wX _ (br_t rfl (bt_keyY hq (br_f bt_01 (sY _ _ ⟨rfl, J⟩))))
  · rcases bt_valN v4 with ⟨w, hw, rfl⟩ | ⟨wX, wY⟩
    · refine bt_valX hw (br_f bt_01 ?_)
      unfold wpX_change
      dsimp only
      exact qX _ (br_t rfl (qY _ _ _ _ (br_t rfl ⟨rfl, J⟩)))
    · exact wX _ (br_t rfl (qY _ _ _ _ (br_t rfl ⟨rfl, J⟩)))
theorem i_vc_unsay {k : Nat} {u : SX} {v : SY} (I : i_Rel k u v) (hk : k + 5 ≤ 2560) (v1 : Int32) (v2 : Int32) (v3 : Int32) : wpX_unsay (fun r u' => wpY_unsay (fun r' v' => r' = r ∧ i_Rel (k + 5) u' v') v v1 v2 v3) u v1 v2 v3 := by
  obtain ⟨p, c, a, b, rfl, rfl, hp, hc, H⟩ := I
  have J : i_Rel (k + 5) (nI p, nI c, a) (nI p, nI c, b) := ⟨p, c, a, b, rfl, rfl, hp, hc, H⟩
  unfold wpX_unsay wpY_unsay
  dsimp only
  rcases bt_keyN v1 with ⟨q, hq, rfl⟩ | ⟨qX, qY⟩
  · rcases bt_spanN v2 v3 with ⟨lo, hi, hlo, hhi, rfl, rfl⟩ | ⟨sX, sY⟩
    · have hs : bt_cell (-1) 0 := ⟨by decide, by decide⟩
      obtain ⟨r, c', a', b', hc', h', rX, rY⟩ := bt_chg hp hc H hq hlo hhi hs
      exact rX _ (bt_keyY hq (br_f bt_01 (bt_spanY hlo hhi (rY _ ⟨rfl, p, c', a', b', rfl, rfl, hp, hc', h'⟩))))
    · unfold wpX_change
      dsimp only
      exact bt_keyX hq (br_f bt_01 (sX _ (br_t rfl (bt_keyY hq (br_f bt_01 (sY _ _ ⟨rfl, J⟩))))))
  · unfold wpX_change
    dsimp only
    exact qX _ (br_t rfl (qY _ _ _ _ (br_t rfl ⟨rfl, J⟩)))
theorem i_vc_at {k : Nat} {u : SX} {v : SY} (I : i_Rel k u v) (hk : k + 5 ≤ 2560) (v1 : Int32) (v2 : Int32) (v3 : Int32) : wpX_at (fun r => wpY_at (fun r' => r' = r ∧ i_Rel (k + 5) u v) v v1 v2 v3) u v1 v2 v3 := by
  obtain ⟨p, c, a, b, rfl, rfl, hp, hc, H⟩ := I
  have J : i_Rel (k + 5) (nI p, nI c, a) (nI p, nI c, b) := ⟨p, c, a, b, rfl, rfl, hp, hc, H⟩
  unfold wpX_at wpY_at
  dsimp only
  rcases bt_tickN p v1 with ⟨t, ht, rfl⟩ | ⟨tX, tY⟩
  · rcases bt_keyN v2 with ⟨q, hq, rfl⟩ | ⟨qX, qY⟩
    · rcases bt_dayN v3 with ⟨d, hd, rfl⟩ | ⟨dX, dY⟩
      · have h1 := H (64 * t + 16 * q + d) (by omega)
        refine bt_tickX hp ht (br_f bt_01 (bt_keyX hq (br_f bt_01 (bt_dayX hd (br_f bt_01 (bt_rowOf ⟨bt_in (by omega), bt_tickY hp ht (br_f bt_01 (bt_keyY hq (br_f bt_01 (bt_dayY hd (bt_ycell (by omega) hq hd ⟨?_, J⟩)))))⟩))))))
        rw [bt_cl (by omega)]
        exact bt_pred h1
      · exact bt_tickX hp ht (br_f bt_01 (bt_keyX hq (br_f bt_01 (dX _ (br_t rfl (bt_tickY hp ht (br_f bt_01 (bt_keyY hq (br_f bt_01 (dY _ _ ⟨rfl, J⟩))))))))))
    · exact bt_tickX hp ht (br_f bt_01 (qX _ (br_t rfl (bt_tickY hp ht (br_f bt_01 (qY _ _ _ _ (br_t rfl ⟨rfl, J⟩)))))))
  · exact tX _ _ _ (br_t rfl (tY _ _ _ (br_t rfl ⟨rfl, J⟩)))
theorem i_vc_periods {k : Nat} {u : SX} {v : SY} (I : i_Rel k u v) (hk : k + 5 ≤ 2560) (v1 : Int32) (v2 : Int32) : wpX_periods (fun r => wpY_periods (fun r' => r' = r ∧ i_Rel (k + 5) u v) v v1 v2) u v1 v2 := by
  obtain ⟨p, c, a, b, rfl, rfl, hp, hc, H⟩ := I
  have J : i_Rel (k + 5) (nI p, nI c, a) (nI p, nI c, b) := ⟨p, c, a, b, rfl, rfl, hp, hc, H⟩
  unfold wpX_periods wpY_periods
  dsimp only
  rcases bt_tickN p v1 with ⟨t, ht, rfl⟩ | ⟨tX, tY⟩
  · rcases bt_keyN v2 with ⟨q, hq, rfl⟩ | ⟨qX, qY⟩
    · obtain ⟨r, rX, rY⟩ := bt_periods hp H ht hq (nI c) 16 0 rfl 0
      exact bt_tickX hp ht (br_f bt_01 (bt_keyX hq (br_f bt_01 (bt_rowOf ⟨17, rX _ ⟨17, rY _ ⟨rfl, J⟩⟩⟩))))
    · exact bt_tickX hp ht (br_f bt_01 (qX _ (br_t rfl ⟨1, br_f bt_160 (bt_tickY hp ht (br_f bt_01 (qY _ _ _ _ (br_t rfl ⟨rfl, J⟩))))⟩)))
  · exact tX _ _ _ (br_t rfl ⟨1, br_f bt_160 (tY _ _ _ (br_t rfl ⟨rfl, J⟩))⟩)
theorem i_vc_periodFrom {k : Nat} {u : SX} {v : SY} (I : i_Rel k u v) (hk : k + 5 ≤ 2560) (v1 : Int32) (v2 : Int32) (v3 : Int32) : wpX_periodFrom (fun r => wpY_periodFrom (fun r' => r' = r ∧ i_Rel (k + 5) u v) v v1 v2 v3) u v1 v2 v3 := by
  obtain ⟨p, c, a, b, rfl, rfl, hp, hc, H⟩ := I
  have J : i_Rel (k + 5) (nI p, nI c, a) (nI p, nI c, b) := ⟨p, c, a, b, rfl, rfl, hp, hc, H⟩
  unfold wpX_periodFrom wpY_periodFrom
  dsimp only
  rcases bt_tickN p v1 with ⟨t, ht, rfl⟩ | ⟨tX, tY⟩
  · rcases bt_keyN v2 with ⟨q, hq, rfl⟩ | ⟨qX, qY⟩
    · obtain ⟨r, _, rX, rY⟩ := bt_first hp H ht hq (nI c) v3 16 0 rfl 0
      exact bt_tickX hp ht (br_f bt_01 (bt_keyX hq (br_f bt_01 (bt_rowOf ⟨17, rX _ ⟨17, rY _ ⟨rfl, J⟩⟩⟩))))
    · exact bt_tickX hp ht (br_f bt_01 (qX _ (br_t rfl ⟨1, br_f bt_160 (bt_tickY hp ht (br_f bt_01 (qY _ _ _ _ (br_t rfl ⟨rfl, J⟩))))⟩)))
  · exact tX _ _ _ (br_t rfl ⟨1, br_f bt_160 (tY _ _ _ (br_t rfl ⟨rfl, J⟩))⟩)
theorem i_vc_periodTo {k : Nat} {u : SX} {v : SY} (I : i_Rel k u v) (hk : k + 5 ≤ 2560) (v1 : Int32) (v2 : Int32) (v3 : Int32) : wpX_periodTo (fun r => wpY_periodTo (fun r' => r' = r ∧ i_Rel (k + 5) u v) v v1 v2 v3) u v1 v2 v3 := by
  obtain ⟨p, c, a, b, rfl, rfl, hp, hc, H⟩ := I
  have J : i_Rel (k + 5) (nI p, nI c, a) (nI p, nI c, b) := ⟨p, c, a, b, rfl, rfl, hp, hc, H⟩
  have m1 : ¬ (0 : Int32) ≤ -1 := by decide
  unfold wpX_periodTo wpY_periodTo wpY_periodFrom
  dsimp only
  rcases bt_tickN p v1 with ⟨t, ht, rfl⟩ | ⟨tX, tY⟩
  · rcases bt_keyN v2 with ⟨q, hq, rfl⟩ | ⟨qX, qY⟩
    · obtain ⟨r, hr, rX, rY⟩ := bt_first hp H ht hq (nI c) v3 16 0 rfl 0
      rcases hr with rfl | ⟨d, hd, rfl⟩
      · exact bt_tickX hp ht (br_f bt_01 (bt_keyX hq (br_f bt_01 (bt_rowOf ⟨17, rX _ (br_t rfl ⟨17, rY _ (br_f m1 ⟨rfl, J⟩)⟩)⟩))))
      · have d0 : (0 : Int32) ≤ nI d := nI_pos' (by omega)
        have dn : ¬ nI d = -1 := fun g => m1 (g ▸ d0)
        obtain ⟨s, sX, sY⟩ := bt_end hp H ht hq hd (nI p) (nI c)
        exact bt_tickX hp ht (br_f bt_01 (bt_keyX hq (br_f bt_01 (bt_rowOf ⟨17, rX _ (br_f dn (sX _ ⟨17, rY _ (br_t d0 (sY _ ⟨rfl, J⟩))⟩))⟩))))
    · exact bt_tickX hp ht (br_f bt_01 (qX _ (br_t rfl ⟨1, br_f bt_160 (bt_tickY hp ht (br_f bt_01 (qY _ _ _ _ (br_t rfl (br_f m1 ⟨rfl, J⟩)))))⟩)))
  · exact tX _ _ _ (br_t rfl ⟨1, br_f bt_160 (tY _ _ _ (br_t rfl (br_f m1 ⟨rfl, J⟩)))⟩)
theorem i_vc_eras {k : Nat} {u : SX} {v : SY} (I : i_Rel k u v) (hk : k + 5 ≤ 2560) (v1 : Int32) (v2 : Int32) : wpX_eras (fun r => wpY_eras (fun r' => r' = r ∧ i_Rel (k + 5) u v) v v1 v2) u v1 v2 := by
  obtain ⟨p, c, a, b, rfl, rfl, hp, hc, H⟩ := I
  have J : i_Rel (k + 5) (nI p, nI c, a) (nI p, nI c, b) := ⟨p, c, a, b, rfl, rfl, hp, hc, H⟩
  have hn : ¬ nI p < 0 := nI_pos (by omega)
  unfold wpX_eras wpY_eras
  dsimp only
  rcases bt_keyN v1 with ⟨q, hq, rfl⟩ | ⟨qX, qY⟩
  · rcases bt_dayN v2 with ⟨d, hd, rfl⟩ | ⟨dX, dY⟩
    · obtain ⟨r, rX, rY⟩ := bt_eras hp H hq hd (nI c) (p + 1) 0 (by omega) 0
      exact bt_keyX hq (br_f bt_01 (bt_dayX hd (br_f bt_01 ⟨p + 1 + 1, rX _ ⟨p + 1 + 1, rY _ ⟨rfl, J⟩⟩⟩)))
    · exact bt_keyX hq (br_f bt_01 (dX _ (br_t rfl ⟨1, br_f hn (bt_keyY hq (br_f bt_01 (dY _ _ ⟨rfl, J⟩)))⟩)))
  · exact qX _ (br_t rfl ⟨1, br_f hn (qY _ _ _ _ (br_t rfl ⟨rfl, J⟩))⟩)
theorem i_vc_eraFrom {k : Nat} {u : SX} {v : SY} (I : i_Rel k u v) (hk : k + 5 ≤ 2560) (v1 : Int32) (v2 : Int32) (v3 : Int32) : wpX_eraFrom (fun r => wpY_eraFrom (fun r' => r' = r ∧ i_Rel (k + 5) u v) v v1 v2 v3) u v1 v2 v3 := by
  obtain ⟨p, c, a, b, rfl, rfl, hp, hc, H⟩ := I
  have J : i_Rel (k + 5) (nI p, nI c, a) (nI p, nI c, b) := ⟨p, c, a, b, rfl, rfl, hp, hc, H⟩
  have hn : ¬ nI p < 0 := nI_pos (by omega)
  unfold wpX_eraFrom wpY_eraFrom
  dsimp only
  rcases bt_keyN v1 with ⟨q, hq, rfl⟩ | ⟨qX, qY⟩
  · rcases bt_dayN v2 with ⟨d, hd, rfl⟩ | ⟨dX, dY⟩
    · obtain ⟨r, rX, rY⟩ := bt_eraFrom hp H hq hd (nI c) v3 (p + 1) 0 (by omega) 0
      exact bt_keyX hq (br_f bt_01 (bt_dayX hd (br_f bt_01 ⟨p + 1 + 1, rX _ ⟨p + 1 + 1, rY _ ⟨rfl, J⟩⟩⟩)))
    · exact bt_keyX hq (br_f bt_01 (dX _ (br_t rfl ⟨1, br_f hn (bt_keyY hq (br_f bt_01 (dY _ _ ⟨rfl, J⟩)))⟩)))
  · exact qX _ (br_t rfl ⟨1, br_f hn (qY _ _ _ _ (br_t rfl ⟨rfl, J⟩))⟩)
theorem i_vc_difference {k : Nat} {u : SX} {v : SY} (I : i_Rel k u v) (hk : k + 5 ≤ 2560) (v1 : Int32) (v2 : Int32) (v3 : Int32) : wpX_difference (fun r => wpY_difference (fun r' => r' = r ∧ i_Rel (k + 5) u v) v v1 v2 v3) u v1 v2 v3 := by
  obtain ⟨p, c, a, b, rfl, rfl, hp, hc, H⟩ := I
  have J : i_Rel (k + 5) (nI p, nI c, a) (nI p, nI c, b) := ⟨p, c, a, b, rfl, rfl, hp, hc, H⟩
  unfold wpX_difference wpY_difference
  dsimp only
  rcases bt_tickN p v1 with ⟨t, ht, rfl⟩ | ⟨tX, tY⟩
  · rcases bt_tickN p v2 with ⟨s, hs, rfl⟩ | ⟨sX, sY⟩
    · rcases bt_keyN v3 with ⟨q, hq, rfl⟩ | ⟨qX, qY⟩
      · obtain ⟨r, rX, rY⟩ := bt_diff hp H ht hs hq (nI p) (nI c) 16 0 rfl 0
        exact bt_tickX hp ht (br_f bt_01 (bt_tickX hp hs (br_f bt_01 (bt_keyX hq (br_f bt_01 (bt_rowOf (bt_rowOf ⟨17, rX _ (bt_tickY hp ht (br_f bt_01 (bt_tickY hp hs (br_f bt_01 (bt_keyY hq (br_f bt_01 ⟨17, rY _ ⟨rfl, J⟩⟩))))))⟩)))))))
      · exact bt_tickX hp ht (br_f bt_01 (bt_tickX hp hs (br_f bt_01 (qX _ (br_t rfl (bt_tickY hp ht (br_f bt_01 (bt_tickY hp hs (br_f bt_01 (qY _ _ _ _ (br_t rfl ⟨rfl, J⟩)))))))))))
    · exact bt_tickX hp ht (br_f bt_01 (sX _ _ _ (br_t rfl (bt_tickY hp ht (br_f bt_01 (sY _ _ _ (br_t rfl ⟨rfl, J⟩)))))))
  · exact tX _ _ _ (br_t rfl (tY _ _ _ (br_t rfl ⟨rfl, J⟩)))
theorem i_vc_count {k : Nat} {u : SX} {v : SY} (I : i_Rel k u v) (hk : k + 5 ≤ 2560) (v1 : Int32) (v2 : Int32) : wpX_count (fun r => wpY_count (fun r' => r' = r ∧ i_Rel (k + 5) u v) v v1 v2) u v1 v2 := by
  obtain ⟨p, c, a, b, rfl, rfl, hp, hc, H⟩ := I
  have J : i_Rel (k + 5) (nI p, nI c, a) (nI p, nI c, b) := ⟨p, c, a, b, rfl, rfl, hp, hc, H⟩
  unfold wpX_count wpY_count
  dsimp only
  rcases bt_tickN p v1 with ⟨t, ht, rfl⟩ | ⟨tX, tY⟩
  · rcases bt_valN v2 with ⟨w, hw, rfl⟩ | ⟨wX, wY⟩
    · obtain ⟨r, rX, rY⟩ := bt_count hp H ht hw (nI c) 64 0 rfl 0
      exact bt_tickX hp ht (br_f bt_01 (bt_valX hw (br_f bt_01 (nm_r (bt_46 t) ⟨65, rX _ ⟨65, rY _ ⟨rfl, J⟩⟩⟩))))
    · exact bt_tickX hp ht (br_f bt_01 (wX _ (br_t rfl ⟨1, br_f bt_640 (bt_tickY hp ht (br_f bt_01 (wY _ _ ⟨rfl, J⟩)))⟩)))
  · exact tX _ _ _ (br_t rfl ⟨1, br_f bt_640 (tY _ _ _ (br_t rfl ⟨rfl, J⟩))⟩)
theorem i_vc_agree {k : Nat} {u : SX} {v : SY} (I : i_Rel k u v) (hk : k + 5 ≤ 2560) (v1 : Int32) (v2 : Int32) (v3 : Int32) : wpX_agree (fun r => wpY_agree (fun r' => r' = r ∧ i_Rel (k + 5) u v) v v1 v2 v3) u v1 v2 v3 := by
  obtain ⟨p, c, a, b, rfl, rfl, hp, hc, H⟩ := I
  have J : i_Rel (k + 5) (nI p, nI c, a) (nI p, nI c, b) := ⟨p, c, a, b, rfl, rfl, hp, hc, H⟩
  unfold wpX_agree wpY_agree
  dsimp only
  rcases bt_tickN p v1 with ⟨t, ht, rfl⟩ | ⟨tX, tY⟩
  · rcases bt_keyN v2 with ⟨q, hq, rfl⟩ | ⟨qX, qY⟩
    · rcases bt_keyN v3 with ⟨l, hl, rfl⟩ | ⟨lX, lY⟩
      · obtain ⟨r, rX, rY⟩ := bt_agree hp H ht hq hl (nI c) 16 0 rfl 0
        exact bt_tickX hp ht (br_f bt_01 (bt_keyX hq (br_f bt_01 (bt_keyX hl (br_f bt_01 (bt_rowOf (bt_rowOf ⟨17, rX _ ⟨17, rY _ ⟨rfl, J⟩⟩⟩)))))))
      · exact bt_tickX hp ht (br_f bt_01 (bt_keyX hq (br_f bt_01 (lX _ (br_t rfl ⟨1, br_f bt_160 (bt_tickY hp ht (br_f bt_01 (bt_keyY hq (br_f bt_01 (lY _ _ _ _ (br_t rfl ⟨rfl, J⟩))))))⟩)))))
    · exact bt_tickX hp ht (br_f bt_01 (qX _ (br_t rfl ⟨1, br_f bt_160 (bt_tickY hp ht (br_f bt_01 (qY _ _ _ _ (br_t rfl ⟨rfl, J⟩))))⟩)))
  · exact tX _ _ _ (br_t rfl ⟨1, br_f bt_160 (tY _ _ _ (br_t rfl ⟨rfl, J⟩))⟩)
theorem i_vc_rectangles {k : Nat} {u : SX} {v : SY} (I : i_Rel k u v) (hk : k + 5 ≤ 2560) (v1 : Int32) : wpX_rectangles (fun r => wpY_rectangles (fun r' => r' = r ∧ i_Rel (k + 5) u v) v v1) u v1 := by
  obtain ⟨p, c, a, b, rfl, rfl, hp, hc, H⟩ := I
  have J : i_Rel (k + 5) (nI p, nI c, a) (nI p, nI c, b) := ⟨p, c, a, b, rfl, rfl, hp, hc, H⟩
  have hn : ¬ nI p < 0 := nI_pos (by omega)
  unfold wpX_rectangles wpY_rectangles
  dsimp only
  rcases bt_keyN v1 with ⟨q, hq, rfl⟩ | ⟨qX, qY⟩
  · obtain ⟨r, rX, rY⟩ := bt_rect hp H hq (nI c) (p + 1) 0 (by omega) 0
    exact bt_keyX hq (br_f bt_01 ⟨p + 1 + 1, rX _ ⟨p + 1 + 1, rY _ ⟨rfl, J⟩⟩⟩)
  · exact qX _ (br_t rfl ⟨1, br_f hn (qY _ _ _ _ (br_t rfl ⟨rfl, J⟩))⟩)
end
