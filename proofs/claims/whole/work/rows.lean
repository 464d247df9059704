section
theorem pk_us {f : Nat → Int32} {k : Nat} {x : Int32} : upd f k x k = x := if_pos rfl
theorem pk_un {f : Nat → Int32} {k j : Nat} {x : Int32} (h : j ≠ k) : upd f k x j = f j := if_neg h
theorem pk_sub {a b : Nat} (h : b ≤ a) : nI a - nI b = nI (a - b) := by
  obtain ⟨c, rfl⟩ : ∃ c, a = c + b := ⟨a - b, by omega⟩
  rw [← nI_add, Int32.add_sub_cancel, Nat.add_sub_cancel]
theorem pk_mul (a b : Nat) : nI a * nI b = nI (a * b) := (Int32.ofNat_mul a b).symm
/-- one cell on both sides: the reference's is one more than the class's, and never negative -/
def bt_cell (x y : Int32) : Prop := y = x + 1 ∧ ¬ y < 0
/-- all cells up to the present tick -/
def bt_H (p : Nat) (a b : Nat → Int32) : Prop := ∀ j : Nat, j < 64 * (p + 1) → bt_cell (a j) (b j)
/-- the same tick, the same count of changes, the same table at each tick so far -/
def i_Rel (k : Nat) (u : SX) (v : SY) : Prop := ∃ (p c : Nat) (a b : Nat → Int32), u = (nI p, nI c, a) ∧ v = (nI p, nI c, b) ∧ p ≤ 60 ∧ c ≤ 50 ∧ bt_H p a b
theorem i_up {k : Nat} {u : SX} {v : SY} (h : i_Rel k u v) : i_Rel (k + 5) u v := h
theorem bt_01 : ¬ (1 : Int32) = 0 := by decide
theorem bt_160 : ¬ (16 : Int32) ≤ 0 := by decide
theorem bt_640 : ¬ (64 : Int32) ≤ 0 := by decide
theorem bt_inj {x x' : Int32} : x + 1 = x' + 1 ↔ x = x' := by
  constructor
  · intro h
    have h2 : x + 1 - 1 = x' + 1 - 1 := by rw [h]
    rw [Int32.add_sub_cancel, Int32.add_sub_cancel] at h2
    exact h2
  · intro h
    rw [h]
theorem bt_eq {x y x' y' : Int32} (h : bt_cell x y) (h' : bt_cell x' y') : y = y' ↔ x = x' := by
  rw [h.1, h'.1]
  exact bt_inj
theorem bt_none {x y : Int32} (h : bt_cell x y) : y ≤ 0 ↔ x = -1 := by
  constructor
  · intro hy
    have e0 : y = 0 := Int32.le_antisymm hy (Int32.not_lt.mp h.2)
    have e := h.1
    rw [e0, show (0 : Int32) = -1 + 1 from by decide] at e
    exact (bt_inj.mp e).symm
  · intro hx
    rw [h.1, hx]
    decide
theorem bt_pred {x y : Int32} (h : bt_cell x y) : y - 1 = x := by
  rw [h.1, Int32.add_sub_cancel]
theorem bt_val {x y v : Int32} (h : bt_cell x y) : y = v + 1 ↔ x = v := by
  rw [h.1]
  exact bt_inj
theorem bt_upd {p i : Nat} {a b : Nat → Int32} {x y : Int32} (H : bt_H p a b) (h : bt_cell x y) : bt_H p (upd a i x) (upd b i y) := by
  intro j hj
  by_cases e : j = i
  · subst e
    rw [pk_us, pk_us]
    exact h
  · rw [pk_un e, pk_un e]
    exact H j hj
theorem bt_updY {p i : Nat} {a b : Nat → Int32} {x y : Int32} (H : bt_H p a b) (h : bt_cell x y) (e : a i = x) : bt_H p a (upd b i y) := by
  intro j hj
  by_cases e' : j = i
  · subst e'
    rw [pk_us, e]
    exact h
  · rw [pk_un e']
    exact H j hj
theorem bt_rx (t k : Nat) : nI t * 64 + nI k * 16 = nI (64 * t + 16 * k) := by
  rw [show (64 : Int32) = nI 64 from rfl, show (16 : Int32) = nI 16 from rfl, pk_mul, pk_mul, nI_add, Nat.mul_comm t, Nat.mul_comm k]
theorem bt_ry (t k d : Nat) : 64 * nI t + 16 * nI k + nI d = nI (64 * t + 16 * k + d) := by
  rw [show (64 : Int32) = nI 64 from rfl, show (16 : Int32) = nI 16 from rfl, pk_mul, pk_mul, nI_add, nI_add]
theorem bt_rm (s k : Nat) : nI (64 * (s + 1) + 16 * k) - 64 = nI (64 * s + 16 * k) := by
  rw [show (64 : Int32) = nI 64 from rfl, pk_sub (by omega), show 64 * (s + 1) + 16 * k - 64 = 64 * s + 16 * k from by omega]
theorem bt_in {r d : Nat} (h : r + d < 3904) : vp_in (nI r + nI d) 3904 := by
  rw [nI_add]
  exact vp_in_nI h (by decide)
theorem bt_cl {r d : Nat} (h : r + d < 3904) : (nI r + nI d).toNatClampNeg = r + d := by
  rw [nI_add]
  exact nI_clamp (by omega)
theorem bt_rowOf {t k : Nat} {post : Int32 → Prop} (h : post (nI (64 * t + 16 * k))) : wpX_rowOf post (nI t) (nI k) := by
  unfold wpX_rowOf
  rw [bt_rx]
  exact h
theorem bt_ycell {t k d : Nat} (ht : t ≤ 60) (hk : k < 4) (hd : d < 16) {f e : Int32} {g : Nat → Int32} {post : Int32 → Prop} (h : post (g (64 * t + 16 * k + d))) : wpY_cell post (f, e, g) (nI t) (nI k) (nI d) := by
  unfold wpY_cell
  dsimp only
  rw [bt_ry, nI_clamp (by omega)]
  exact ⟨vp_in_nI (by omega) (by decide), h⟩
-- the argument tests
theorem bt_keyX {k : Nat} (h : k < 4) {post : Int32 → Prop} (hp : post 1) : wpX_isKey post (nI k) :=
  br_f (nI_pos (by omega)) (br_f (nI_ge (b := 4) h (by decide)) hp)
theorem bt_keyY {k : Nat} (h : k < 4) {f e : Int32} {g : Nat → Int32} {post : Int32 → Prop} (hp : post 1) : wpY_key post (f, e, g) (nI k) :=
  br_f (nI_pos (by omega)) (br_f (nI_nlt (a := 3) (by omega) (by decide)) hp)
theorem bt_keyN (x : Int32) : (∃ k : Nat, k < 4 ∧ x = nI k) ∨ ((∀ post : Int32 → Prop, post 0 → wpX_isKey post x) ∧ (∀ (post : Int32 → Prop) (f e : Int32) (g : Nat → Int32), post 0 → wpY_key post (f, e, g) x)) := by
  by_cases h : x < 0
  · exact Or.inr ⟨fun _ hp => br_t h hp, fun _ _ _ _ hp => br_t h hp⟩
  · obtain ⟨j, hj, rfl⟩ := nI_of h
    by_cases h4 : j < 4
    · exact Or.inl ⟨j, h4, rfl⟩
    · exact Or.inr ⟨fun _ hp => br_f h (br_t (nI_le (a := 4) (by omega) hj) hp), fun _ _ _ _ hp => br_f h (br_t (nI_lt (a := 3) (by omega) hj) hp)⟩
theorem bt_tickX {p t : Nat} (hp : p ≤ 60) (h : t ≤ p) {e : Int32} {g : Nat → Int32} {post : Int32 → Prop} (h1 : post 1) : wpX_isTick post (nI p, e, g) (nI t) :=
  br_f (nI_pos (by omega)) (br_f (nI_nlt h (by omega)) h1)
theorem bt_tickY {p t : Nat} (hp : p ≤ 60) (h : t ≤ p) {e : Int32} {g : Nat → Int32} {post : Int32 → Prop} (h1 : post 1) : wpY_time post (nI p, e, g) (nI t) :=
  br_f (nI_pos (by omega)) (br_f (nI_nlt h (by omega)) h1)
theorem bt_tickN (p : Nat) (x : Int32) : (∃ t : Nat, t ≤ p ∧ x = nI t) ∨ ((∀ (post : Int32 → Prop) (e : Int32) (g : Nat → Int32), post 0 → wpX_isTick post (nI p, e, g) x) ∧ (∀ (post : Int32 → Prop) (e : Int32) (g : Nat → Int32), post 0 → wpY_time post (nI p, e, g) x)) := by
  by_cases h : x < 0
  · exact Or.inr ⟨fun _ _ _ hp => br_t h hp, fun _ _ _ hp => br_t h hp⟩
  · obtain ⟨j, hj, rfl⟩ := nI_of h
    by_cases h4 : j ≤ p
    · exact Or.inl ⟨j, h4, rfl⟩
    · have l : nI p < nI j := nI_lt (by omega) hj
      exact Or.inr ⟨fun _ _ _ hp => br_f h (br_t l hp), fun _ _ _ hp => br_f h (br_t l hp)⟩
theorem bt_dayX {d : Nat} (h : d < 16) {post : Int32 → Prop} (hp : post 1) : wpX_isDay post (nI d) :=
  br_f (nI_pos (by omega)) (br_f (nI_ge (b := 16) h (by decide)) hp)
theorem bt_dayY {d : Nat} (h : d < 16) {A B : Prop} (hb : B) : (nI d < 0 → A) ∧ (¬ nI d < 0 → ((15 < nI d → A) ∧ (¬ 15 < nI d → B))) :=
  br_f (nI_pos (by omega)) (br_f (nI_nlt (a := 15) (by omega) (by decide)) hb)
theorem bt_dayN (x : Int32) : (∃ d : Nat, d < 16 ∧ x = nI d) ∨ ((∀ post : Int32 → Prop, post 0 → wpX_isDay post x) ∧ (∀ A B : Prop, A → ((x < 0 → A) ∧ (¬ x < 0 → ((15 < x → A) ∧ (¬ 15 < x → B)))))) := by
  by_cases h : x < 0
  · exact Or.inr ⟨fun _ hp => br_t h hp, fun _ _ hp => br_t h hp⟩
  · obtain ⟨j, hj, rfl⟩ := nI_of h
    by_cases h4 : j < 16
    · exact Or.inl ⟨j, h4, rfl⟩
    · exact Or.inr ⟨fun _ hp => br_f h (br_t (nI_le (a := 16) (by omega) hj) hp), fun _ _ hp => br_f h (br_t (nI_lt (a := 15) (by omega) hj) hp)⟩
theorem bt_valX {d : Nat} (h : d < 10) {post : Int32 → Prop} (hp : post 1) : wpX_isValue post (nI d) :=
  br_f (nI_pos (by omega)) (br_f (nI_ge (b := 10) h (by decide)) hp)
theorem bt_valY {d : Nat} (h : d < 10) {A B : Prop} (hb : B) : (nI d < 0 → A) ∧ (¬ nI d < 0 → ((9 < nI d → A) ∧ (¬ 9 < nI d → B))) :=
  br_f (nI_pos (by omega)) (br_f (nI_nlt (a := 9) (by omega) (by decide)) hb)
theorem bt_valN (x : Int32) : (∃ d : Nat, d < 10 ∧ x = nI d) ∨ ((∀ post : Int32 → Prop, post 0 → wpX_isValue post x) ∧ (∀ A B : Prop, A → ((x < 0 → A) ∧ (¬ x < 0 → ((9 < x → A) ∧ (¬ 9 < x → B)))))) := by
  by_cases h : x < 0
  · exact Or.inr ⟨fun _ hp => br_t h hp, fun _ _ hp => br_t h hp⟩
  · obtain ⟨j, hj, rfl⟩ := nI_of h
    by_cases h4 : j < 10
    · exact Or.inl ⟨j, h4, rfl⟩
    · exact Or.inr ⟨fun _ hp => br_f h (br_t (nI_le (a := 10) (by omega) hj) hp), fun _ _ hp => br_f h (br_t (nI_lt (a := 9) (by omega) hj) hp)⟩
theorem bt_spanX {m n : Nat} (h : m < n) (hn : n ≤ 16) {post : Int32 → Prop} (hp : post 1) : wpX_isSpan post (nI m) (nI n) :=
  br_f (nI_pos (by omega)) (br_f (nI_ge h (by omega)) (br_f (nI_nlt (a := 16) hn (by decide)) hp))
theorem bt_spanY {m n : Nat} (h : m < n) (hn : n ≤ 16) {A B : Prop} (hb : B) : (nI m < 0 → A) ∧ (¬ nI m < 0 → ((nI n ≤ nI m → A) ∧ (¬ nI n ≤ nI m → ((16 < nI n → A) ∧ (¬ 16 < nI n → B))))) :=
  br_f (nI_pos (by omega)) (br_f (nI_ge h (by omega)) (br_f (nI_nlt (a := 16) hn (by decide)) hb))
theorem bt_spanN (x y : Int32) : (∃ m n : Nat, m < n ∧ n ≤ 16 ∧ x = nI m ∧ y = nI n) ∨ ((∀ post : Int32 → Prop, post 0 → wpX_isSpan post x y) ∧ (∀ A B : Prop, A → ((x < 0 → A) ∧ (¬ x < 0 → ((y ≤ x → A) ∧ (¬ y ≤ x → ((16 < y → A) ∧ (¬ 16 < y → B)))))))) := by
  by_cases h : x < 0
  · exact Or.inr ⟨fun _ hp => br_t h hp, fun _ _ hp => br_t h hp⟩
  · by_cases h2 : y ≤ x
    · exact Or.inr ⟨fun _ hp => br_f h (br_t h2 hp), fun _ _ hp => br_f h (br_t h2 hp)⟩
    · by_cases h3 : 16 < y
      · exact Or.inr ⟨fun _ hp => br_f h (br_f h2 (br_t h3 hp)), fun _ _ hp => br_f h (br_f h2 (br_t h3 hp))⟩
      · have hy : ¬ y < 0 := by
          intro z
          exact h2 (Int32.le_trans (Int32.le_of_lt z) (Int32.not_lt.mp h))
        obtain ⟨m, hm, rfl⟩ := nI_of h
        obtain ⟨n, hn, rfl⟩ := nI_of hy
        refine Or.inl ⟨m, n, ?_, ?_, rfl, rfl⟩
        · rw [nI_leI hn hm] at h2
          omega
        · rw [show (16 : Int32) = nI 16 from rfl, nI_ltI (by decide) hn] at h3
          omega
end
