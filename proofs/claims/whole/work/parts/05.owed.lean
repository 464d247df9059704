theorem i_vc0 : wpX_init (fun u => wpY_init (fun v => i_Rel 0 u v)) := by
  obtain ⟨a', h', rX⟩ := bt_init 64 0 rfl (fun _ => 0) (fun j hj => absurd hj (Nat.not_lt_zero j))
  refine ⟨65, rX _ ⟨0, 0, a', fun _ => 0, rfl, rfl, by omega, by omega, ?_⟩⟩
  intro j hj
  rw [h' j (by omega)]
  show bt_cell (-1) 0
  exact ⟨by decide, by decide⟩
theorem i_vc_tick {k : Nat} {u : SX} {v : SY} (I : i_Rel k u v) (hk : k + 5 ≤ 2560) : wpX_tick (fun r u' => wpY_tick (fun r' v' => r' = r ∧ i_Rel (k + 5) u' v') v) u := by
  obtain ⟨p, c, a, b, rfl, rfl, hp, hc, H⟩ := I
  by_cases z : p < 60
  · have l : nI p < 60 := nI_lt (b := 60) z (by decide)
    obtain ⟨a', b', h', rX, rY⟩ := bt_tick z (nI c) 64 0 rfl a b H
    have e2 : nI (64 * p) + 64 = nI (64 * (p + 1)) := nI_add (64 * p) 64
    exact br_t l (nm_r (bt_46 p) (nm_r e2 ⟨65, rX _ (br_t l (nm_r (nI_1 p) ⟨65, rY _ ⟨rfl, p + 1, c, a', b', rfl, rfl, by omega, hc, h'⟩⟩))⟩))
  · have l : ¬ nI p < 60 := nI_nlt (b := 60) (by omega) (by omega)
    exact br_f l (br_f l ⟨rfl, p, c, a, b, rfl, rfl, hp, hc, H⟩)
theorem i_vc_now {k : Nat} {u : SX} {v : SY} (I : i_Rel k u v) (hk : k + 5 ≤ 2560) : wpX_now (fun r => wpY_now (fun r' => r' = r ∧ i_Rel (k + 5) u v) v) u := by
  obtain ⟨p, c, a, b, rfl, rfl, hp, hc, H⟩ := I
  exact ⟨rfl, p, c, a, b, rfl, rfl, hp, hc, H⟩
theorem i_vc_say {k : Nat} {u : SX} {v : SY} (I : i_Rel k u v) (hk : k + 5 ≤ 2560) (v1 : Int32) (v2 : Int32) (v3 : Int32) (v4 : Int32) : wpX_say (fun r u' => wpY_say (fun r' v' => r' = r ∧ i_Rel (k + 5) u' v') v v1 v2 v3 v4) u v1 v2 v3 v4 := by
  obtain ⟨p, c, a, b, rfl, rfl, hp, hc, H⟩ := I
  have J : i_Rel (k + 5) (nI p, nI c, a) (nI p, nI c, b) := ⟨p, c, a, b, rfl, rfl, hp, hc, H⟩
  unfold wpX_say wpY_say
  dsimp only
  rcases bt_keyN v1 with ⟨q, hq, rfl⟩ | ⟨qX, qY⟩
  · rcases bt_spanN v2 v3 with ⟨lo, hi, hlo, hhi, rfl, rfl⟩ | ⟨sX, sY⟩
    · rcases bt_valN v4 with ⟨w, hw, rfl⟩ | ⟨wX, wY⟩
      · have hs : bt_cell (nI w) (nI w + 1) := ⟨rfl, by rw [nI_1]; exact nI_pos (by omega)⟩
        obtain ⟨r, c', a', b', hc', h', rX, rY⟩ := bt_chg hp hc H hq hlo hhi hs
        exact bt_valX hw (br_f bt_01 (rX _ (bt_keyY hq (br_f bt_01 (bt_spanY hlo hhi (bt_valY hw (rY _ ⟨rfl, p, c', a', b', rfl, rfl, hp, hc', h'⟩)))))))
      · exact wX _ (br_t rfl (bt_keyY hq (br_f bt_01 (bt_spanY hlo hhi (wY _ _ ⟨rfl, J⟩)))))
    · rcases bt_valN v4 with ⟨w, hw, rfl⟩ | ⟨wX, wY⟩
      · refine bt_valX hw (br_f bt_01 ?_)
        unfold wpX_change
        dsimp only
        exact bt_keyX hq (br_f bt_01 (sX _ (br_t rfl (bt_keyY hq (br_f bt_01 (sY _ _ ⟨rfl, J⟩))))))
      · exact wX _ (br_t rfl (bt_keyY hq (br_f bt_01 (sY _ _ ⟨rfl, J⟩))))
  · rcases bt_valN v4 with ⟨w, hw, rfl⟩ | ⟨wX, wY⟩
    · refine bt_valX hw (br_f bt_01 ?_)
      unfold wpX_change
      dsimp only
      exact qX _ (br_t rfl (qY _ _ _ _ (br_t rfl ⟨rfl, J⟩)))
    · exact wX _ (br_t rfl (qY _ _ _ _ (br_t rfl ⟨rfl, J⟩)))
theorem i_vc_unsay {k : Nat} {u : SX} {v : SY} (I : i_Rel k u v) (hk : k + 5 ≤ 2560) (v1 : Int32) (v2 : Int32) (v3 : Int32) : wpX_unsay (fun r u' => wpY_unsay (fun r' v' => r' = r ∧ i_Rel (k + 5) u' v') v v1 v2 v3) u v1 v2 v3 := by
  obtain ⟨p, c, a, b, rfl, rfl, hp, hc, H⟩ := I
  have J : i_Rel (k + 5) (nI p, nI c, a) (nI p, nI c, b) := ⟨p, c, a, b, rfl, rfl, hp, hc, H⟩
  unfold wpX_unsay wpY_unsay
  dsimp only
  rcases bt_keyN v1 with ⟨q, hq, rfl⟩ | ⟨qX, qY⟩
  · rcases bt_spanN v2 v3 with ⟨lo, hi, hlo, hhi, rfl, rfl⟩ | ⟨sX, sY⟩
    · have hs : bt_cell (-1) 0 := ⟨by decide, by decide⟩
      obtain ⟨r, c', a', b', hc', h', rX, rY⟩ := bt_chg hp hc H hq hlo hhi hs
      exact rX _ (bt_keyY hq (br_f bt_01 (bt_spanY hlo hhi (rY _ ⟨rfl, p, c', a', b', rfl, rfl, hp, hc', h'⟩))))
    · unfold wpX_change
      dsimp only
      exact bt_keyX hq (br_f bt_01 (sX _ (br_t rfl (bt_keyY hq (br_f bt_01 (sY _ _ ⟨rfl, J⟩))))))
  · unfold wpX_change
    dsimp only
    exact qX _ (br_t rfl (qY _ _ _ _ (br_t rfl ⟨rfl, J⟩)))
theorem i_vc_at {k : Nat} {u : SX} {v : SY} (I : i_Rel k u v) (hk : k + 5 ≤ 2560) (v1 : Int32) (v2 : Int32) (v3 : Int32) : wpX_at (fun r => wpY_at (fun r' => r' = r ∧ i_Rel (k + 5) u v) v v1 v2 v3) u v1 v2 v3 := by
  obtain ⟨p, c, a, b, rfl, rfl, hp, hc, H⟩ := I
  have J : i_Rel (k + 5) (nI p, nI c, a) (nI p, nI c, b) := ⟨p, c, a, b, rfl, rfl, hp, hc, H⟩
  unfold wpX_at wpY_at
  dsimp only
  rcases bt_tickN p v1 with ⟨t, ht, rfl⟩ | ⟨tX, tY⟩
  · rcases bt_keyN v2 with ⟨q, hq, rfl⟩ | ⟨qX, qY⟩
    · rcases bt_dayN v3 with ⟨d, hd, rfl⟩ | ⟨dX, dY⟩
      · have h1 := H (64 * t + 16 * q + d) (by omega)
        refine bt_tickX hp ht (br_f bt_01 (bt_keyX hq (br_f bt_01 (bt_dayX hd (br_f bt_01 (bt_rowOf ⟨bt_in (by omega), bt_tickY hp ht (br_f bt_01 (bt_keyY hq (br_f bt_01 (bt_dayY hd (bt_ycell (by omega) hq hd ⟨?_, J⟩)))))⟩))))))
        rw [bt_cl (by omega)]
        exact bt_pred h1
      · exact bt_tickX hp ht (br_f bt_01 (bt_keyX hq (br_f bt_01 (dX _ (br_t rfl (bt_tickY hp ht (br_f bt_01 (bt_keyY hq (br_f bt_01 (dY _ _ ⟨rfl, J⟩))))))))))
    · exact bt_tickX hp ht (br_f bt_01 (qX _ (br_t rfl (bt_tickY hp ht (br_f bt_01 (qY _ _ _ _ (br_t rfl ⟨rfl, J⟩)))))))
  · exact tX _ _ _ (br_t rfl (tY _ _ _ (br_t rfl ⟨rfl, J⟩)))
theorem i_vc_periods {k : Nat} {u : SX} {v : SY} (I : i_Rel k u v) (hk : k + 5 ≤ 2560) (v1 : Int32) (v2 : Int32) : wpX_periods (fun r => wpY_periods (fun r' => r' = r ∧ i_Rel (k + 5) u v) v v1 v2) u v1 v2 := by
  obtain ⟨p, c, a, b, rfl, rfl, hp, hc, H⟩ := I
  have J : i_Rel (k + 5) (nI p, nI c, a) (nI p, nI c, b) := ⟨p, c, a, b, rfl, rfl, hp, hc, H⟩
  unfold wpX_periods wpY_periods
  dsimp only
  rcases bt_tickN p v1 with ⟨t, ht, rfl⟩ | ⟨tX, tY⟩
  · rcases bt_keyN v2 with ⟨q, hq, rfl⟩ | ⟨qX, qY⟩
    · obtain ⟨r, rX, rY⟩ := bt_periods hp H ht hq (nI c) 16 0 rfl 0
      exact bt_tickX hp ht (br_f bt_01 (bt_keyX hq (br_f bt_01 (bt_rowOf ⟨17, rX _ ⟨17, rY _ ⟨rfl, J⟩⟩⟩))))
    · exact bt_tickX hp ht (br_f bt_01 (qX _ (br_t rfl ⟨1, br_f bt_160 (bt_tickY hp ht (br_f bt_01 (qY _ _ _ _ (br_t rfl ⟨rfl, J⟩))))⟩)))
  · exact tX _ _ _ (br_t rfl ⟨1, br_f bt_160 (tY _ _ _ (br_t rfl ⟨rfl, J⟩))⟩)
theorem i_vc_periodFrom {k : Nat} {u : SX} {v : SY} (I : i_Rel k u v) (hk : k + 5 ≤ 2560) (v1 : Int32) (v2 : Int32) (v3 : Int32) : wpX_periodFrom (fun r => wpY_periodFrom (fun r' => r' = r ∧ i_Rel (k + 5) u v) v v1 v2 v3) u v1 v2 v3 := by
  obtain ⟨p, c, a, b, rfl, rfl, hp, hc, H⟩ := I
  have J : i_Rel (k + 5) (nI p, nI c, a) (nI p, nI c, b) := ⟨p, c, a, b, rfl, rfl, hp, hc, H⟩
  unfold wpX_periodFrom wpY_periodFrom
  dsimp only
  rcases bt_tickN p v1 with ⟨t, ht, rfl⟩ | ⟨tX, tY⟩
  · rcases bt_keyN v2 with ⟨q, hq, rfl⟩ | ⟨qX, qY⟩
    · obtain ⟨r, _, rX, rY⟩ := bt_first hp H ht hq (nI c) v3 16 0 rfl 0
      exact bt_tickX hp ht (br_f bt_01 (bt_keyX hq (br_f bt_01 (bt_rowOf ⟨17, rX _ ⟨17, rY _ ⟨rfl, J⟩⟩⟩))))
    · exact bt_tickX hp ht (br_f bt_01 (qX _ (br_t rfl ⟨1, br_f bt_160 (bt_tickY hp ht (br_f bt_01 (qY _ _ _ _ (br_t rfl ⟨rfl, J⟩))))⟩)))
  · exact tX _ _ _ (br_t rfl ⟨1, br_f bt_160 (tY _ _ _ (br_t rfl ⟨rfl, J⟩))⟩)
theorem i_vc_periodTo {k : Nat} {u : SX} {v : SY} (I : i_Rel k u v) (hk : k + 5 ≤ 2560) (v1 : Int32) (v2 : Int32) (v3 : Int32) : wpX_periodTo (fun r => wpY_periodTo (fun r' => r' = r ∧ i_Rel (k + 5) u v) v v1 v2 v3) u v1 v2 v3 := by
  obtain ⟨p, c, a, b, rfl, rfl, hp, hc, H⟩ := I
  have J : i_Rel (k + 5) (nI p, nI c, a) (nI p, nI c, b) := ⟨p, c, a, b, rfl, rfl, hp, hc, H⟩
  have m1 : ¬ (0 : Int32) ≤ -1 := by decide
  unfold wpX_periodTo wpY_periodTo wpY_periodFrom
  dsimp only
  rcases bt_tickN p v1 with ⟨t, ht, rfl⟩ | ⟨tX, tY⟩
  · rcases bt_keyN v2 with ⟨q, hq, rfl⟩ | ⟨qX, qY⟩
    · obtain ⟨r, hr, rX, rY⟩ := bt_first hp H ht hq (nI c) v3 16 0 rfl 0
      rcases hr with rfl | ⟨d, hd, rfl⟩
      · exact bt_tickX hp ht (br_f bt_01 (bt_keyX hq (br_f bt_01 (bt_rowOf ⟨17, rX _ (br_t rfl ⟨17, rY _ (br_f m1 ⟨rfl, J⟩)⟩)⟩))))
      · have d0 : (0 : Int32) ≤ nI d := nI_pos' (by omega)
        have dn : ¬ nI d = -1 := fun g => m1 (g ▸ d0)
        obtain ⟨s, sX, sY⟩ := bt_end hp H ht hq hd (nI p) (nI c)
        exact bt_tickX hp ht (br_f bt_01 (bt_keyX hq (br_f bt_01 (bt_rowOf ⟨17, rX _ (br_f dn (sX _ ⟨17, rY _ (br_t d0 (sY _ ⟨rfl, J⟩))⟩))⟩))))
    · exact bt_tickX hp ht (br_f bt_01 (qX _ (br_t rfl ⟨1, br_f bt_160 (bt_tickY hp ht (br_f bt_01 (qY _ _ _ _ (br_t rfl (br_f m1 ⟨rfl, J⟩)))))⟩)))
  · exact tX _ _ _ (br_t rfl ⟨1, br_f bt_160 (tY _ _ _ (br_t rfl (br_f m1 ⟨rfl, J⟩)))⟩)
theorem i_vc_eras {k : Nat} {u : SX} {v : SY} (I : i_Rel k u v) (hk : k + 5 ≤ 2560) (v1 : Int32) (v2 : Int32) : wpX_eras (fun r => wpY_eras (fun r' => r' = r ∧ i_Rel (k + 5) u v) v v1 v2) u v1 v2 := by
  obtain ⟨p, c, a, b, rfl, rfl, hp, hc, H⟩ := I
  have J : i_Rel (k + 5) (nI p, nI c, a) (nI p, nI c, b) := ⟨p, c, a, b, rfl, rfl, hp, hc, H⟩
  have hn : ¬ nI p < 0 := nI_pos (by omega)
  unfold wpX_eras wpY_eras
  dsimp only
  rcases bt_keyN v1 with ⟨q, hq, rfl⟩ | ⟨qX, qY⟩
  · rcases bt_dayN v2 with ⟨d, hd, rfl⟩ | ⟨dX, dY⟩
    · obtain ⟨r, rX, rY⟩ := bt_eras hp H hq hd (nI c) (p + 1) 0 (by omega) 0
      exact bt_keyX hq (br_f bt_01 (bt_dayX hd (br_f bt_01 ⟨p + 1 + 1, rX _ ⟨p + 1 + 1, rY _ ⟨rfl, J⟩⟩⟩)))
    · exact bt_keyX hq (br_f bt_01 (dX _ (br_t rfl ⟨1, br_f hn (bt_keyY hq (br_f bt_01 (dY _ _ ⟨rfl, J⟩)))⟩)))
  · exact qX _ (br_t rfl ⟨1, br_f hn (qY _ _ _ _ (br_t rfl ⟨rfl, J⟩))⟩)
theorem i_vc_eraFrom {k : Nat} {u : SX} {v : SY} (I : i_Rel k u v) (hk : k + 5 ≤ 2560) (v1 : Int32) (v2 : Int32) (v3 : Int32) : wpX_eraFrom (fun r => wpY_eraFrom (fun r' => r' = r ∧ i_Rel (k + 5) u v) v v1 v2 v3) u v1 v2 v3 := by
  obtain ⟨p, c, a, b, rfl, rfl, hp, hc, H⟩ := I
  have J : i_Rel (k + 5) (nI p, nI c, a) (nI p, nI c, b) := ⟨p, c, a, b, rfl, rfl, hp, hc, H⟩
  have hn : ¬ nI p < 0 := nI_pos (by omega)
  unfold wpX_eraFrom wpY_eraFrom
  dsimp only
  rcases bt_keyN v1 with ⟨q, hq, rfl⟩ | ⟨qX, qY⟩
  · rcases bt_dayN v2 with ⟨d, hd, rfl⟩ | ⟨dX, dY⟩
    · obtain ⟨r, rX, rY⟩ := bt_eraFrom hp H hq hd (nI c) v3 (p + 1) 0 (by omega) 0
      exact bt_keyX hq (br_f bt_01 (bt_dayX hd (br_f bt_01 ⟨p + 1 + 1, rX _ ⟨p + 1 + 1, rY _ ⟨rfl, J⟩⟩⟩)))
    · exact bt_keyX hq (br_f bt_01 (dX _ (br_t rfl ⟨1, br_f hn (bt_keyY hq (br_f bt_01 (dY _ _ ⟨rfl, J⟩)))⟩)))
  · exact qX _ (br_t rfl ⟨1, br_f hn (qY _ _ _ _ (br_t rfl ⟨rfl, J⟩))⟩)
theorem i_vc_difference {k : Nat} {u : SX} {v : SY} (I : i_Rel k u v) (hk : k + 5 ≤ 2560) (v1 : Int32) (v2 : Int32) (v3 : Int32) : wpX_difference (fun r => wpY_difference (fun r' => r' = r ∧ i_Rel (k + 5) u v) v v1 v2 v3) u v1 v2 v3 := by
  obtain ⟨p, c, a, b, rfl, rfl, hp, hc, H⟩ := I
  have J : i_Rel (k + 5) (nI p, nI c, a) (nI p, nI c, b) := ⟨p, c, a, b, rfl, rfl, hp, hc, H⟩
  unfold wpX_difference wpY_difference
  dsimp only
  rcases bt_tickN p v1 with ⟨t, ht, rfl⟩ | ⟨tX, tY⟩
  · rcases bt_tickN p v2 with ⟨s, hs, rfl⟩ | ⟨sX, sY⟩
    · rcases bt_keyN v3 with ⟨q, hq, rfl⟩ | ⟨qX, qY⟩
      · obtain ⟨r, rX, rY⟩ := bt_diff hp H ht hs hq (nI p) (nI c) 16 0 rfl 0
        exact bt_tickX hp ht (br_f bt_01 (bt_tickX hp hs (br_f bt_01 (bt_keyX hq (br_f bt_01 (bt_rowOf (bt_rowOf ⟨17, rX _ (bt_tickY hp ht (br_f bt_01 (bt_tickY hp hs (br_f bt_01 (bt_keyY hq (br_f bt_01 ⟨17, rY _ ⟨rfl, J⟩⟩))))))⟩)))))))
      · exact bt_tickX hp ht (br_f bt_01 (bt_tickX hp hs (br_f bt_01 (qX _ (br_t rfl (bt_tickY hp ht (br_f bt_01 (bt_tickY hp hs (br_f bt_01 (qY _ _ _ _ (br_t rfl ⟨rfl, J⟩)))))))))))
    · exact bt_tickX hp ht (br_f bt_01 (sX _ _ _ (br_t rfl (bt_tickY hp ht (br_f bt_01 (sY _ _ _ (br_t rfl ⟨rfl, J⟩)))))))
  · exact tX _ _ _ (br_t rfl (tY _ _ _ (br_t rfl ⟨rfl, J⟩)))
theorem i_vc_count {k : Nat} {u : SX} {v : SY} (I : i_Rel k u v) (hk : k + 5 ≤ 2560) (v1 : Int32) (v2 : Int32) : wpX_count (fun r => wpY_count (fun r' => r' = r ∧ i_Rel (k + 5) u v) v v1 v2) u v1 v2 := by
  obtain ⟨p, c, a, b, rfl, rfl, hp, hc, H⟩ := I
  have J : i_Rel (k + 5) (nI p, nI c, a) (nI p, nI c, b) := ⟨p, c, a, b, rfl, rfl, hp, hc, H⟩
  unfold wpX_count wpY_count
  dsimp only
  rcases bt_tickN p v1 with ⟨t, ht, rfl⟩ | ⟨tX, tY⟩
  · rcases bt_valN v2 with ⟨w, hw, rfl⟩ | ⟨wX, wY⟩
    · obtain ⟨r, rX, rY⟩ := bt_count hp H ht hw (nI c) 64 0 rfl 0
      exact bt_tickX hp ht (br_f bt_01 (bt_valX hw (br_f bt_01 (nm_r (bt_46 t) ⟨65, rX _ ⟨65, rY _ ⟨rfl, J⟩⟩⟩))))
    · exact bt_tickX hp ht (br_f bt_01 (wX _ (br_t rfl ⟨1, br_f bt_640 (bt_tickY hp ht (br_f bt_01 (wY _ _ ⟨rfl, J⟩)))⟩)))
  · exact tX _ _ _ (br_t rfl ⟨1, br_f bt_640 (tY _ _ _ (br_t rfl ⟨rfl, J⟩))⟩)
theorem i_vc_agree {k : Nat} {u : SX} {v : SY} (I : i_Rel k u v) (hk : k + 5 ≤ 2560) (v1 : Int32) (v2 : Int32) (v3 : Int32) : wpX_agree (fun r => wpY_agree (fun r' => r' = r ∧ i_Rel (k + 5) u v) v v1 v2 v3) u v1 v2 v3 := by
  obtain ⟨p, c, a, b, rfl, rfl, hp, hc, H⟩ := I
  have J : i_Rel (k + 5) (nI p, nI c, a) (nI p, nI c, b) := ⟨p, c, a, b, rfl, rfl, hp, hc, H⟩
  unfold wpX_agree wpY_agree
  dsimp only
  rcases bt_tickN p v1 with ⟨t, ht, rfl⟩ | ⟨tX, tY⟩
  · rcases bt_keyN v2 with ⟨q, hq, rfl⟩ | ⟨qX, qY⟩
    · rcases bt_keyN v3 with ⟨l, hl, rfl⟩ | ⟨lX, lY⟩
      · obtain ⟨r, rX, rY⟩ := bt_agree hp H ht hq hl (nI c) 16 0 rfl 0
        exact bt_tickX hp ht (br_f bt_01 (bt_keyX hq (br_f bt_01 (bt_keyX hl (br_f bt_01 (bt_rowOf (bt_rowOf ⟨17, rX _ ⟨17, rY _ ⟨rfl, J⟩⟩⟩)))))))
      · exact bt_tickX hp ht (br_f bt_01 (bt_keyX hq (br_f bt_01 (lX _ (br_t rfl ⟨1, br_f bt_160 (bt_tickY hp ht (br_f bt_01 (bt_keyY hq (br_f bt_01 (lY _ _ _ _ (br_t rfl ⟨rfl, J⟩))))))⟩)))))
    · exact bt_tickX hp ht (br_f bt_01 (qX _ (br_t rfl ⟨1, br_f bt_160 (bt_tickY hp ht (br_f bt_01 (qY _ _ _ _ (br_t rfl ⟨rfl, J⟩))))⟩)))
  · exact tX _ _ _ (br_t rfl ⟨1, br_f bt_160 (tY _ _ _ (br_t rfl ⟨rfl, J⟩))⟩)
theorem i_vc_rectangles {k : Nat} {u : SX} {v : SY} (I : i_Rel k u v) (hk : k + 5 ≤ 2560) (v1 : Int32) : wpX_rectangles (fun r => wpY_rectangles (fun r' => r' = r ∧ i_Rel (k + 5) u v) v v1) u v1 := by
  obtain ⟨p, c, a, b, rfl, rfl, hp, hc, H⟩ := I
  have J : i_Rel (k + 5) (nI p, nI c, a) (nI p, nI c, b) := ⟨p, c, a, b, rfl, rfl, hp, hc, H⟩
  have hn : ¬ nI p < 0 := nI_pos (by omega)
  unfold wpX_rectangles wpY_rectangles
  dsimp only
  rcases bt_keyN v1 with ⟨q, hq, rfl⟩ | ⟨qX, qY⟩
  · obtain ⟨r, rX, rY⟩ := bt_rect hp H hq (nI c) (p + 1) 0 (by omega) 0
    exact bt_keyX hq (br_f bt_01 ⟨p + 1 + 1, rX _ ⟨p + 1 + 1, rY _ ⟨rfl, J⟩⟩⟩)
  · exact qX _ (br_t rfl ⟨1, br_f hn (qY _ _ _ _ (br_t rfl ⟨rfl, J⟩))⟩)
