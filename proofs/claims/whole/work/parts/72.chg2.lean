/-! changes of harnesses -/
section IU
variable {r : Row} {B k c v : Int}
theorem IH_up10 (h : IH B r) (hk : 0 ≤ k ∧ k < r 470) (hc : c = 2 ∨ c = 3) (hv : (c = 2 → 0 ≤ v ∧ v ≤ 9999) ∧ (c = 3 → v = 0 ∨ v = 1)) : IH B (rup r (471 + 5 * k + c) v) := by
  obtain ⟨hn, hw, hr, hh, hm, hcc⟩ := h
  have hn' := hn
  unfold IHn at hn'
  have eX : ∀ i, i < 471 ∨ 546 ≤ i → rup r (471 + 5 * k + c) v i = r i := fun m a => rup_ne (by omega)
  refine ⟨?_, fun i a b => ?_, fun i a b => ?_, fun i a b => ?_, fun i a b => ?_, fun i a b => ?_⟩
  · unfold IHn
    rw [eX _ (by omega), eX _ (by omega), eX _ (by omega), eX _ (by omega), eX _ (by omega), eX _ (by omega), eX _ (by omega), eX _ (by omega), eX _ (by omega), eX _ (by omega)]
    exact hn
  · rw [eX _ (by omega)] at b
    rw [eX _ (by omega), eX _ (by omega), eX _ (by omega)]
    exact hw i a b
  · rw [eX _ (by omega)] at b
    have q := hr i a b
    rw [eX _ (by omega), eX _ (by omega), eX _ (by omega), eX _ (by omega), eX _ (by omega), eX _ (by omega)]
    refine ⟨q.1, q.2.1, q.2.2.1, q.2.2.2.1, q.2.2.2.2.1, fun m x y => ?_⟩
    rw [eX _ (by omega)]
    exact q.2.2.2.2.2 m x y
  · rw [eX _ (by omega)] at b
    have q := hh i a b
    rw [eX 546 (by omega), rup_ne (j := 471 + 5 * i + 1) (by omega), rup_ne (j := 471 + 5 * i + 4) (by omega)]
    refine ⟨q.1, ?_, ?_, q.2.2.2.1, q.2.2.2.2.trans ⟨?_, ?_⟩⟩
    · rw [rup_at]
      split
      · exact hv.1 (by clear q; omega)
      · exact q.2.1
    · rw [rup_at]
      split
      · exact hv.2 (by clear q; omega)
      · exact q.2.2.1
    · rintro ⟨m, x, y, w⟩
      exact ⟨m, x, y, by rw [eX _ (by omega)]; exact w⟩
    · rintro ⟨m, x, y, w⟩
      rw [eX _ (by omega)] at w
      exact ⟨m, x, y, w⟩
  · rw [eX _ (by omega)] at b
    have q := hm i a b
    rw [eX 470 (by omega), eX 546 (by omega), eX 619 (by omega), eX _ (by omega), eX _ (by omega), eX _ (by omega), eX _ (by omega), eX _ (by omega)]
    refine ⟨q.1, q.2.1, q.2.2.1, q.2.2.2.1, q.2.2.2.2.1, fun m x y => ?_⟩
    rw [eX _ (by omega)]
    exact q.2.2.2.2.2 m x y
  · rw [eX _ (by omega)] at b
    rw [eX _ (by omega), eX _ (by omega), eX _ (by omega)]
    exact hcc i a b
/-- a harness is lent, or given back -/
theorem IH_hand {x w y : Int} (h : IH B r) (hk : 0 ≤ k ∧ k < r 546) (hw : 0 ≤ w ∧ w < r 470) (hx : -1 ≤ x ∧ x < r 470) (hy : y = 0 ∨ y = 1)
    (hA : ∀ i, 0 ≤ i → i < r 470 → ((if i = w then y else r (471 + 5 * i + 4)) = 1 ↔ ∃ m, 0 ≤ m ∧ m < r 546 ∧ (if m = k then x else r (547 + 6 * m + 3)) = i))
    (hB : ∀ m m', 0 ≤ m → m < r 546 → 0 ≤ m' → m' < r 546 → m ≠ m' → (if m = k then x else r (547 + 6 * m + 3)) = (if m' = k then x else r (547 + 6 * m' + 3)) → (if m = k then x else r (547 + 6 * m + 3)) = -1) :
    IH B (rup (rup r (547 + 6 * k + 3) x) (471 + 5 * w + 4) y) := by
  obtain ⟨hn, hww, hr, hh, hm, hcc⟩ := h
  have hn' := hn
  unfold IHn at hn'
  have eX : ∀ i, i ≠ 547 + 6 * k + 3 → i ≠ 471 + 5 * w + 4 → rup (rup r (547 + 6 * k + 3) x) (471 + 5 * w + 4) y i = r i := fun i p q => by rw [rup_ne q, rup_ne p]
  have e3 : ∀ m, 0 ≤ m → rup (rup r (547 + 6 * k + 3) x) (471 + 5 * w + 4) y (547 + 6 * m + 3) = if m = k then x else r (547 + 6 * m + 3) := fun m hm0 => by
    by_cases e : m = k
    · rw [if_pos e, e, rup_ne (by omega), rup_at, if_pos rfl]
    · rw [if_neg e, eX _ (by omega) (by omega)]
  have e4 : ∀ i, i < r 470 → rup (rup r (547 + 6 * k + 3) x) (471 + 5 * w + 4) y (471 + 5 * i + 4) = if i = w then y else r (471 + 5 * i + 4) := fun i hi => by
    by_cases e : i = w
    · rw [if_pos e, e, rup_at, if_pos rfl]
    · rw [if_neg e, eX _ (by omega) (by omega)]
  refine ⟨?_, fun i a b => ?_, fun i a b => ?_, fun i a b => ?_, fun i a b => ?_, fun i a b => ?_⟩
  · unfold IHn
    rw [eX _ (by omega) (by omega), eX _ (by omega) (by omega), eX _ (by omega) (by omega), eX _ (by omega) (by omega), eX _ (by omega) (by omega), eX _ (by omega) (by omega), eX _ (by omega) (by omega), eX _ (by omega) (by omega), eX _ (by omega) (by omega), eX _ (by omega) (by omega)]
    exact hn
  · rw [eX _ (by omega) (by omega)] at b
    rw [eX _ (by omega) (by omega), eX _ (by omega) (by omega), eX _ (by omega) (by omega)]
    exact hww i a b
  · rw [eX _ (by omega) (by omega)] at b
    have q := hr i a b
    rw [eX _ (by omega) (by omega), eX _ (by omega) (by omega), eX _ (by omega) (by omega), eX _ (by omega) (by omega), eX _ (by omega) (by omega), eX _ (by omega) (by omega)]
    refine ⟨q.1, q.2.1, q.2.2.1, q.2.2.2.1, q.2.2.2.2.1, fun m s t => ?_⟩
    rw [eX _ (by omega) (by omega)]
    exact q.2.2.2.2.2 m s t
  · rw [eX _ (by omega) (by omega)] at b
    have q := hh i a b
    have q2 := q.2.1
    have q3 := q.2.2.1
    have q1 := q.1
    clear q
    rw [eX 546 (by omega) (by omega), e4 i b, eX _ (by omega) (by omega), eX _ (by omega) (by omega), eX _ (by omega) (by omega)]
    refine ⟨q1, q2, q3, ?_, (hA i a b).trans ⟨?_, ?_⟩⟩
    · have q4 := (hh i a b).2.2.2.1
      split
      · exact hy
      · exact q4
    · rintro ⟨m, s, t, u⟩
      exact ⟨m, s, t, by rw [e3 m s]; exact u⟩
    · rintro ⟨m, s, t, u⟩
      rw [e3 m s] at u
      exact ⟨m, s, t, u⟩
  · rw [eX _ (by omega) (by omega)] at b
    have q := hm i a b
    rw [eX 470 (by omega) (by omega), eX 546 (by omega) (by omega), eX 619 (by omega) (by omega), e3 i a, eX _ (by omega) (by omega), eX _ (by omega) (by omega), eX _ (by omega) (by omega), eX _ (by omega) (by omega)]
    refine ⟨q.1, q.2.1, ?_, q.2.2.2.1, q.2.2.2.2.1, fun m s t u => ?_⟩
    · have q3 := q.2.2.1
      split
      · exact hx
      · exact q3
    · rw [e3 m s]
      exact hB i m a b s t u
  · rw [eX _ (by omega) (by omega)] at b
    rw [eX _ (by omega) (by omega), eX _ (by omega) (by omega), eX _ (by omega) (by omega)]
    exact hcc i a b
end IU
section CH
variable {r : Row} {B v1 v2 v3 : Int}
theorem rup_same {p v : Int} (h : r p = v) : rup r p v = r := by
  funext j
  rw [rup_at]
  split
  · rename_i e; rw [e, h]
  · rfl
theorem g_check (hI : IH B r) (q1 : 0 ≤ v1 ∧ v1 < r 470) (q2 : ¬ sRet r v1) (q3 : ¬ sLent r v1) : ∃ r' v, Chg r r' v (fL_check v1 v2) (fX6_check v1 v2) ∧ IH B r' := by
  have hn := hI.1
  unfold IHn at hn
  have hx := (hI.2.2.2.1 v1 q1.1 q1.2).2.2.1
  have h30 : r (471 + 5 * v1 + 3) = 0 := by unfold sRet at q2; omega
  have I2 : IH B (rup r (471 + 5 * v1 + 2) (r 3)) := IH_up10 hI q1 (Or.inl rfl) ⟨fun _ => by omega, fun e => by omega⟩
  have k2 : rup r (471 + 5 * v1 + 2) (r 3) 470 = r 470 := rup_ne (by omega)
  have st : (if sRet r v1 then (2 : Int) else if sLent r v1 then 1 else 0) = 0 := by rw [if_neg q2, if_neg q3]
  have gp2 : (0 : Int) ≤ 471 + 5 * v1 + 2 ∧ 471 + 5 * v1 + 2 < 765 := by omega
  have gp3 : (0 : Int) ≤ 471 + 5 * v1 + 3 ∧ 471 + 5 * v1 + 3 < 765 := by omega
  have cls : ∀ z, RC z r → 0 ≤ z 32 1 ∧ z 32 1 ≤ 8 → 0 ≤ z 32 2 ∧ z 32 2 < 8 → ∃ z1, fX2_remember z = some z1 ∧ RC z1 r ∧ fX4_set 10 v1 2 (z1 3 7) z1 = some (zup z1 11 (v1 * 4 + 2) (r 3)) ∧ RC (zup z1 11 (v1 * 4 + 2) (r 3)) (rup r (471 + 5 * v1 + 2) (r 3)) ∧ (∀ w, fX4_set 10 v1 3 w (zup z1 11 (v1 * 4 + 2) (r 3)) = some (zup (zup z1 11 (v1 * 4 + 2) (r 3)) 11 (v1 * 4 + 3) w) ∧ RC (zup (zup z1 11 (v1 * 4 + 2) (r 3)) 11 (v1 * 4 + 3) w) (rup (rup r (471 + 5 * v1 + 2) (r 3)) (471 + 5 * v1 + 3) w)) ∧ ∀ w u, CW z (zup (zup (zup z1 11 (v1 * 4 + 2) (r 3)) 11 (v1 * 4 + 3) w) 159 0 u) r := by
    intro z hR hu hl
    obtain ⟨z1, e1, R1, w1⟩ := c_rem hR hI hu hl
    have R2 := RC_up10 (v := r 3) R1 hI.1 q1 (c := 2) (by omega)
    refine ⟨z1, e1, R1, ?_, R2, fun w => ⟨?_, RC_up10 R2 I2.1 (by rw [k2]; exact q1) (by omega)⟩, fun w u => w1 _ (fun a p1 p2 p3 p4 p5 => ?_)⟩
    · rw [(RCn R1).2.2.2.2.2.2.1]
      exact set_ok kT10 (by rw [(RCn R1).2.2.2.1]; exact q1) (by rw [(RCn R1).2.2.2.1]; show r 470 ≤ 15; omega) (show 0 ≤ 2 ∧ 2 < 4 by omega)
    · exact set_ok kT10 (by rw [(RCn R2).2.2.2.1, k2]; exact q1) (by rw [(RCn R2).2.2.2.1, k2]; show r 470 ≤ 15; omega) (show 0 ≤ 3 ∧ 3 < 4 by omega)
    · rw [zup_ne p3, zup_ne (by omega), zup_ne (by omega)]
  by_cases q : v2 = 0
  · refine ⟨rup (rup r (471 + 5 * v1 + 2) (r 3)) (471 + 5 * v1 + 3) 1, -1, ⟨fun z hR hu hl => ?_, fun z hM h8 => ?_⟩, IH_up10 I2 (by rw [k2]; exact q1) (Or.inr rfl) ⟨fun e => by omega, fun _ => Or.inr rfl⟩⟩
    · obtain ⟨z1, e1, R1, s1, R2, s2, w1⟩ := cls z hR hu hl
      refine ⟨_, ?_, ?_, Qt_RC Qt_159 (s2 1).2, w1 1 (-1)⟩
      · simp only [fL_check, fX5_check, fX1_addCheck, n_row, (RCn hR).2.2.2.1, if_pos q1, Option.bind_some, c_stateOf hR hI q1, st, if_true, e1, s1, (s2 1).1, if_pos q]
      · rw [zup_at, if_pos rfl]
    · have hM1 := zup_154 (e := 0) hM
      obtain ⟨z1, e1, r1, w1⟩ := m_rec hM h8 (FM_rf _)
      refine ⟨zup (zup z1 154 (471 + 5 * v1 + 2) (r 3)) 154 (471 + 5 * v1 + 3) 1, ?_, ?_, w1 _ (fun a p1 p2 p3 p4 => by rw [zup_ne p2, zup_ne p2]) (fun j p1 p2 p3 => by rw [zup_ne (by decide), zup_ne (by decide)])⟩
      · simp only [fX6_check, fX6_check_b39, fX6_check_b40, fX6_setHarness, zl, mi_harness hM1 hI, m_failsb, m_fails0, m_fails1, if_pos q1, if_true, Option.bind_some, m_isLent hM1 hI q1, m_isRetired hM1 hI q1, ite_bI, if_neg q2, if_neg q3, e1, r1, if_pos gp2, if_pos gp3, if_pos q]
      · funext j
        rw [zup_at, zup_at, r1]
        rfl
  · refine ⟨rup r (471 + 5 * v1 + 2) (r 3), sLapse (rup r (471 + 5 * v1 + 2) (r 3)) v1, ⟨fun z hR hu hl => ?_, fun z hM h8 => ?_⟩, I2⟩
    · obtain ⟨z1, e1, R1, s1, R2, s2, w1⟩ := cls z hR hu hl
      have es := rup_same (r := rup r (471 + 5 * v1 + 2) (r 3)) (p := 471 + 5 * v1 + 3) (v := 0) (by rw [rup_ne (by omega)]; exact h30)
      have R3 := (s2 0).2
      rw [es] at R3
      refine ⟨_, ?_, ?_, Qt_RC Qt_159 R3, w1 0 (sLapse (rup r (471 + 5 * v1 + 2) (r 3)) v1)⟩
      · simp only [fL_check, fX5_check, fX1_addCheck, n_row, (RCn hR).2.2.2.1, if_pos q1, Option.bind_some, c_stateOf hR hI q1, st, if_true, e1, s1, (s2 0).1, if_neg q, c_lapseOf R3 I2 (show 0 ≤ v1 ∧ v1 < rup r (471 + 5 * v1 + 2) (r 3) 470 by rw [k2]; exact q1)]
      · rw [zup_at, if_pos rfl]
    · have hM1 := zup_154 (e := 0) hM
      obtain ⟨z1, e1, r1, w1⟩ := m_rec hM h8 (FM_rf _)
      have r2 : zup z1 154 (471 + 5 * v1 + 2) (r 3) 154 = rup r (471 + 5 * v1 + 2) (r 3) := by
        funext j
        rw [zup_at, r1]
        rfl
      refine ⟨zup z1 154 (471 + 5 * v1 + 2) (r 3), ?_, r2, w1 _ (fun a p1 p2 p3 p4 => by rw [zup_ne p2]) (fun j p1 p2 p3 => by rw [zup_ne (by decide)])⟩
      simp only [fX6_check, fX6_check_b39, fX6_check_b40, fX6_setHarness, zl, mi_harness hM1 hI, m_failsb, m_fails0, m_fails1, if_pos q1, if_true, Option.bind_some, m_isLent hM1 hI q1, m_isRetired hM1 hI q1, ite_bI, if_neg q2, if_neg q3, e1, r1, if_pos gp2, if_pos gp3, if_neg q]
      simp only [bI_f q2, bI_f q3, if_true, m_fails1, Option.bind_some, e1, r1, if_pos gp2, if_neg q, m_lapse r2 I2 (show 0 ≤ v1 ∧ v1 < rup r (471 + 5 * v1 + 2) (r 3) 470 by rw [k2]; exact q1)]
end CH
