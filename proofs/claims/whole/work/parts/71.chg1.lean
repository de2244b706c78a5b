/-! the simple changes -/
section IU
variable {r : Row} {B k c v : Int}
theorem IH_up4 (h : IH B r) (hk : 0 ≤ k ∧ k < r 4) (hv : 0 ≤ v ∧ v ≤ B) : IH B (rup r (5 + 4 * k + 3) v) := by
  obtain ⟨hn, hw, hr, hh, hm, hcc⟩ := h
  have hn' := hn
  unfold IHn at hn'
  have e4 : rup r (5 + 4 * k + 3) v 4 = r 4 := rup_ne (by omega)
  have e37 : rup r (5 + 4 * k + 3) v 37 = r 37 := rup_ne (by omega)
  have e470 : rup r (5 + 4 * k + 3) v 470 = r 470 := rup_ne (by omega)
  have e546 : rup r (5 + 4 * k + 3) v 546 = r 546 := rup_ne (by omega)
  have e619 : rup r (5 + 4 * k + 3) v 619 = r 619 := rup_ne (by omega)
  have e644 : rup r (5 + 4 * k + 3) v 644 = r 644 := rup_ne (by omega)
  have eX : ∀ i, 37 ≤ i → rup r (5 + 4 * k + 3) v i = r i := fun m a => rup_ne (by omega)
  refine ⟨?_, fun i a b => ?_, fun i a b => ?_, fun i a b => ?_, fun i a b => ?_, fun i a b => ?_⟩
  · unfold IHn
    rw [e4, e37, e470, e546, e619, e644, rup_ne (by omega), rup_ne (by omega), rup_ne (by omega), rup_ne (by omega)]
    exact hn
  · rw [e4] at b
    have q := hw i a b
    rw [rup_ne (by omega), rup_ne (by omega), rup_at]
    refine ⟨q.1, q.2.1, ?_⟩
    split
    · exact hv
    · exact q.2.2
  · rw [e37] at b
    have q := hr i a b
    rw [e4, eX _ (by omega), eX _ (by omega), eX _ (by omega), eX _ (by omega), eX _ (by omega)]
    refine ⟨q.1, q.2.1, q.2.2.1, q.2.2.2.1, q.2.2.2.2.1, fun m x y => ?_⟩
    rw [eX _ (by omega)]
    exact q.2.2.2.2.2 m x y
  · rw [e470] at b
    have q := hh i a b
    rw [e546, eX _ (by omega), eX _ (by omega), eX _ (by omega), eX _ (by omega)]
    refine ⟨q.1, q.2.1, q.2.2.1, q.2.2.2.1, q.2.2.2.2.trans ⟨?_, ?_⟩⟩
    · rintro ⟨m, x, y, w⟩
      exact ⟨m, x, y, by rw [eX _ (by omega)]; exact w⟩
    · rintro ⟨m, x, y, w⟩
      rw [eX _ (by omega)] at w
      exact ⟨m, x, y, w⟩
  · rw [e546] at b
    have q := hm i a b
    rw [e470, e546, e619, eX _ (by omega), eX _ (by omega), eX _ (by omega), eX _ (by omega), eX _ (by omega)]
    refine ⟨q.1, q.2.1, q.2.2.1, q.2.2.2.1, q.2.2.2.2.1, fun m x y => ?_⟩
    rw [eX _ (by omega)]
    exact q.2.2.2.2.2 m x y
  · rw [e619] at b
    rw [eX _ (by omega), eX _ (by omega), eX _ (by omega)]
    exact hcc i a b
end IU
section CH
variable {r : Row} {B v1 v2 v3 : Int}
/-- leaving a course -/
theorem g_leave (hI : IH B r) (q1 : 0 ≤ v1 ∧ v1 < r 546) (q2 : r (547 + 6 * v1 + 4) ≠ -1) : Chg r (rup r (547 + 6 * v1 + 4) (-1)) (r (547 + 6 * v1 + 4)) (fL_leaveCourse v1) (fX6_leaveCourse v1) := by
  have hn := hI.1
  unfold IHn at hn
  refine ⟨fun z hR hu hl => ?_, fun z hM h8 => ?_⟩
  · obtain ⟨z1, e1, R1, w1⟩ := c_rem hR hI hu hl
    have es : fX4_set 12 v1 4 (-1) z1 = some (zup z1 13 (v1 * 6 + 4) (-1)) := set_ok kT12 (by rw [(RCn R1).2.2.2.2.1]; exact q1) (by rw [(RCn R1).2.2.2.2.1]; show r 546 ≤ 12; omega) (show 0 ≤ 4 ∧ 4 < 6 by omega)
    refine ⟨zup (zup z1 13 (v1 * 6 + 4) (-1)) 159 0 (r (547 + 6 * v1 + 4)), ?_, ?_, ?_, w1 _ (fun a p1 p2 p3 p4 p5 => ?_)⟩
    · simp only [fL_leaveCourse, fX5_leaveCourse, n_row, (RCn hR).2.2.2.2.1, if_pos q1, Option.bind_some, cg12 hR hI q1 (c := 4) (by omega), if_neg q2, e1, es]
    · rw [zup_at, if_pos rfl]
    · exact Qt_RC Qt_159 (RC_up12 R1 hI.1 q1 (by omega))
    · rw [zup_ne p3, zup_ne (by omega)]
  · have hM1 := zup_154 (e := 0) hM
    obtain ⟨z1, e1, r1, w1⟩ := m_rec hM h8 (FM_rf _)
    refine ⟨zup z1 154 (547 + 6 * v1 + 4) (-1), ?_, ?_, w1 _ (fun a p1 p2 p3 p4 => zup_ne p2) (fun j p1 p2 p3 => by rw [zup_ne (by decide)])⟩
    · simp only [fX6_leaveCourse, fX6_leaveCourse_b34, fX6_setMember, zl, mi_member hM1 hI, m_failsb, m_fails0, m_fails1, if_pos q1, if_true, Option.bind_some, mg12 hM1 (k := v1) (c := 4) (by omega), mg12 r1 (k := v1) (c := 4) (by omega), if_neg q2, e1, if_pos (show 0 ≤ 547 + 6 * v1 + 4 ∧ 547 + 6 * v1 + 4 < 765 by omega)]
    · funext j
      rw [zup_at, r1]
      rfl
/-- putting off a wall -/
theorem g_postpone (hI : IH B r) (hB : B ≤ 900000) (q1 : 0 ≤ v1 ∧ v1 < r 4) (q2 : 1 ≤ v2 ∧ v2 ≤ 14) : Chg r (rup r (5 + 4 * v1 + 3) (r (5 + 4 * v1 + 3) + v2)) (r (5 + 4 * v1 + 3) + v2) (fL_postpone v1 v2) (fX6_postpone v1 v2) := by
  have hn := hI.1
  unfold IHn at hn
  have hx := (hI.2.1 v1 q1.1 q1.2).2.2
  refine ⟨fun z hR hu hl => ?_, fun z hM h8 => ?_⟩
  · obtain ⟨z1, e1, R1, w1⟩ := c_rem hR hI hu hl
    have ez : z1 5 (v1 * 4 + 3) = r (5 + 4 * v1 + 3) := by
      rw [show z1 5 (v1 * 4 + 3) = _ from R1.1.2 (v1 * 4 + 3) (by omega) (by omega)]
      congr 1
      omega
    have es : fX4_add 4 v1 3 v2 z1 = some (zup z1 5 (v1 * 4 + 3) (r (5 + 4 * v1 + 3) + v2)) := by
      have := add_ok (z := z1) (v := v2) kT4 (by rw [(RCn R1).1]; exact q1) (by rw [(RCn R1).1]; show r 4 ≤ 8; omega) (show 0 ≤ 3 ∧ 3 < 4 by omega) (by show inR (z1 5 (v1 * 4 + 3) + v2); rw [ez]; exact inR_s (by omega))
      rw [show z1 (4 + 1) (v1 * zCO 4 + 3) = r (5 + 4 * v1 + 3) from ez] at this
      exact this
    have R2 := RC_up4 (v := r (5 + 4 * v1 + 3) + v2) R1 hI.1 q1 (c := 3) (by omega)
    have I2 := IH_up4 (v := r (5 + 4 * v1 + 3) + v2) (IH_mono (B' := B + 60) hI (by omega) (by omega)) q1 (by omega)
    refine ⟨zup (zup z1 5 (v1 * 4 + 3) (r (5 + 4 * v1 + 3) + v2)) 159 0 (r (5 + 4 * v1 + 3) + v2), ?_, ?_, Qt_RC Qt_159 R2, w1 _ (fun a p1 p2 p3 p4 p5 => ?_)⟩
    · have eg := cg4 R2 I2 (k := v1) (c := 3) (by rw [rup_ne (by omega)]; exact q1) (by omega)
      rw [rup_at, if_pos rfl] at eg
      simp only [fL_postpone, fX5_postpone, n_row, n_btw, (RCn hR).1, if_pos q1, if_pos q2, Option.bind_some, e1, es, eg]
    · rw [zup_at, if_pos rfl]
    · rw [zup_ne p3, zup_ne (by omega)]
  · have hM1 := zup_154 (e := 0) hM
    obtain ⟨z1, e1, r1, w1⟩ := m_rec hM h8 (FM_rf _)
    have g1 : (0 : Int) ≤ 5 + 4 * v1 + 3 ∧ 5 + 4 * v1 + 3 < 765 := by omega
    have g2 : inR (r (5 + 4 * v1 + 3) + v2) := inR_s (by omega)
    have r2 : zup z1 154 (5 + 4 * v1 + 3) (r (5 + 4 * v1 + 3) + v2) 154 = rup r (5 + 4 * v1 + 3) (r (5 + 4 * v1 + 3) + v2) := by
      funext j
      rw [zup_at, r1]
      rfl
    refine ⟨zup z1 154 (5 + 4 * v1 + 3) (r (5 + 4 * v1 + 3) + v2), ?_, r2, w1 _ (fun a p1 p2 p3 p4 => zup_ne p2) (fun j p1 p2 p3 => by rw [zup_ne (by decide)])⟩
    have eg := mg4 r2 (k := v1) (c := 3) g1
    rw [rup_at, if_pos rfl] at eg
    simp only [fX6_postpone, zl, mi_wall hM1 hI, m_in, m_failsb, m_fails0, m_fails1, if_pos q1, if_pos q2, if_true, Option.bind_some, e1, r1, if_pos g1, if_pos g2, eg]
/-- joining a course -/
theorem g_enroll (hI : IH B r) (q1 : 0 ≤ v1 ∧ v1 < r 546) (q2 : 0 ≤ v2 ∧ v2 < r 619) (q3 : sEnroll r v1 v2) : Chg r (rup r (547 + 6 * v1 + 4) v2) ((pcn (sIn (rup r (547 + 6 * v1 + 4) v2) v2).toNat : Nat) : Int) (fL_enroll v1 v2) (fX6_enroll v1 v2) := by
  have hn := hI.1
  unfold IHn at hn
  have I2 : IH B (rup r (547 + 6 * v1 + 4) v2) := IH_up12 hI q1 (by omega) (by omega) ⟨fun e => by omega, fun e => by omega, fun _ => by omega, fun e => by omega⟩
  refine ⟨fun z hR hu hl => ?_, fun z hM h8 => ?_⟩
  · obtain ⟨z1, e1, R1, w1⟩ := c_rem hR hI hu hl
    have es : fX4_set 12 v1 4 v2 z1 = some (zup z1 13 (v1 * 6 + 4) v2) := set_ok kT12 (by rw [(RCn R1).2.2.2.2.1]; exact q1) (by rw [(RCn R1).2.2.2.2.1]; show r 546 ≤ 12; omega) (show 0 ≤ 4 ∧ 4 < 6 by omega)
    have R2 := RC_up12 (v := v2) R1 hI.1 q1 (c := 4) (by omega)
    refine ⟨zup (zup z1 13 (v1 * 6 + 4) v2) 159 0 ((pcn (sIn (rup r (547 + 6 * v1 + 4) v2) v2).toNat : Nat) : Int), ?_, ?_, ?_, w1 _ (fun a p1 p2 p3 p4 p5 => ?_)⟩
    · simp only [fL_enroll, fX5_enroll, n_row, (RCn hR).2.2.2.2.1, (RCn hR).2.2.2.2.2.1, if_pos q1, if_pos q2, Option.bind_some, c_mayEnroll hR hI q1 q2, ite_bI, if_pos q3, e1, es, c_membersIn R2 I2, c_bits (sIn_ok I2)]
    · rw [zup_at, if_pos rfl]
    · exact Qt_RC Qt_159 R2
    · rw [zup_ne p3, zup_ne (by omega)]
  · have hM1 := zup_154 (e := 0) hM
    obtain ⟨z1, e1, r1, w1⟩ := m_rec hM h8 (FM_rf _)
    have r2 : zup z1 154 (547 + 6 * v1 + 4) v2 154 = rup r (547 + 6 * v1 + 4) v2 := by
      funext j
      rw [zup_at, r1]
      rfl
    refine ⟨zup z1 154 (547 + 6 * v1 + 4) v2, ?_, r2, w1 _ (fun a p1 p2 p3 p4 => zup_ne p2) (fun j p1 p2 p3 => by rw [zup_ne (by decide)])⟩
    simp only [fX6_enroll, fX6_enroll_b26, fX6_enroll_b27, fX6_setMember, zl, mi_member hM1 hI, mi_course hM1 hI, m_failsb, m_fails0, m_fails1, if_pos q1, if_pos q2, ite_bI, if_true, Option.bind_some, m_mayEnroll hM1 hI q1 q2, if_pos q3, e1, if_pos (show 0 ≤ 547 + 6 * v1 + 4 ∧ 547 + 6 * v1 + 4 < 765 by omega), m_inCourse r2 I2, m_bits (sIn_ok I2)]
end CH
