/-! small calls -/
theorem sp_0 : (0 : Int32).toNatClampNeg = 0 := rfl
theorem sp_1 : (1 : Int32).toNatClampNeg = 1 := rfl
theorem pu_wipe : op_wipe zRel := by
  intro I J IM JM hR
  obtain ⟨b, hb, hC, hM, hT, hH, hK, hP⟩ := hR
  obtain ⟨n, hn, t1, t2, t3⟩ := id hT
  refine ⟨nI n, _, _, by unfold f_X11_wipe; simp only [zn_e, t1]; rfl, by unfold f_X12_wipe; simp only [zn_e, t2]; rfl, b, hb, ?_, ?_, ?_, ?_, ?_, ?_⟩
  · exact hC.eq (fun k hk => up_n (by omega))
  · exact hM.eq (fun k h1 h2 => up_n (by omega))
  · exact ⟨0, by omega, by simp [up_s]; rfl, by simp [up_s]; rfl, fun k hk => absurd hk (by omega)⟩
  · exact hH.eq (fun k hk => up_n (by omega)) (fun k hk => by rw [up_n (by omega)]) (by rw [up_n (by omega)]) (fun k hk => by rw [up_n (by omega)])
  · obtain ⟨m, h1, h2, h3, h4⟩ := hK
    exact ⟨m, h1, by rw [up_n (by omega)]; exact h2, by rw [up_s, up_n (by omega)]; exact h3, fun j hj => (h4 j hj).eq (fun k hk => up_n (by omega)) (fun k hk => by rw [up_n (by omega)]) (by rw [up_n (by omega)]) (fun k hk => by rw [up_n (by omega)])⟩
  · exact hP.eq (fun k h1 h2 => up_n (by omega)) (fun k h1 h2 => rfl)
theorem pu_noLog : op_noLog zRel := by
  intro I J IM JM hR
  obtain ⟨b, hb, hC, hM, hT, hH, hK, hP⟩ := hR
  obtain ⟨sp, li, ev, n, h1, h2, h3, h4, h5, h6, h7⟩ := id hH
  refine ⟨nI n, _, _, by unfold f_X11_noLog; simp only [zn_e, h5]; rfl, by unfold f_X12_noLog; rw [zg_t (by decide), zn_e, zg_t (by decide), zn_e, sp_0, h6.2.2.2], b, hb, ?_, ?_, ?_, ?_, ?_, ?_⟩
  · exact hC.eq (fun k hk => up_n (by omega))
  · exact hM.eq (fun k h1 h2 => up_n (by omega))
  · exact hT.eq (by rw [up_n (by omega)]) (by rw [up_n (by omega)]) (by rw [up_n (by omega)]) (by rw [up_n (by omega)])
  · refine ⟨sp, li, ev, 0, h1, h2, h3, by omega, ?_, ?_, fun k hk => absurd hk (by omega)⟩
    · simp only [up_s, up_n (show (3 : Nat) ≠ 2 by omega), up_n (show (4 : Nat) ≠ 2 by omega), up_n (show (5 : Nat) ≠ 2 by omega)]; exact ⟨h5.1, h5.2.1, h5.2.2.1, rfl⟩
    · simp only [up_s, ud_s, up_n (show (12 : Nat) ≠ 13 by omega)]; exact ⟨h6.1, h6.2.1, h6.2.2.1, rfl⟩
  · obtain ⟨m, g1, g2, g3, g4⟩ := hK
    exact ⟨m, g1, by rw [up_n (by omega)]; exact g2, by rw [up_n (by omega)]; exact g3, fun j hj => (g4 j hj).eq (fun k hk => up_n (by omega)) (fun k hk => by rw [up_n (by omega)]) (by rw [up_s, ud_n (by omega)]) (fun k hk => by rw [up_n (by omega)])⟩
  · exact hP.eq (fun k h1 h2 => up_n (by omega)) (fun k h1 h2 => rfl)
theorem pu_count : op_count zRel := by
  intro I J IM JM hR p1
  have hR0 := hR
  obtain ⟨b, hb, hC, hM, hT, hH, hK, hP⟩ := hR
  obtain ⟨n, hn, t1, t2, t3⟩ := hT
  obtain ⟨sp, li, ev, r, h1, h2, h3, h4, h5, h6, h7⟩ := hH
  obtain ⟨m, g1, g2, g3, g4⟩ := hK
  have c9 : I 4 9 = nI (b 9 0) := hC.1 0 (by omega)
  have c10 : I 4 10 = nI (b 9 1) := hC.1 1 (by omega)
  have c11 : I 4 11 = nI (b 9 2) := hC.1 2 (by omega)
  obtain ⟨⟨m3, m5, m9⟩, -⟩ := hM
  have e1 : f_X12_count IM JM p1 = some (if p1 = 0 then nI (b 9 0) else if p1 = 1 then nI (b 9 1) else if p1 = 2 then nI (b 9 2) else if p1 = 3 then nI n else if p1 = 4 then nI r else if p1 = 5 then nI m else -1) := by
    unfold f_X12_count
    rw [zg_t (by decide), zg_t (by decide), zg_t (by decide), zg_t (by decide), sp_0, m3, m5, m9, t2, g3, show IM 13 0 = nI r from h6.2.2.2]
    split <;> try rfl
    split <;> try rfl
    split <;> try rfl
    split <;> try rfl
    split <;> try rfl
    split <;> rfl
  have e2 : f_X11_count I J p1 = some (if p1 = 0 then nI (b 9 0) else if p1 = 1 then nI (b 9 1) else if p1 = 2 then nI (b 9 2) else if p1 = 3 then nI n else if p1 = 4 then nI r else if p1 = 5 then nI m else -1) := by
    unfold f_X11_count
    rw [c9, c10, c11, t1, g2, h5.2.2.2]
    split <;> try rfl
    split <;> try rfl
    split <;> try rfl
    split <;> try rfl
    split <;> try rfl
    split <;> rfl
  exact ⟨_, e2, e1, hR0⟩
