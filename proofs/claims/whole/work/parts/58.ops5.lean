/-! write -/
theorem by_same (v : Int64) {s : Nat} (hs : s ≤ 56) : ((v.toUInt64 >>> ((nI s).toInt64.toUInt64 &&& Int64.toUInt64 63)).toInt64).toInt32.toInt8 = ((v >>> ((nI s).toInt64 &&& 63)).toInt32).toInt8 := by
  apply Int8.toBitVec_inj.mp
  rw [nI_l (by omega)]
  simp
  have e1 : ∀ s, s ≤ 56 → ((lN s).toBitVec.toNat &&& 63) % 64 = s := by decide +kernel
  have e2 : ∀ s, s ≤ 56 → (((lN s).toBitVec &&& 63#64).smod 64#64).toNat = s := by decide +kernel
  rw [e1 s hs, e2 s hs]
  ext i hi
  have h1 : s + i < 64 := by omega
  have h2 : i < 64 := by omega
  simp [BitVec.getElem_signExtend, BitVec.getElem_sshiftRight, h1, h2]
theorem nar_byte (x : Int32) : -128 ≤ (vp_nar .byte x).toInt ∧ (vp_nar .byte x).toInt ≤ 127 := by
  have e : vp_nar .byte x = x.toInt8.toInt32 := rfl
  have h1 := Int8.le_toInt x.toInt8
  have h2 := Int8.toInt_lt x.toInt8
  rw [e, Int8.toInt_toInt32]
  omega
theorem wr_loop (v : Int64) : ∀ (m : Nat), m ≤ 8 → ∀ (n : Nat) (I IM : zI), n + m ≤ 500 → I 1 2 = nI n → IM 0 0 = nI n → (∀ k, k < n → I 2 k = IM 1 k ∧ -128 ≤ (I 2 k).toInt ∧ (I 2 k).toInt ≤ 127) → ∀ f, m < f → ∃ I2 IM2 : zI, zl (fun w : (Int32 × zI) => f_X8_append_L21 v w.1 w.2) f (nI m - 1, I) = some I2 ∧ zl (fun w : (Int32 × zI) => f_X12_write_L34 v w.1 w.2) f (nI m - 1, IM) = some IM2 ∧ I2 1 2 = nI (n + m) ∧ IM2 0 0 = nI (n + m) ∧ (∀ k, k < n + m → I2 2 k = IM2 1 k ∧ -128 ≤ (I2 2 k).toInt ∧ (I2 2 k).toInt ≤ 127) ∧ (∀ k, k ≠ 1 → k ≠ 2 → I2 k = I k) ∧ (∀ k, k ≠ 0 → k ≠ 1 → IM2 k = IM k) ∧ IM2 0 13 = IM 0 13 := by
  intro m
  induction m with
  | zero =>
    intro _ n I IM hn h1 h2 h3 f hf
    obtain ⟨f', rfl⟩ : ∃ f', f = f' + 1 := ⟨f - 1, by omega⟩
    refine ⟨I, IM, zl_r ?_, zl_r ?_, h1, h2, h3, fun _ _ _ => rfl, fun _ _ _ => rfl, rfl⟩
    · show f_X8_append_L21 v (nI 0 - 1) I = _
      unfold f_X8_append_L21
      rw [if_pos (by decide)]
    · show f_X12_write_L34 v (nI 0 - 1) IM = _
      unfold f_X12_write_L34
      rw [if_pos (by decide)]
  | succ m ih =>
    intro hm n I IM hn h1 h2 h3 f hf
    obtain ⟨f', rfl⟩ : ∃ f', f = f' + 1 := ⟨f - 1, by omega⟩
    obtain ⟨c, hc⟩ : ∃ c : Int32, c = vp_nar .byte (((v >>> ((nI (8 * m)).toInt64 &&& 63)).toInt32).toInt8.toInt32) := ⟨_, rfl⟩
    have s1 : f_X8_append_L21 v (nI (m + 1) - 1) I = some (.inl (nI m - 1, va_up (va_up I 2 (upd (I 2) n c)) 1 (va_up (I 1) 2 (nI (n + 1))))) := by
      unfold f_X8_append_L21
      rw [nI_pred, if_neg (nI_pos (by omega)), h1, zg_t (nI_in (by omega) (by omega)), zn_e, zn_e, zn_e, show (8 : Int32) * nI m = nI (8 * m) from nI_mul 8 m, by_same v (by omega), ← hc, nI_clamp (by omega), up_n (by omega), h1, nI_1, Int32.sub_eq_add_neg]
    have s2 : f_X12_write_L34 v (nI (m + 1) - 1) IM = some (.inl (nI m - 1, va_up (va_up IM 1 (upd (IM 1) n c)) 0 (va_up (IM 0) 0 (nI (n + 1))))) := by
      unfold f_X12_write_L34
      rw [nI_pred, if_neg (nI_pos (by omega)), h2, zg_t (nI_in (by omega) (by omega)), zn_e, zn_e, zn_e, show (8 : Int32) * nI m = nI (8 * m) from nI_mul 8 m, ← hc, nI_clamp (by omega), up_n (by omega), h2, nI_1, Int32.sub_eq_add_neg]
    obtain ⟨I2, IM2, e1, e2, a1, a2, a3, a4, a5, a6⟩ := ih (by omega) (n + 1) _ _ (by omega) (show (va_up (va_up I 2 (upd (I 2) n c)) 1 (va_up (I 1) 2 (nI (n + 1)))) 1 2 = nI (n + 1) by rw [up_s, up_s]) (show (va_up (va_up IM 1 (upd (IM 1) n c)) 0 (va_up (IM 0) 0 (nI (n + 1)))) 0 0 = nI (n + 1) by rw [up_s, up_s]) (fun k hk => by
      rw [up_n (by omega), up_s, up_n (by omega), up_s]
      by_cases e : k = n
      · subst e; rw [ud_s, ud_s]; exact ⟨rfl, by rw [hc]; exact nar_byte _⟩
      · rw [ud_n e, ud_n e]; exact h3 k (by omega)) f' (by omega)
    refine ⟨I2, IM2, (zl_l s1).trans e1, (zl_l s2).trans e2, by rw [a1]; congr 1; omega, by rw [a2]; congr 1; omega, fun k hk => a3 k (by omega), fun k k1 k2 => ?_, fun k k1 k2 => ?_, ?_⟩
    · rw [a4 k k1 k2, up_n k1, up_n k2]
    · rw [a5 k k1 k2, up_n k1, up_n k2]
    · rw [a6, up_s, up_n (by omega)]
theorem pu_write : op_write zRel := by
  intro I J IM JM hR p1 p2
  have hR0 := hR
  obtain ⟨b, hb, hC, hM, hT, hH, hK, hP⟩ := hR
  obtain ⟨n, hn, t1, t2, t3⟩ := id hT
  unfold f_X11_write f_X12_write f_X8_append
  simp only [e_within, e_in, t64, zb1_s, zif, k1, k8, K1, K8, t1, t2]
  by_cases c : 1 ≤ p1.toInt ∧ p1.toInt ≤ 8
  case neg => simp only [if_neg c]; exact ⟨_, _, _, rfl, rfl, hR0⟩
  simp only [if_pos c]
  obtain ⟨m, hm, rfl⟩ := nI_of3 (x := p1) (n := 9) (by omega) (by omega)
  rw [nI_toInt (by omega)] at c
  rw [nI_add]
  by_cases d : n + m ≤ 500
  · rw [if_pos (show nI (n + m) ≤ 500 from nI_le (b := 500) d (by omega)), if_pos (show nI (n + m) ≤ 500 from nI_le (b := 500) d (by omega)), zn_e, zn_e]
    obtain ⟨I2, IM2, e1, e2, a1, a2, a3, a4, a5, a6⟩ := wr_loop p2 m (by omega) n I IM d t1 t2 t3 zF (by unfold zF; omega)
    rw [e1, e2, zb1_s, zb2_s, if_neg (by decide), zb1_s, a1, a2]
    refine ⟨_, _, _, rfl, rfl, b, hb, ?_, ?_, ?_, ?_, ?_, ?_⟩
    · exact hC.eq (fun k hk => a4 _ (by omega) (by omega))
    · exact hM.eq (fun k k1 k2 => a5 _ (by omega) (by omega))
    · exact ⟨n + m, d, a1, a2, a3⟩
    · exact hH.eq (fun k hk => a4 _ (by omega) (by omega)) (fun k hk => by rw [a5 _ (by omega) (by omega)]) (by rw [a5 _ (by omega) (by omega)]) (fun k hk => by rw [a5 _ (by omega) (by omega)])
    · obtain ⟨q, g1, g2, g3, g4⟩ := hK
      exact ⟨q, g1, by rw [a4 _ (by omega) (by omega)]; exact g2, by rw [a6]; exact g3, fun j hj => (g4 j hj).eq (fun k hk => a4 _ (by omega) (by omega)) (fun k hk => by rw [a5 _ (by omega) (by omega)]) (by rw [a5 _ (by omega) (by omega)]) (fun k hk => by rw [a5 _ (by omega) (by omega)])⟩
    · exact hP.eq (fun k k1 k2 => a4 _ (by omega) (by omega)) (fun k k1 k2 => rfl)
  · rw [if_neg (show ¬ nI (n + m) ≤ 500 from nI_ge (b := n + m) (a := 500) (by omega) (by omega)), if_neg (show ¬ nI (n + m) ≤ 500 from nI_ge (b := n + m) (a := 500) (by omega) (by omega)), zb2_s, if_pos rfl]
    exact ⟨_, _, _, rfl, rfl, hR0⟩
