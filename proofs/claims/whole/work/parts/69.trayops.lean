/-! ===== TRAYS: tray, write, read, pour, copyMoss ===== -/
section
variable {σ σ' τ : Mem} {fx fm : Mem → Option (Int × Mem)} {r y : Int}
def XT (fx : Mem → Option (Int × Mem)) (σ : Mem) (r y : Int) (σ1 : Mem) : Prop := fx σ = some (r, σ1) ∧ Fr [0, 1, 3] σ σ1 ∧ σ1 0 19 = y
def MT (fm : Mem → Option (Int × Mem)) (σ : Mem) (r y : Int) (σ1 : Mem) : Prop := fm σ = some (r, σ1) ∧ Fr [11, 13, 20] σ σ1 ∧ σ1 113 0 = y
theorem Ok.mkt (h : Rel σ) {σ1 σ2 : Mem} (hx : XT fx σ r y σ1) (hm : MT fm σ1 r y σ2) (h3 : R3 σ2) : Ok fx fm σ := by
  obtain ⟨e1, f1, s1⟩ := hx
  obtain ⟨e2, f2, s2⟩ := hm
  have lo := f2.lo (by decide)
  refine ⟨r, σ1, σ2, e1, e2, h.step [0, 1, 3, 11, 13, 20] ((f1.mono (by decide)).trans (f2.mono (by decide))) (by decide) ?_ (fun q => absurd q (by decide)) (fun _ => h3) (fun q => absurd q (by decide)) (fun q => absurd q (by decide)) (fun q => absurd q (by decide)) (fun q => absurd q (by decide)) (fun q => absurd q (by decide)) (fun q => absurd q (by decide))⟩
  rw [s2, lo 0 (by omega), s1]
theorem Rel.r3 (h : Rel σ) : R3 σ := h.2.2.2.1
theorem gidT {t j : Nat} (ht : t < 4) : gid (61 + 2 * t) j = 3 := by
  have h1 : isRf (61 + 2 * t) j = false := by
    apply isRf_cell
    rcases (show t = 0 ∨ t = 1 ∨ t = 2 ∨ t = 3 by omega) with rfl | rfl | rfl | rfl <;> rfl
  unfold gid
  rw [h1]
  rw [if_neg (by simp; omega), if_neg (by omega), if_neg (by omega), if_pos (by omega)]
theorem gidT1 {t : Nat} (ht : t < 4) : gid (60 + 2 * t) 1 = 3 ∧ gid (60 + 2 * t) 2 = 3 := by
  rcases (show t = 0 ∨ t = 1 ∨ t = 2 ∨ t = 3 by omega) with rfl | rfl | rfl | rfl <;> exact ⟨by decide, by decide⟩
theorem R3.wr {t k : Nat} {v : Int} (h : R3 σ) (ht : t < 4) (hk : (k : Int) < σ 115 t) (e1 : ∀ b j, 60 ≤ b → b ≤ 67 → σ' b j = if b = 61 + 2 * t ∧ j = k then v else σ b j) (e2 : ∀ j, σ' 114 j = σ 114 j ∧ σ' 115 j = σ 115 j ∧ σ' 116 j = if j = 60 * t + k then v else σ 116 j) : R3 σ' := by
  intro u hu
  have ht' := h t ht
  have hu' := h u hu
  rw [(e2 u).1, (e2 u).2.1, e1 _ _ (by omega) (by omega), e1 _ _ (by omega) (by omega), if_neg (by omega), if_neg (by omega)]
  rcases hu' with q | ⟨q1, q2, q3, q4, q5⟩
  · exact .inl q
  · refine .inr ⟨q1, q2, q3, q4, fun m hm => ?_⟩
    rw [e1 _ _ (by omega) (by omega), (e2 _).2.2]
    by_cases z : u = t ∧ m = k
    · obtain ⟨rfl, rfl⟩ := z
      rw [if_pos ⟨rfl, rfl⟩, if_pos rfl]
    · rw [if_neg (by omega), if_neg (by omega)]
      exact q5 m hm
theorem s_isMissing {t : Nat} (ht : t < 4) : f_X8_isMissing ((60 + 2 * t : Nat) : Int) σ = some (if σ (60 + 2 * t) 1 = -1 then 1 else 0) := by
  unfold f_X8_isMissing f_X8_isMissing_b0
  rw [if_pos (oT ht), gf_at (oT ht), Int.toNat_natCast]
  simp only [obs]
  split <;> rfl
theorem s_hasRow {t : Nat} {i n : Int} (ht : t < 4) (hi : R32 i) (hn : R32 n) : f_X8_hasRow ((60 + 2 * t : Nat) : Int) i n σ = some (if 0 ≤ i ∧ 0 ≤ n ∧ i + n ≤ σ (60 + 2 * t) 2 then 1 else 0) := by
  obtain ⟨a1, a2⟩ := hi
  obtain ⟨b1, b2⟩ := hn
  unfold f_X8_hasRow f_X8_hasRow_b0
  rw [if_pos (oT ht), gf_at (oT ht), Int.toNat_natCast, w64_in (by omega) (by omega)]
  simp only [obs, lcmp_gt]
  by_cases q1 : i < 0
  · rw [if_pos q1, if_neg (by omega)]
  · rw [if_neg q1]
    by_cases q2 : n < 0
    · rw [if_pos q2, if_neg (by omega)]
    · rw [if_neg q2]
      by_cases q3 : σ (60 + 2 * t) 2 < i + n
      · rw [if_pos q3, if_neg (by omega)]
      · rw [if_neg q3, if_pos (by omega)]
/-- a court's tray: its row, sort, length -/
theorem x_trays {t : Nat} (hR : Ref σ) (ht : t < 4) : al Sh σ 38 1 t = some ((60 + 2 * t : Nat) : Int) := by
  rw [al_at (aTs (by omega) (by omega)), Int.toNat_natCast]
  rw [show (1 : Int).toNat = 1 from rfl, (rT hR ht).1]
theorem x_g0 {t : Nat} (hR : Ref σ) (ht : t < 4) : gf Sh σ 8 ((60 + 2 * t : Nat) : Int) 0 = some ((61 + 2 * t : Nat) : Int) := by
  rw [gf_at (oT ht), Int.toNat_natCast, (rT hR ht).2]
theorem x_g1 {t : Nat} (ht : t < 4) {j : Nat} : gf Sh σ 8 ((60 + 2 * t : Nat) : Int) j = some (σ (60 + 2 * t) j) := by
  rw [gf_at (oT ht), Int.toNat_natCast]
theorem x_al {t k : Nat} (ht : t < 4) (hk : k < 60) : al Sh σ 21 ((61 + 2 * t : Nat) : Int) k = some (σ (61 + 2 * t) k) := by
  rw [al_at (aT ht (by omega) (by omega)), Int.toNat_natCast, Int.toNat_natCast]
theorem x_st {t k : Nat} {v : Int} (ht : t < 4) (hk : k < 60) : st_ Sh σ 21 ((61 + 2 * t : Nat) : Int) k v = some (upm σ (61 + 2 * t) k v) := by
  rw [st_at (aT ht (by omega) (by omega)), Int.toNat_natCast, Int.toNat_natCast]
def ct (s v : Int) : Int := if s = 0 then w8 (w32 v) else if s = 1 then w16 (w32 v) else if s = 2 then w32 v else v
theorem s_put {t k : Nat} {v : Int} (hR : Ref σ) (ht : t < 4) (hk : k < 60) : f_X8_put ((60 + 2 * t : Nat) : Int) k v σ = some (upm σ (61 + 2 * t) k (ct (σ (60 + 2 * t) 1) v)) := by
  unfold f_X8_put f_X8_put_b0 ct
  simp only [oT ht, if_true, x_g1 ht, obs, (rT hR ht).2, x_st ht hk]
  by_cases q1 : σ (60 + 2 * t) 1 = 0
  · rw [if_pos q1, if_pos q1]
  · rw [if_neg q1, if_neg q1]
    by_cases q2 : σ (60 + 2 * t) 1 = 1
    · rw [if_pos q2, if_pos q2]
    · rw [if_neg q2, if_neg q2]
      by_cases q3 : σ (60 + 2 * t) 1 = 2
      · rw [if_pos q3, if_pos q3]
      · rw [if_neg q3, if_neg q3]
theorem s_cut {s v : Int} : f_X12_cut s v σ = some (ct s v) := by
  unfold f_X12_cut f_X12_cut_b0 ct
  by_cases q1 : s = 0
  · rw [if_pos q1, if_pos q1]
  · rw [if_neg q1, if_neg q1]
    by_cases q2 : s = 1
    · rw [if_pos q2, if_pos q2]
    · rw [if_neg q2, if_neg q2]
      by_cases q3 : s = 2
      · rw [if_pos q3, if_pos q3]
      · rw [if_neg q3, if_neg q3]
/-- why a place of a tray can't be -/
def yTp (N : Nat → Int) (t k : Int) : Int := if ¬ (0 ≤ t ∧ t < 4) then 1 else if N t.toNat < 0 then 3 else if 0 ≤ k ∧ k < N t.toNat then 0 else 4
theorem x_trayPlaceWhy {t k : Int} (h : Rel σ) (hk : R32 k) : f_X11_trayPlaceWhy 0 t k σ = some (yTp (σ 115) t k) := by
  unfold f_X11_trayPlaceWhy f_X11_trayPlaceWhy_b0 yTp
  simp only [oX, if_true, s_isTray, obs, gX, h.1.at 0 0 1 rfl]
  by_cases q : 0 ≤ t ∧ t < 4
  · obtain ⟨n, rfl⟩ := nat_of q.1
    have hn : n < 4 := by omega
    simp only [q, and_self, if_true, Int.one_ne_zero, if_false, x_trays h.1 hn, obs, s_isMissing hn, s_hasRow hn hk (show R32 1 from ⟨by omega, by omega⟩), Int.toNat_natCast, not_true]
    rcases h.r3 n hn with z | ⟨z1, z2, z3, z4, z5⟩
    · rw [if_neg (show ¬ (if σ (60 + 2 * n) 1 = -1 then (1 : Int) else 0) = 0 by rw [if_pos z.2]; decide), if_pos (show σ 115 n < 0 by omega)]
    · rw [if_pos (show (if σ (60 + 2 * n) 1 = -1 then (1 : Int) else 0) = 0 by rw [if_neg (by omega)]), if_neg (show ¬ σ 115 n < 0 by omega)]
      by_cases w : 0 ≤ k ∧ k < σ 115 n
      · rw [if_pos w, if_neg (show ¬ (if 0 ≤ k ∧ 0 ≤ (1 : Int) ∧ k + 1 ≤ σ (60 + 2 * n) 2 then (1 : Int) else 0) = 0 by rw [if_pos (by omega)]; decide)]
      · rw [if_neg w, if_pos (show (if 0 ≤ k ∧ 0 ≤ (1 : Int) ∧ k + 1 ≤ σ (60 + 2 * n) 2 then (1 : Int) else 0) = 0 by rw [if_neg (by omega)])]
  · simp only [q, if_false, if_true, not_false_eq_true]
theorem m_mny {t : Nat} (ht : t < 4) : al Sh τ 20 115 t = some (τ 115 t) := by
  rw [al_at (aN4 (by omega) (by omega)), Int.toNat_natCast]
  rfl
theorem m_sort {t : Nat} (ht : t < 4) : al Sh τ 20 114 t = some (τ 114 t) := by
  rw [al_at (aS4 (by omega) (by omega)), Int.toNat_natCast]
  rfl
theorem m_num {i : Int} (h0 : 0 ≤ i) (h1 : i < 240) : al Sh τ 21 116 i = some (τ 116 i.toNat) := by
  rw [al_at (aNum h0 h1)]
  rfl
theorem m_snum {i v : Int} (h0 : 0 ≤ i) (h1 : i < 240) : st_ Sh τ 21 116 i v = some (upm τ 116 i.toNat v) := by
  rw [st_at (aNum h0 h1)]
  rfl
theorem m_placed {t k : Int} (hR : Ref τ) : f_X12_placed 113 t k τ = some (yTp (τ 115) t k) := by
  unfold f_X12_placed f_X12_placed_b0 f_X12_placed_b28 f_X12_trayed f_X12_trayed_b0 f_X12_trayed_b9 yTp
  simp only [oM, if_true, gM, obs, hR.at 113 5 115 rfl]
  by_cases q : 0 ≤ t ∧ t < 4
  · obtain ⟨n, rfl⟩ := nat_of q.1
    simp only [m_mny (τ := τ) (show n < 4 by omega), obs, Int.toNat_natCast]
    rw [if_neg (show ¬ (n : Int) < 0 by omega), if_pos q.2, if_neg (show ¬ ¬ (0 ≤ (n : Int) ∧ (n : Int) < 4) by omega)]
    by_cases w : 0 ≤ τ 115 n
    · rw [if_pos w, if_neg (show ¬ τ 115 n < 0 by omega)]
      simp only [obs, Int.le_refl, if_true]
      by_cases w1 : k < 0
      · rw [if_pos w1, if_neg (by omega)]
      · rw [if_neg w1]
        by_cases w2 : k < τ 115 n
        · rw [if_pos w2, if_pos (by omega)]
        · rw [if_neg w2, if_neg (by omega)]
    · rw [if_neg w, if_pos (show τ 115 n < 0 by omega)]
      rfl
  · rw [if_pos q]
    by_cases w : t < 0
    · rw [if_pos w]
      rfl
    · rw [if_neg w, if_neg (by omega)]
      rfl
theorem yTp0 {N : Nat → Int} {t k : Int} (h : yTp N t k = 0) : ∃ n j : Nat, t = n ∧ k = j ∧ n < 4 ∧ (j : Int) < N n := by
  have : (0 ≤ t ∧ t < 4) ∧ 0 ≤ k ∧ k < N t.toNat := by unfold yTp at h; grind
  exact ⟨t.toNat, k.toNat, by omega, by omega, by omega, by omega⟩
theorem yTp_ge {N : Nat → Int} {t k : Int} : 0 ≤ yTp N t k := by unfold yTp; grind
theorem R3.len {t : Nat} (h : R3 σ) (ht : t < 4) : σ 115 t ≤ 60 := by
  rcases h t ht with q | q
  · omega
  · exact q.1.2
theorem Fr.hi3 {b : Nat} (f : Fr [0, 1, 3] σ τ) (hb : 113 ≤ b) : τ b = σ b := f.hi (by decide) b hb
end
