theorem okM_all {m : Nat} (h : m < 276) (hl : m ≠ 274) : okM m = true := by
  rcases Nat.lt_or_ge m 12 with h12 | h12
  · have := List.all_eq_true.mp okM_0 (m - 0) (List.mem_range.mpr (by omega))
    rw [show 0 + (m - 0) = m by omega, if_neg hl] at this
    exact this
  rcases Nat.lt_or_ge m 24 with h24 | h24
  · have := List.all_eq_true.mp okM_12 (m - 12) (List.mem_range.mpr (by omega))
    rw [show 12 + (m - 12) = m by omega, if_neg hl] at this
    exact this
  rcases Nat.lt_or_ge m 36 with h36 | h36
  · have := List.all_eq_true.mp okM_24 (m - 24) (List.mem_range.mpr (by omega))
    rw [show 24 + (m - 24) = m by omega, if_neg hl] at this
    exact this
  rcases Nat.lt_or_ge m 48 with h48 | h48
  · have := List.all_eq_true.mp okM_36 (m - 36) (List.mem_range.mpr (by omega))
    rw [show 36 + (m - 36) = m by omega, if_neg hl] at this
    exact this
  rcases Nat.lt_or_ge m 60 with h60 | h60
  · have := List.all_eq_true.mp okM_48 (m - 48) (List.mem_range.mpr (by omega))
    rw [show 48 + (m - 48) = m by omega, if_neg hl] at this
    exact this
  rcases Nat.lt_or_ge m 72 with h72 | h72
  · have := List.all_eq_true.mp okM_60 (m - 60) (List.mem_range.mpr (by omega))
    rw [show 60 + (m - 60) = m by omega, if_neg hl] at this
    exact this
  rcases Nat.lt_or_ge m 84 with h84 | h84
  · have := List.all_eq_true.mp okM_72 (m - 72) (List.mem_range.mpr (by omega))
    rw [show 72 + (m - 72) = m by omega, if_neg hl] at this
    exact this
  rcases Nat.lt_or_ge m 96 with h96 | h96
  · have := List.all_eq_true.mp okM_84 (m - 84) (List.mem_range.mpr (by omega))
    rw [show 84 + (m - 84) = m by omega, if_neg hl] at this
    exact this
  rcases Nat.lt_or_ge m 108 with h108 | h108
  · have := List.all_eq_true.mp okM_96 (m - 96) (List.mem_range.mpr (by omega))
    rw [show 96 + (m - 96) = m by omega, if_neg hl] at this
    exact this
  rcases Nat.lt_or_ge m 120 with h120 | h120
  · have := List.all_eq_true.mp okM_108 (m - 108) (List.mem_range.mpr (by omega))
    rw [show 108 + (m - 108) = m by omega, if_neg hl] at this
    exact this
  rcases Nat.lt_or_ge m 132 with h132 | h132
  · have := List.all_eq_true.mp okM_120 (m - 120) (List.mem_range.mpr (by omega))
    rw [show 120 + (m - 120) = m by omega, if_neg hl] at this
    exact this
  rcases Nat.lt_or_ge m 144 with h144 | h144
  · have := List.all_eq_true.mp okM_132 (m - 132) (List.mem_range.mpr (by omega))
    rw [show 132 + (m - 132) = m by omega, if_neg hl] at this
    exact this
  rcases Nat.lt_or_ge m 156 with h156 | h156
  · have := List.all_eq_true.mp okM_144 (m - 144) (List.mem_range.mpr (by omega))
    rw [show 144 + (m - 144) = m by omega, if_neg hl] at this
    exact this
  rcases Nat.lt_or_ge m 168 with h168 | h168
  · have := List.all_eq_true.mp okM_156 (m - 156) (List.mem_range.mpr (by omega))
    rw [show 156 + (m - 156) = m by omega, if_neg hl] at this
    exact this
  rcases Nat.lt_or_ge m 180 with h180 | h180
  · have := List.all_eq_true.mp okM_168 (m - 168) (List.mem_range.mpr (by omega))
    rw [show 168 + (m - 168) = m by omega, if_neg hl] at this
    exact this
  rcases Nat.lt_or_ge m 192 with h192 | h192
  · have := List.all_eq_true.mp okM_180 (m - 180) (List.mem_range.mpr (by omega))
    rw [show 180 + (m - 180) = m by omega, if_neg hl] at this
    exact this
  rcases Nat.lt_or_ge m 204 with h204 | h204
  · have := List.all_eq_true.mp okM_192 (m - 192) (List.mem_range.mpr (by omega))
    rw [show 192 + (m - 192) = m by omega, if_neg hl] at this
    exact this
  rcases Nat.lt_or_ge m 216 with h216 | h216
  · have := List.all_eq_true.mp okM_204 (m - 204) (List.mem_range.mpr (by omega))
    rw [show 204 + (m - 204) = m by omega, if_neg hl] at this
    exact this
  rcases Nat.lt_or_ge m 228 with h228 | h228
  · have := List.all_eq_true.mp okM_216 (m - 216) (List.mem_range.mpr (by omega))
    rw [show 216 + (m - 216) = m by omega, if_neg hl] at this
    exact this
  rcases Nat.lt_or_ge m 240 with h240 | h240
  · have := List.all_eq_true.mp okM_228 (m - 228) (List.mem_range.mpr (by omega))
    rw [show 228 + (m - 228) = m by omega, if_neg hl] at this
    exact this
  rcases Nat.lt_or_ge m 252 with h252 | h252
  · have := List.all_eq_true.mp okM_240 (m - 240) (List.mem_range.mpr (by omega))
    rw [show 240 + (m - 240) = m by omega, if_neg hl] at this
    exact this
  rcases Nat.lt_or_ge m 264 with h264 | h264
  · have := List.all_eq_true.mp okM_252 (m - 252) (List.mem_range.mpr (by omega))
    rw [show 252 + (m - 252) = m by omega, if_neg hl] at this
    exact this
  · have := List.all_eq_true.mp okM_264 (m - 264) (List.mem_range.mpr (by omega))
    rw [show 264 + (m - 264) = m by omega, if_neg hl] at this
    exact this
theorem okLaw_part {a n : Nat} (h : okRows "TenInDrawersLaw" false code p_W_law a ((k_W_law.drop a).take n) ((a_W_law.drop a).take n) = true) {i : Nat} {r : Row} (hi : k_W_law[i]? = some r) (h1 : a ≤ i) (h2 : i < a + n) : ∃ ax, okRow "TenInDrawersLaw" false code p_W_law i r ax = true := by
  obtain ⟨ax, hax⟩ := okRows_get _ _ _ h (i - a) r (by rw [List.getElem?_take, if_pos (by omega), List.getElem?_drop, show a + (i - a) = i by omega]; exact hi)
  exact ⟨ax, by rw [show a + (i - a) = i by omega] at hax; exact hax⟩
theorem okLaw {i : Nat} {r : Row} (hi : k_W_law[i]? = some r) : ∃ ax, okRow "TenInDrawersLaw" false code p_W_law i r ax = true := by
  have hl : i < 1139 := by
    have := (List.getElem?_eq_some_iff.mp hi).1
    rw [show k_W_law.length = 1139 by decide +kernel] at this
    exact this
  rcases Nat.lt_or_ge i 60 with h0 | h0
  · exact okLaw_part okLaw_0 hi (by omega) (by omega)
  rcases Nat.lt_or_ge i 120 with h60 | h60
  · exact okLaw_part okLaw_60 hi (by omega) (by omega)
  rcases Nat.lt_or_ge i 180 with h120 | h120
  · exact okLaw_part okLaw_120 hi (by omega) (by omega)
  rcases Nat.lt_or_ge i 240 with h180 | h180
  · exact okLaw_part okLaw_180 hi (by omega) (by omega)
  rcases Nat.lt_or_ge i 300 with h240 | h240
  · exact okLaw_part okLaw_240 hi (by omega) (by omega)
  rcases Nat.lt_or_ge i 360 with h300 | h300
  · exact okLaw_part okLaw_300 hi (by omega) (by omega)
  rcases Nat.lt_or_ge i 420 with h360 | h360
  · exact okLaw_part okLaw_360 hi (by omega) (by omega)
  rcases Nat.lt_or_ge i 480 with h420 | h420
  · exact okLaw_part okLaw_420 hi (by omega) (by omega)
  rcases Nat.lt_or_ge i 540 with h480 | h480
  · exact okLaw_part okLaw_480 hi (by omega) (by omega)
  rcases Nat.lt_or_ge i 600 with h540 | h540
  · exact okLaw_part okLaw_540 hi (by omega) (by omega)
  rcases Nat.lt_or_ge i 660 with h600 | h600
  · exact okLaw_part okLaw_600 hi (by omega) (by omega)
  rcases Nat.lt_or_ge i 720 with h660 | h660
  · exact okLaw_part okLaw_660 hi (by omega) (by omega)
  rcases Nat.lt_or_ge i 780 with h720 | h720
  · exact okLaw_part okLaw_720 hi (by omega) (by omega)
  rcases Nat.lt_or_ge i 840 with h780 | h780
  · exact okLaw_part okLaw_780 hi (by omega) (by omega)
  rcases Nat.lt_or_ge i 900 with h840 | h840
  · exact okLaw_part okLaw_840 hi (by omega) (by omega)
  rcases Nat.lt_or_ge i 960 with h900 | h900
  · exact okLaw_part okLaw_900 hi (by omega) (by omega)
  rcases Nat.lt_or_ge i 1020 with h960 | h960
  · exact okLaw_part okLaw_960 hi (by omega) (by omega)
  rcases Nat.lt_or_ge i 1080 with h1020 | h1020
  · exact okLaw_part okLaw_1020 hi (by omega) (by omega)
  exact okLaw_part okLaw_1080 hi (by omega) (by omega)
