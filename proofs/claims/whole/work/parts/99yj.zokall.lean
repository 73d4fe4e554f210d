/-! Every method is as the tables have it. -/
theorem zok_all : ∀ t, t < zNm → zokM t = true := by
  intro t ht
  have ht : t < 251 := ht
  rcases Nat.lt_or_ge t 16 with h | h
  · have h2 := List.all_eq_true.mp zok_0 (t - 0) (List.mem_range.mpr (by omega))
    rw [show 0 + (t - 0) = t from by omega] at h2
    exact h2
  rcases Nat.lt_or_ge t 32 with h | h
  · have h2 := List.all_eq_true.mp zok_16 (t - 16) (List.mem_range.mpr (by omega))
    rw [show 16 + (t - 16) = t from by omega] at h2
    exact h2
  rcases Nat.lt_or_ge t 48 with h | h
  · have h2 := List.all_eq_true.mp zok_32 (t - 32) (List.mem_range.mpr (by omega))
    rw [show 32 + (t - 32) = t from by omega] at h2
    exact h2
  rcases Nat.lt_or_ge t 64 with h | h
  · have h2 := List.all_eq_true.mp zok_48 (t - 48) (List.mem_range.mpr (by omega))
    rw [show 48 + (t - 48) = t from by omega] at h2
    exact h2
  rcases Nat.lt_or_ge t 80 with h | h
  · have h2 := List.all_eq_true.mp zok_64 (t - 64) (List.mem_range.mpr (by omega))
    rw [show 64 + (t - 64) = t from by omega] at h2
    exact h2
  rcases Nat.lt_or_ge t 96 with h | h
  · have h2 := List.all_eq_true.mp zok_80 (t - 80) (List.mem_range.mpr (by omega))
    rw [show 80 + (t - 80) = t from by omega] at h2
    exact h2
  rcases Nat.lt_or_ge t 112 with h | h
  · have h2 := List.all_eq_true.mp zok_96 (t - 96) (List.mem_range.mpr (by omega))
    rw [show 96 + (t - 96) = t from by omega] at h2
    exact h2
  rcases Nat.lt_or_ge t 128 with h | h
  · have h2 := List.all_eq_true.mp zok_112 (t - 112) (List.mem_range.mpr (by omega))
    rw [show 112 + (t - 112) = t from by omega] at h2
    exact h2
  rcases Nat.lt_or_ge t 144 with h | h
  · have h2 := List.all_eq_true.mp zok_128 (t - 128) (List.mem_range.mpr (by omega))
    rw [show 128 + (t - 128) = t from by omega] at h2
    exact h2
  rcases Nat.lt_or_ge t 160 with h | h
  · have h2 := List.all_eq_true.mp zok_144 (t - 144) (List.mem_range.mpr (by omega))
    rw [show 144 + (t - 144) = t from by omega] at h2
    exact h2
  rcases Nat.lt_or_ge t 176 with h | h
  · have h2 := List.all_eq_true.mp zok_160 (t - 160) (List.mem_range.mpr (by omega))
    rw [show 160 + (t - 160) = t from by omega] at h2
    exact h2
  rcases Nat.lt_or_ge t 192 with h | h
  · have h2 := List.all_eq_true.mp zok_176 (t - 176) (List.mem_range.mpr (by omega))
    rw [show 176 + (t - 176) = t from by omega] at h2
    exact h2
  rcases Nat.lt_or_ge t 194 with h | h
  · have h2 := List.all_eq_true.mp zok_192 (t - 192) (List.mem_range.mpr (by omega))
    rw [show 192 + (t - 192) = t from by omega] at h2
    exact h2
  rcases Nat.lt_or_ge t 196 with h | h
  · have h2 := List.all_eq_true.mp zok_194 (t - 194) (List.mem_range.mpr (by omega))
    rw [show 194 + (t - 194) = t from by omega] at h2
    exact h2
  rcases Nat.lt_or_ge t 198 with h | h
  · have h2 := List.all_eq_true.mp zok_196 (t - 196) (List.mem_range.mpr (by omega))
    rw [show 196 + (t - 196) = t from by omega] at h2
    exact h2
  rcases Nat.lt_or_ge t 200 with h | h
  · have h2 := List.all_eq_true.mp zok_198 (t - 198) (List.mem_range.mpr (by omega))
    rw [show 198 + (t - 198) = t from by omega] at h2
    exact h2
  rcases Nat.lt_or_ge t 202 with h | h
  · have h2 := List.all_eq_true.mp zok_200 (t - 200) (List.mem_range.mpr (by omega))
    rw [show 200 + (t - 200) = t from by omega] at h2
    exact h2
  rcases Nat.lt_or_ge t 204 with h | h
  · have h2 := List.all_eq_true.mp zok_202 (t - 202) (List.mem_range.mpr (by omega))
    rw [show 202 + (t - 202) = t from by omega] at h2
    exact h2
  rcases Nat.lt_or_ge t 206 with h | h
  · have h2 := List.all_eq_true.mp zok_204 (t - 204) (List.mem_range.mpr (by omega))
    rw [show 204 + (t - 204) = t from by omega] at h2
    exact h2
  rcases Nat.lt_or_ge t 208 with h | h
  · have h2 := List.all_eq_true.mp zok_206 (t - 206) (List.mem_range.mpr (by omega))
    rw [show 206 + (t - 206) = t from by omega] at h2
    exact h2
  rcases Nat.lt_or_ge t 224 with h | h
  · have h2 := List.all_eq_true.mp zok_208 (t - 208) (List.mem_range.mpr (by omega))
    rw [show 208 + (t - 208) = t from by omega] at h2
    exact h2
  rcases Nat.lt_or_ge t 240 with h | h
  · have h2 := List.all_eq_true.mp zok_224 (t - 224) (List.mem_range.mpr (by omega))
    rw [show 224 + (t - 224) = t from by omega] at h2
    exact h2
  rcases Nat.lt_or_ge t 251 with h | h
  · have h2 := List.all_eq_true.mp zok_240 (t - 240) (List.mem_range.mpr (by omega))
    rw [show 240 + (t - 240) = t from by omega] at h2
    exact h2
  omega
