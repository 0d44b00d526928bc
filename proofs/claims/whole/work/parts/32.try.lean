theorem try_pieceAt {M : Me} {t s u ty p : Nat} (ht : t < 24) (hs : s < 12) (hu : u < 4) (hty : ty < 12) (h1 : M 22 t = nI u) (h2 : M 21 t = nI ty) (h3 : M 9 (ty * 12 + (s + 12 - 3 * u) % 12) = nI p) : qf_X5_pieceAt (nI t) (nI s) M = some (nI (t * 8 + p), M) := by
  have hb : ty * 12 + (s + 12 - 3 * u) % 12 < 144 := by omega
  simp (disch := omega) only [qf_X5_pieceAt, n_ld, n_vv, h1, h2, h3, kn_12, kn_3, kn_8, n_add, n_mul, n_sub, n_div, nat_rem]
