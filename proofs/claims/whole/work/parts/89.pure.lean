theorem inv_mono {T : Nat} {h : HP} (i : Inv T h) : Inv (T + 1000000) h := by
  obtain ⟨v, n, H, kb, kv, L, tx, ki, mi, wa⟩ := i
  exact ⟨v, n, H, kb, kv, L, tx, ki, mi, wa.mono (by omega)⟩
set_option maxHeartbeats 4000000 in
theorem law_loop {L : Nat} {xs : Nat → Int32} (hL : L ≤ 2560) : ∀ k n c h, c + k = 513 → k < n → Inv (TB c) h → f_L_law_L18 n xs L (nI (5 * c)) h = some 1 := by
  intro k
  induction k with
  | zero =>
    intro n c h hc hn inv
    obtain ⟨n, rfl⟩ : ∃ n', n = n' + 1 := ⟨n - 1, by omega⟩
    have e : nI L - (5 : Int32) = zI ((L : Int) - 5) := by rw [nI_z, lit_z 5, zI_sub]; rfl
    have q : Int32.ofNat L - (5 : Int32) < nI (5 * c) := by
      show nI L - (5 : Int32) < nI (5 * c)
      rw [e, nI_z (5 * c), zI_lt (by omega) (by omega) (by omega) (by omega)]
      omega
    rw [f_L_law_L18, if_pos q]
  | succ k ih =>
    intro n c h hc hn inv
    obtain ⟨n, rfl⟩ : ∃ n', n = n' + 1 := ⟨n - 1, by omega⟩
    have e : nI L - (5 : Int32) = zI ((L : Int) - 5) := by rw [nI_z, lit_z 5, zI_sub]; rfl
    have hT := TB_lt c (by omega)
    by_cases ql : (L : Int) - 5 < 5 * c
    · have q : Int32.ofNat L - (5 : Int32) < nI (5 * c) := by
        show nI L - (5 : Int32) < nI (5 * c)
        rw [e, nI_z (5 * c), zI_lt (by omega) (by omega) (by omega) (by omega)]
        omega
      rw [f_L_law_L18, if_pos q]
    have q : ¬ Int32.ofNat L - (5 : Int32) < nI (5 * c) := by
      show ¬ nI L - (5 : Int32) < nI (5 * c)
      rw [e, nI_z (5 * c), zI_lt (by omega) (by omega) (by omega) (by omega)]
      omega
    have b0 : inB (nI (5 * c)) L = true := inB_n (by omega) (by omega)
    have b1 : inB (nI (5 * c) + (1 : Int32)) L = true := by
      rw [nI_1]
      exact inB_n (by omega) (by omega)
    have b2 : inB (nI (5 * c) + (2 : Int32)) L = true := by
      rw [lit_n 2, nI_add]
      exact inB_n (by omega) (by omega)
    have b3 : inB (nI (5 * c) + (3 : Int32)) L = true := by
      rw [lit_n 3, nI_add]
      exact inB_n (by omega) (by omega)
    have b4 : inB (nI (5 * c) + (4 : Int32)) L = true := by
      rw [lit_n 4, nI_add]
      exact inB_n (by omega) (by omega)
    have nx : nI (5 * c) + (5 : Int32) = nI (5 * (c + 1)) := by
      rw [lit_n 5, nI_add]
      rfl
    have go : ∀ h2, Inv (TB c + 1000000) h2 → f_L_law_L18 n xs L (nI (5 * c) + (5 : Int32)) h2 = some 1 := fun h2 i2 => by
      rw [nx]
      exact ih n (c + 1) h2 (by omega) (by omega) i2
    rw [f_L_law_L18, if_neg q, gd_t b0]
    generalize xs (nI (5 * c)).toNatClampNeg &&& (31 : Int32) = op
    generalize nI (5 * c) = i at *
    by_cases q0 : op = 0
    · have t : Two (TB c) h (f_X10_press (xs (i + (1 : Int32)).toNatClampNeg) (xs (i + (2 : Int32)).toNatClampNeg) (xs (i + (3 : Int32)).toNatClampNeg)) (f_X11_press (xs (i + (1 : Int32)).toNatClampNeg) (xs (i + (2 : Int32)).toNatClampNeg) (xs (i + (3 : Int32)).toNatClampNeg)) := two_press inv
      obtain ⟨r, h1, h2, e1, e2, i2⟩ := t
      rw [if_pos q0, gd_t b1, gd_t b2, gd_t b3, ob_e e1]
      dsimp only
      rw [gd_t b1, gd_t b2, gd_t b3, ob_e e2, if_pos rfl]
      exact go _ i2
    rw [if_neg q0]
    by_cases q1 : op = 1
    · have t : Two (TB c) h (f_X10_scratch (xs (i + (1 : Int32)).toNatClampNeg) (xs (i + (2 : Int32)).toNatClampNeg) (xs (i + (3 : Int32)).toNatClampNeg) (xs (i + (4 : Int32)).toNatClampNeg)) (f_X11_scratch (xs (i + (1 : Int32)).toNatClampNeg) (xs (i + (2 : Int32)).toNatClampNeg) (xs (i + (3 : Int32)).toNatClampNeg) (xs (i + (4 : Int32)).toNatClampNeg)) := two_scratch inv
      obtain ⟨r, h1, h2, e1, e2, i2⟩ := t
      rw [if_pos q1, gd_t b1, gd_t b2, gd_t b3, gd_t b4, ob_e e1]
      dsimp only
      rw [gd_t b1, gd_t b2, gd_t b3, gd_t b4, ob_e e2, if_pos rfl]
      exact go _ i2
    rw [if_neg q1]
    by_cases q2 : op = 2
    · have t : Two (TB c) h (f_X10_polish (xs (i + (1 : Int32)).toNatClampNeg)) (f_X11_polish (xs (i + (1 : Int32)).toNatClampNeg)) := two_polish inv
      obtain ⟨r, h1, h2, e1, e2, i2⟩ := t
      rw [if_pos q2, gd_t b1, ob_e e1]
      dsimp only
      rw [gd_t b1, ob_e e2, if_pos rfl]
      exact go _ i2
    rw [if_neg q2]
    by_cases q3 : op = 3
    · have t : Two (TB c) h (f_X10_set (xs (i + (1 : Int32)).toNatClampNeg) (xs (i + (2 : Int32)).toNatClampNeg)) (f_X11_set (xs (i + (1 : Int32)).toNatClampNeg) (xs (i + (2 : Int32)).toNatClampNeg)) := two_set hT inv
      obtain ⟨r, h1, h2, e1, e2, i2⟩ := t
      rw [if_pos q3, gd_t b1, gd_t b2, ob_e e1]
      dsimp only
      rw [gd_t b1, gd_t b2, ob_e e2, if_pos rfl]
      exact go _ i2
    rw [if_neg q3]
    by_cases q4 : op = 4
    · have t : Two (TB c) h (f_X10_play (xs (i + (1 : Int32)).toNatClampNeg)) (f_X11_play (xs (i + (1 : Int32)).toNatClampNeg)) := two_play hT inv
      obtain ⟨r, h1, h2, e1, e2, i2⟩ := t
      rw [if_pos q4, gd_t b1, ob_e e1]
      dsimp only
      rw [gd_t b1, ob_e e2, if_pos rfl]
      exact go _ i2
    rw [if_neg q4]
    by_cases q5 : op = 5
    · have t : Two (TB c) h (f_X10_seek (xs (i + (1 : Int32)).toNatClampNeg)) (f_X11_seek (xs (i + (1 : Int32)).toNatClampNeg)) := two_seek hT inv
      obtain ⟨r, h1, h2, e1, e2, i2⟩ := t
      rw [if_pos q5, gd_t b1, ob_e e1]
      dsimp only
      rw [gd_t b1, ob_e e2, if_pos rfl]
      exact go _ i2
    rw [if_neg q5]
    by_cases q6 : op = 6
    · have t : Two (TB c) h (fun h => some (f_X10_type (jchar (xs (i + (1 : Int32)).toNatClampNeg)) h)) (f_X11_type (jchar (xs (i + (1 : Int32)).toNatClampNeg))) := two_type (pk_vc _) inv
      obtain ⟨r, h1, h2, e1, e2, i2⟩ := t
      have e1 : f_X10_type (jchar (xs (i + (1 : Int32)).toNatClampNeg)) h = (r, h1) := Option.some.inj e1
      rw [if_pos q6, gd_t b1, e1, tb_s]
      dsimp only
      rw [gd_t b1, ob_e e2, if_pos rfl]
      exact go _ i2
    rw [if_neg q6]
    by_cases q7 : op = 7
    · have t : Two (TB c) h (fun h => some (f_X10_clearText  h)) (fun h => some (f_X11_clearText  h)) := two_clearText inv
      obtain ⟨r, h1, h2, e1, e2, i2⟩ := t
      have e1 : f_X10_clearText  h = (r, h1) := Option.some.inj e1
      have e2 : f_X11_clearText  h1 = (r, h2) := Option.some.inj e2
      rw [if_pos q7, e1, tb_s]
      dsimp only
      rw [e2, tb_s, if_pos rfl]
      exact go _ i2
    rw [if_neg q7]
    by_cases q8 : op = 8
    · have t : Two (TB c) h (f_X10_fault ) (f_X11_fault ) := two_fault inv
      obtain ⟨r, h1, h2, e1, e2, i2⟩ := t
      rw [if_pos q8, ob_e e1]
      dsimp only
      rw [ob_e e2, if_pos rfl]
      exact go _ i2
    rw [if_neg q8]
    by_cases q9 : op = 9
    · have t : Two (TB c) h (f_X10_doAll ) (f_X11_doAll ) := two_doAll hT inv
      obtain ⟨r, h1, h2, e1, e2, i2⟩ := t
      rw [if_pos q9, ob_e e1]
      dsimp only
      rw [ob_e e2, if_pos rfl]
      exact go _ i2
    rw [if_neg q9]
    by_cases q10 : op = 10
    · have t : Two (TB c) h (f_X10_undo ) (f_X11_undo ) := two_undo inv
      obtain ⟨r, h1, h2, e1, e2, i2⟩ := t
      rw [if_pos q10, ob_e e1]
      dsimp only
      rw [ob_e e2, if_pos rfl]
      exact go _ i2
    rw [if_neg q10]
    by_cases q11 : op = 11
    · have t : Two (TB c) h (fun h => some (f_X10_keep  h)) (f_X11_keep ) := two_keep inv
      obtain ⟨r, h1, h2, e1, e2, i2⟩ := t
      have e1 : f_X10_keep  h = (r, h1) := Option.some.inj e1
      rw [if_pos q11, e1, tb_s]
      dsimp only
      rw [ob_e e2, if_pos rfl]
      exact go _ i2
    rw [if_neg q11]
    by_cases q12 : op = 12
    · have t : Two (TB c) h (f_X10_restore ) (f_X11_restore ) := two_restore hT inv
      obtain ⟨r, h1, h2, e1, e2, i2⟩ := t
      rw [if_pos q12, ob_e e1]
      dsimp only
      rw [ob_e e2, if_pos rfl]
      exact go _ i2
    rw [if_neg q12]
    by_cases q13 : op = 13
    · have t : Two (TB c) h (f_X10_frame (xs (i + (1 : Int32)).toNatClampNeg) (xs (i + (2 : Int32)).toNatClampNeg)) (f_X11_frame (xs (i + (1 : Int32)).toNatClampNeg) (xs (i + (2 : Int32)).toNatClampNeg)) := two_frame inv
      obtain ⟨r, h1, h2, e1, e2, i2⟩ := t
      rw [if_pos q13, gd_t b1, gd_t b2, ob_e e1]
      dsimp only
      rw [gd_t b1, gd_t b2, ob_e e2, if_pos rfl]
      exact go _ i2
    rw [if_neg q13]
    by_cases q14 : op = 14
    · have t : Two (TB c) h (f_X10_symbol (xs (i + (1 : Int32)).toNatClampNeg) (xs (i + (2 : Int32)).toNatClampNeg) (if xs (i + (3 : Int32)).toNatClampNeg = 0 then (0 : Int32) else (1 : Int32))) (f_X11_symbol (xs (i + (1 : Int32)).toNatClampNeg) (xs (i + (2 : Int32)).toNatClampNeg) (if xs (i + (3 : Int32)).toNatClampNeg = 0 then (0 : Int32) else (1 : Int32))) := two_symbol inv
      obtain ⟨r, h1, h2, e1, e2, i2⟩ := t
      rw [if_pos q14, gd_t b1, gd_t b2, gd_t b3, ob_e e1]
      dsimp only
      rw [gd_t b1, gd_t b2, gd_t b3, ob_e e2, if_pos rfl]
      exact go _ i2
    rw [if_neg q14]
    by_cases q15 : op = 15
    · have t : Two (TB c) h (f_X10_turn (xs (i + (1 : Int32)).toNatClampNeg) (xs (i + (2 : Int32)).toNatClampNeg)) (f_X11_turn (xs (i + (1 : Int32)).toNatClampNeg) (xs (i + (2 : Int32)).toNatClampNeg)) := two_turn inv
      obtain ⟨r, h1, h2, e1, e2, i2⟩ := t
      rw [if_pos q15, gd_t b1, gd_t b2, ob_e e1]
      dsimp only
      rw [gd_t b1, gd_t b2, ob_e e2, if_pos rfl]
      exact go _ i2
    rw [if_neg q15]
    by_cases q16 : op = 16
    · have t : Two (TB c) h (f_X10_scratchOf (xs (i + (1 : Int32)).toNatClampNeg) (xs (i + (2 : Int32)).toNatClampNeg)) (fun h => ob (f_X11_scratchOf (xs (i + (1 : Int32)).toNatClampNeg) (xs (i + (2 : Int32)).toNatClampNeg) h) (fun q => some (q, h))) := two_scratchOf inv
      obtain ⟨r, h1, h2, e1, e2, i2⟩ := t
      obtain ⟨r2, e2b, e3⟩ := ob_some e2
      injection e3 with e3
      injection e3 with e3 e4
      subst e3
      subst e4
      rw [if_pos q16, gd_t b1, gd_t b2, ob_e e1]
      dsimp only
      rw [gd_t b1, gd_t b2, ob_e e2b, if_pos rfl]
      exact go _ i2
    rw [if_neg q16]
    by_cases q17 : op = 17
    · have t : Two (TB c) h (f_X10_count (xs (i + (1 : Int32)).toNatClampNeg)) (f_X11_count (xs (i + (1 : Int32)).toNatClampNeg)) := two_count inv
      obtain ⟨r, h1, h2, e1, e2, i2⟩ := t
      rw [if_pos q17, gd_t b1, ob_e e1]
      dsimp only
      rw [gd_t b1, ob_e e2, if_pos rfl]
      exact go _ i2
    rw [if_neg q17]
    by_cases q18 : op = 18
    · obtain ⟨r, h1, h2, e1, e2, e3, i2⟩ := two_right inv
      rw [if_pos q18, ob_e e1, ob_e e2, if_pos e3]
      exact go h2 i2
    rw [if_neg q18]
    by_cases q19 : op = 19
    · have t : Two (TB c) h (f_X10_ifSought (xs (i + (1 : Int32)).toNatClampNeg) (xs (i + (2 : Int32)).toNatClampNeg)) (f_X11_ifSought (xs (i + (1 : Int32)).toNatClampNeg) (xs (i + (2 : Int32)).toNatClampNeg)) := two_ifSought inv
      obtain ⟨r, h1, h2, e1, e2, i2⟩ := t
      rw [if_pos q19, gd_t b1, gd_t b2, ob_e e1]
      dsimp only
      rw [gd_t b1, gd_t b2, ob_e e2, if_pos rfl]
      exact go _ i2
    rw [if_neg q19]
    by_cases q20 : op = 20
    · have t : Two (TB c) h (f_X10_bestGuess (xs (i + (1 : Int32)).toNatClampNeg)) (f_X11_bestGuess (xs (i + (1 : Int32)).toNatClampNeg)) := two_bestGuess inv
      obtain ⟨r, h1, h2, e1, e2, i2⟩ := t
      rw [if_pos q20, gd_t b1, ob_e e1]
      dsimp only
      rw [gd_t b1, ob_e e2, if_pos rfl]
      exact go _ i2
    rw [if_neg q20]
    by_cases q21 : op = 21
    · have t : Two (TB c) h (f_X10_polishFirst (xs (i + (1 : Int32)).toNatClampNeg)) (f_X11_polishFirst (xs (i + (1 : Int32)).toNatClampNeg)) := two_polishFirst inv
      obtain ⟨r, h1, h2, e1, e2, i2⟩ := t
      rw [if_pos q21, gd_t b1, ob_e e1]
      dsimp only
      rw [gd_t b1, ob_e e2, if_pos rfl]
      exact go _ i2
    rw [if_neg q21]
    by_cases q22 : op = 22
    · have t : Two (TB c) h (f_X10_gap (xs (i + (1 : Int32)).toNatClampNeg)) (f_X11_gap (xs (i + (1 : Int32)).toNatClampNeg)) := two_gap inv
      obtain ⟨r, h1, h2, e1, e2, i2⟩ := t
      rw [if_pos q22, gd_t b1, ob_e e1]
      dsimp only
      rw [gd_t b1, ob_e e2, if_pos rfl]
      exact go _ i2
    rw [if_neg q22]
    exact go h (inv_mono inv)
theorem pure_main {L : Nat} {xs : Nat → Int32} (hL : L ≤ 2560) : f_L_law_L18 FU xs L 0 h00 = some 1 := law_loop hL 513 FU 0 h00 rfl (by decide) inv_0
