section COUNT
variable {y : Nat → Int} {row : Nat → Int32} {beasts meals seats laws inForce cases : Int32} {tr mh te rs ju vo : Nat → Int32} {last status thrown : Int32} {a78 refusals : Nat → Int32} {Fu : Nat}
theorem if_nn {α : Type} {a b : Int} {A B : α} (h : a ≠ b) (h1 : -2147483648 ≤ a) (h2 : a ≤ 2147483647) (h3 : -2147483648 ≤ b) (h4 : b ≤ 2147483647) : (if i32 a = i32 b then A else B) = B := if_neg (by rw [i32_eq h1 h2 h3 h4]; exact h)
theorem sX4 : ∀ k : Fin 5, (e_sX 4).getD k.val 0 = i32 ((([1, 2, 3, 5, 6] : List Nat).getD k.val 0 : Nat) : Int) := by decide
theorem x_count (hX : RX y beasts meals seats laws inForce tr mh te cases rs ju vo) (hW : WF y) {len : Int32} {v : Int} (v1 : -2147483648 ≤ v) (v2 : v ≤ 2147483647) : fX11_count beasts meals seats laws inForce te cases len a78 (i32 v) = some (if v = 0 then i32 (y 0) else if v = 1 then i32 (y 1) else if v = 2 then i32 (y 2) else if v = 3 then i32 (y 11) else if v = 4 then i32 ((bcn (y 4).toNat 8 : Nat) : Int) else if v = 5 then len else if v = 6 then a78 1 else if v = 7 then a78 2 else if v = 8 then a78 3 else if v = 9 then a78 5 else if v = 10 then a78 6 else if v = 11 then i32 (y 3) else if 12 ≤ v ∧ v ≤ 17 then i32 (y (5 + (v - 12).toNat)) else -1) := by
  obtain ⟨h1, h2, h3, h4, h5, h6, h7, h8, h9, h10⟩ := hX
  obtain ⟨s, n, e4, e0, hn, hs1, hs, hb⟩ := hW.seats
  have eb : fJ6_bitCount_0f7a4 seats = some (i32 ((bcn (y 4).toNat 8 : Nat) : Int)) := by rw [h3, e4, Int.toNat_natCast]; exact x_bitCount ⟨s, hs⟩
  unfold fX11_count
  by_cases c1 : 6 ≤ v ∧ v ≤ 10
  · rw [if_neg (show ¬ i32 v < 6 by rw [i32_litN 6, i32_lt (by omega) (by omega) (by omega) (by omega)]; omega), if_neg (show ¬ (10 : Int32) < i32 v by rw [i32_litN 10, i32_lt (by omega) (by omega) (by omega) (by omega)]; omega)]
    obtain ⟨k, hk⟩ := Int.eq_ofNat_of_zero_le (show 0 ≤ v - 6 by omega)
    have ek : i32 v - 6 = i32 (k : Int) := by rw [i32_litN 6, i32_sub]; exact congrArg i32 (by omega)
    rw [ek, gd_ok (by omega) (by omega) (by omega), i32_nat (by omega) (by omega), Int.toNat_natCast]
    have e := sX4 ⟨k, by omega⟩
    dsimp only at e
    rw [e]
    obtain rfl : v = (k : Int) + 6 := by omega
    rcases (show k = 0 ∨ k = 1 ∨ k = 2 ∨ k = 3 ∨ k = 4 by omega) with rfl | rfl | rfl | rfl | rfl <;> rfl
  · have go : fX11_count_L26 beasts meals seats laws inForce te cases len a78 (i32 v) = some (if v = 0 then i32 (y 0) else if v = 1 then i32 (y 1) else if v = 2 then i32 (y 2) else if v = 3 then i32 (y 11) else if v = 4 then i32 ((bcn (y 4).toNat 8 : Nat) : Int) else if v = 5 then len else if v = 6 then a78 1 else if v = 7 then a78 2 else if v = 8 then a78 3 else if v = 9 then a78 5 else if v = 10 then a78 6 else if v = 11 then i32 (y 3) else if 12 ≤ v ∧ v ≤ 17 then i32 (y (5 + (v - 12).toNat)) else -1) := by
      unfold fX11_count_L26
      by_cases c2 : 12 ≤ v ∧ v ≤ 17
      · rw [if_neg (show ¬ i32 v < 12 by rw [i32_litN 12, i32_lt (by omega) (by omega) (by omega) (by omega)]; omega), if_neg (show ¬ (18 : Int32) ≤ i32 v by rw [i32_litN 18, i32_le (by omega) (by omega) (by omega) (by omega)]; omega)]
        have ek : i32 v - 12 = i32 (((v - 12).toNat : Nat) : Int) := by rw [i32_litN 12, i32_sub]; exact congrArg i32 (by omega)
        rw [ek, gd_ok (by omega) (by omega) (by omega), i32_nat (by omega) (by omega), Int.toNat_natCast, h7 _ (by omega)]
        rw [if_neg (by omega), if_neg (by omega), if_neg (by omega), if_neg (by omega), if_neg (by omega), if_neg (by omega), if_neg (by omega), if_neg (by omega), if_neg (by omega), if_neg (by omega), if_neg (by omega), if_neg (by omega), if_pos c2]
      · have l51 : fX11_count_L51 beasts meals seats laws inForce te cases len a78 (i32 v) = some (if v = 0 then i32 (y 0) else if v = 1 then i32 (y 1) else if v = 2 then i32 (y 2) else if v = 3 then i32 (y 11) else if v = 4 then i32 ((bcn (y 4).toNat 8 : Nat) : Int) else if v = 5 then len else if v = 6 then a78 1 else if v = 7 then a78 2 else if v = 8 then a78 3 else if v = 9 then a78 5 else if v = 10 then a78 6 else if v = 11 then i32 (y 3) else if 12 ≤ v ∧ v ≤ 17 then i32 (y (5 + (v - 12).toNat)) else -1) := by
          unfold fX11_count_L51
          rw [eb, h1, h2, h4, h5, h9, show (0 : Int32) = i32 0 from rfl, show (1 : Int32) = i32 1 from rfl, show (2 : Int32) = i32 2 from rfl, show (3 : Int32) = i32 3 from rfl, show (4 : Int32) = i32 4 from rfl, show (5 : Int32) = i32 5 from rfl, show (11 : Int32) = i32 11 from rfl, Option.bind_some]
          by_cases d0 : v = 0
          · subst d0; rfl
          · rw [if_nn d0 v1 v2 (by omega) (by omega), if_neg d0]
            by_cases d1 : v = 1
            · subst d1; rfl
            · rw [if_nn d1 v1 v2 (by omega) (by omega), if_neg d1]
              by_cases d2 : v = 2
              · subst d2; rfl
              · rw [if_nn d2 v1 v2 (by omega) (by omega), if_neg d2]
                by_cases d3 : v = 3
                · subst d3; rfl
                · rw [if_nn d3 v1 v2 (by omega) (by omega), if_neg d3]
                  by_cases d4 : v = 4
                  · subst d4; rfl
                  · rw [if_nn d4 v1 v2 (by omega) (by omega), if_neg d4]
                    by_cases d5 : v = 5
                    · subst d5; rfl
                    · rw [if_nn d5 v1 v2 (by omega) (by omega), if_neg d5, if_neg (show ¬ v = 6 by omega), if_neg (show ¬ v = 7 by omega), if_neg (show ¬ v = 8 by omega), if_neg (show ¬ v = 9 by omega), if_neg (show ¬ v = 10 by omega)]
                      by_cases d6 : v = 11
                      · subst d6; rfl
                      · rw [if_nn d6 v1 v2 (by omega) (by omega), if_neg d6, if_neg c2]
        by_cases c3 : v < 12
        · rw [if_pos (show i32 v < 12 by rw [i32_litN 12, i32_lt (by omega) (by omega) (by omega) (by omega)]; omega)]; exact l51
        · rw [if_neg (show ¬ i32 v < 12 by rw [i32_litN 12, i32_lt (by omega) (by omega) (by omega) (by omega)]; omega), if_pos (show (18 : Int32) ≤ i32 v by rw [i32_litN 18, i32_le (by omega) (by omega) (by omega) (by omega)]; omega)]; exact l51
    by_cases c3 : v < 6
    · rw [if_pos (show i32 v < 6 by rw [i32_litN 6, i32_lt (by omega) (by omega) (by omega) (by omega)]; omega)]; exact go
    · rw [if_neg (show ¬ i32 v < 6 by rw [i32_litN 6, i32_lt (by omega) (by omega) (by omega) (by omega)]; omega), if_pos (show (10 : Int32) < i32 v by rw [i32_litN 10, i32_lt (by omega) (by omega) (by omega) (by omega)]; omega)]; exact go
theorem v_count (hFu : 6000 ≤ Fu) (hM : RM y row) (hW : WF y) {len : Int32} {v : Int} (v1 : -2147483648 ≤ v) (v2 : v ≤ 2147483647) : fX12_count Fu thrown a78 row len (i32 v) = some ((if v = 0 then i32 (y 0) else if v = 1 then i32 (y 1) else if v = 2 then i32 (y 2) else if v = 3 then i32 (y 11) else if v = 4 then i32 ((bcn (y 4).toNat 8 : Nat) : Int) else if v = 5 then len else if v = 6 then a78 1 else if v = 7 then a78 2 else if v = 8 then a78 3 else if v = 9 then a78 5 else if v = 10 then a78 6 else if v = 11 then i32 (y 3) else if 12 ≤ v ∧ v ≤ 17 then i32 (y (5 + (v - 12).toNat)) else -1), 0) := by
  obtain ⟨s, n, e4, e0, hn, hs1, hs, hb⟩ := hW.seats
  have eb : fX12_bits Fu (row 4) = some (i32 ((bcn (y 4).toNat 8 : Nat) : Int)) := by rw [hM 4 (by omega), e4, Int.toNat_natCast]; exact v_bits hFu hs
  unfold fX12_count
  rw [gd9 (n := 0) (m := 5570) (by decide) (by decide), gd9 (n := 1) (m := 5570) (by decide) (by decide), gd9 (n := 2) (m := 5570) (by decide) (by decide), gd9 (n := 11) (m := 5570) (by decide) (by decide), gd9 (n := 4) (m := 5570) (by decide) (by decide), gd9 (n := 3) (m := 5570) (by decide) (by decide), gd9 (n := 1) (m := 7) (by decide) (by decide), gd9 (n := 2) (m := 7) (by decide) (by decide), gd9 (n := 3) (m := 7) (by decide) (by decide), gd9 (n := 5) (m := 7) (by decide) (by decide), gd9 (n := 6) (m := 7) (by decide) (by decide)]
  rw [i32_nn9 (n := 0) (by decide), i32_nn9 (n := 1) (by decide), i32_nn9 (n := 2) (by decide), i32_nn9 (n := 11) (by decide), i32_nn9 (n := 4) (by decide), i32_nn9 (n := 3) (by decide), i32_nn9 (n := 5) (by decide), i32_nn9 (n := 6) (by decide), hM 0 (by omega), hM 1 (by omega), hM 2 (by omega), hM 11 (by omega), hM 3 (by omega), eb, Option.bind_some]
  by_cases d0 : v = 0
  · subst d0; rfl
  · rw [if_neg (show ¬ i32 v = 0 by rw [show (0 : Int32) = i32 0 from rfl, i32_eq (by omega) (by omega) (by omega) (by omega)]; exact d0), if_neg d0]
    by_cases d1 : v = 1
    · subst d1; rfl
    · rw [if_neg (show ¬ i32 v = 1 by rw [show (1 : Int32) = i32 1 from rfl, i32_eq (by omega) (by omega) (by omega) (by omega)]; exact d1), if_neg d1]
      by_cases d2 : v = 2
      · subst d2; rfl
      · rw [if_neg (show ¬ i32 v = 2 by rw [show (2 : Int32) = i32 2 from rfl, i32_eq (by omega) (by omega) (by omega) (by omega)]; exact d2), if_neg d2]
        by_cases d3 : v = 3
        · subst d3; rfl
        · rw [if_neg (show ¬ i32 v = 3 by rw [show (3 : Int32) = i32 3 from rfl, i32_eq (by omega) (by omega) (by omega) (by omega)]; exact d3), if_neg d3]
          by_cases d4 : v = 4
          · subst d4; rfl
          · rw [if_neg (show ¬ i32 v = 4 by rw [show (4 : Int32) = i32 4 from rfl, i32_eq (by omega) (by omega) (by omega) (by omega)]; exact d4), if_neg d4]
            by_cases d5 : v = 5
            · subst d5; rfl
            · rw [if_neg (show ¬ i32 v = 5 by rw [show (5 : Int32) = i32 5 from rfl, i32_eq (by omega) (by omega) (by omega) (by omega)]; exact d5), if_neg d5]
              by_cases d6 : v = 6
              · subst d6; rfl
              · rw [if_neg (show ¬ i32 v = 6 by rw [show (6 : Int32) = i32 6 from rfl, i32_eq (by omega) (by omega) (by omega) (by omega)]; exact d6), if_neg d6]
                by_cases d7 : v = 7
                · subst d7; rfl
                · rw [if_neg (show ¬ i32 v = 7 by rw [show (7 : Int32) = i32 7 from rfl, i32_eq (by omega) (by omega) (by omega) (by omega)]; exact d7), if_neg d7]
                  by_cases d8 : v = 8
                  · subst d8; rfl
                  · rw [if_neg (show ¬ i32 v = 8 by rw [show (8 : Int32) = i32 8 from rfl, i32_eq (by omega) (by omega) (by omega) (by omega)]; exact d8), if_neg d8]
                    by_cases d9 : v = 9
                    · subst d9; rfl
                    · rw [if_neg (show ¬ i32 v = 9 by rw [show (9 : Int32) = i32 9 from rfl, i32_eq (by omega) (by omega) (by omega) (by omega)]; exact d9), if_neg d9]
                      by_cases d10 : v = 10
                      · subst d10; rfl
                      · rw [if_neg (show ¬ i32 v = 10 by rw [show (10 : Int32) = i32 10 from rfl, i32_eq (by omega) (by omega) (by omega) (by omega)]; exact d10), if_neg d10]
                        by_cases d11 : v = 11
                        · subst d11; rfl
                        · rw [if_neg (show ¬ i32 v = 11 by rw [show (11 : Int32) = i32 11 from rfl, i32_eq (by omega) (by omega) (by omega) (by omega)]; exact d11), if_neg d11]
                          rw [i32_64 v1 v2, show (12 : Int64) = i64 12 from rfl, show (17 : Int64) = i64 17 from rfl, v_in (by omega) (by omega) (by omega) (by omega) (by omega) (by omega), Option.bind_some]
                          by_cases c : 12 ≤ v ∧ v ≤ 17
                          · rw [if_neg (by rw [bI_0]; exact fun q => q c), if_pos c, show (5 : Int32) + i32 v - 12 = i32 ((5 + (v - 12).toNat : Nat) : Int) by rw [i32_litN 5, i32_litN 12, i32_add, i32_sub]; exact congrArg i32 (by omega), gd_ok (by omega) (by omega) (by omega), i32_nat (by omega) (by omega), Int.toNat_natCast, hM _ (by omega)]
                          · rw [if_pos (by rw [bI_0]; exact c), if_neg c]
end COUNT
