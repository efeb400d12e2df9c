theorem i_ok {j : Nat} {e : I_Row} (h : i_mt j = some e) : i_okM e = true := sorry
