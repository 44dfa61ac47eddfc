set_option maxRecDepth 10000 in
theorem gL_law_18 {x3 : Int}  {M : Mem} {Q : Vl → Mem → Prop} (h : inr x3 ∧ (inr ((M (-2) 0) - 6) ∧ ((((M (-2) 0) - 6) < x3 → Q (Iv 1) M) ∧ (x3 ≤ ((M (-2) 0) - 6) → 0 ≤ x3 ∧ (x3 < M (-2) 0 ∧ (inr ((M 0 x3) % 2 ^ 6) ∧ ((((M 0 x3) % 2 ^ 6) < 0 ∨ 47 < ((M 0 x3) % 2 ^ 6) → wp 0 yL_law 18 [some (Rv 0), some (Rv 1), some (Rv 88), some (Iv (x3 + 6))] [] M Q) ∧ (((M 0 x3) % 2 ^ 6) = 0 → 0 ≤ x3 + 1 ∧ (x3 + 1 < M (-2) 0 ∧ (inr (x3 + 1) ∧ (0 ≤ x3 + 2 ∧ (x3 + 2 < M (-2) 0 ∧ (inr (x3 + 2) ∧ (cl 0 yX11_row [Rv 1, Iv (M 0 (x3 + 1)), Iv (M 0 (x3 + 2))] M (QI (fun z14 M14 => (x3 + 1 < M14 (-2) 0 ∧ (x3 + 2 < M14 (-2) 0 ∧ (cl 0 yX12_row [Rv 88, Iv (M14 0 (x3 + 1)), Iv (M14 0 (x3 + 2))] M14 (QI (fun z17 M17 => ((z14 = z17 ∨ (inr z14 ∧ inr z17)) ∧ ((z14 = z17 → wp 0 yL_law 18 [some (Rv 0), some (Rv 1), some (Rv 88), some (Iv (x3 + 6))] [] M17 Q) ∧ (z14 ≠ z17 → Q (Iv 0) M17))))))))))))))))) ∧ (((M 0 x3) % 2 ^ 6) = 1 → 0 ≤ x3 + 1 ∧ (x3 + 1 < M (-2) 0 ∧ (inr (x3 + 1) ∧ (0 ≤ x3 + 2 ∧ (x3 + 2 < M (-2) 0 ∧ (inr (x3 + 2) ∧ (0 ≤ x3 + 3 ∧ (x3 + 3 < M (-2) 0 ∧ (inr (x3 + 3) ∧ (cl 0 yX11_lay [Rv 1, Iv (M 0 (x3 + 1)), Iv (M 0 (x3 + 2)), Iv (M 0 (x3 + 3))] M (QI (fun z29 M29 => (x3 + 1 < M29 (-2) 0 ∧ (x3 + 2 < M29 (-2) 0 ∧ (x3 + 3 < M29 (-2) 0 ∧ (cl 0 yX12_lay [Rv 88, Iv (M29 0 (x3 + 1)), Iv (M29 0 (x3 + 2)), Iv (M29 0 (x3 + 3))] M29 (QI (fun z33 M33 => ((z29 = z33 ∨ (inr z29 ∧ inr z33)) ∧ ((z29 = z33 → wp 0 yL_law 18 [some (Rv 0), some (Rv 1), some (Rv 88), some (Iv (x3 + 6))] [] M33 Q) ∧ (z29 ≠ z33 → Q (Iv 0) M33))))))))))))))))))))) ∧ (((M 0 x3) % 2 ^ 6) = 2 → 0 ≤ x3 + 1 ∧ (x3 + 1 < M (-2) 0 ∧ (inr (x3 + 1) ∧ (0 ≤ x3 + 2 ∧ (x3 + 2 < M (-2) 0 ∧ (inr (x3 + 2) ∧ (cl 0 yX11_at [Rv 1, Iv (M 0 (x3 + 1)), Iv (M 0 (x3 + 2))] M (QI (fun z42 M42 => (x3 + 1 < M42 (-2) 0 ∧ (x3 + 2 < M42 (-2) 0 ∧ (cl 0 yX12_at [Rv 88, Iv (M42 0 (x3 + 1)), Iv (M42 0 (x3 + 2))] M42 (QI (fun z45 M45 => ((z42 = z45 ∨ (inr z42 ∧ inr z45)) ∧ ((z42 = z45 → wp 0 yL_law 18 [some (Rv 0), some (Rv 1), some (Rv 88), some (Iv (x3 + 6))] [] M45 Q) ∧ (z42 ≠ z45 → Q (Iv 0) M45))))))))))))))))) ∧ (((M 0 x3) % 2 ^ 6) = 3 → 0 ≤ x3 + 1 ∧ (x3 + 1 < M (-2) 0 ∧ (inr (x3 + 1) ∧ (cl 0 yX11_tear [Rv 1, Iv (M 0 (x3 + 1))] M (QI (fun z51 M51 => (x3 + 1 < M51 (-2) 0 ∧ (cl 0 yX12_tear [Rv 88, Iv (M51 0 (x3 + 1))] M51 (QI (fun z53 M53 => ((z51 = z53 ∨ (inr z51 ∧ inr z53)) ∧ ((z51 = z53 → wp 0 yL_law 18 [some (Rv 0), some (Rv 1), some (Rv 88), some (Iv (x3 + 6))] [] M53 Q) ∧ (z51 ≠ z53 → Q (Iv 0) M53))))))))))))) ∧ (((M 0 x3) % 2 ^ 6) = 4 → 0 ≤ x3 + 1 ∧ (x3 + 1 < M (-2) 0 ∧ (inr (x3 + 1) ∧ (0 ≤ x3 + 2 ∧ (x3 + 2 < M (-2) 0 ∧ (inr (x3 + 2) ∧ (0 ≤ x3 + 3 ∧ (x3 + 3 < M (-2) 0 ∧ (inr (x3 + 3) ∧ (0 ≤ x3 + 4 ∧ (x3 + 4 < M (-2) 0 ∧ (inr (x3 + 4) ∧ (0 ≤ x3 + 5 ∧ (x3 + 5 < M (-2) 0 ∧ (inr (x3 + 5) ∧ (cl 0 yX11_copy [Rv 1, Iv (M 0 (x3 + 1)), Iv (M 0 (x3 + 2)), Iv (M 0 (x3 + 3)), Iv (M 0 (x3 + 4)), Iv (M 0 (x3 + 5))] M (QI (fun z71 M71 => (x3 + 1 < M71 (-2) 0 ∧ (x3 + 2 < M71 (-2) 0 ∧ (x3 + 3 < M71 (-2) 0 ∧ (x3 + 4 < M71 (-2) 0 ∧ (x3 + 5 < M71 (-2) 0 ∧ (cl 0 yX12_copy [Rv 88, Iv (M71 0 (x3 + 1)), Iv (M71 0 (x3 + 2)), Iv (M71 0 (x3 + 3)), Iv (M71 0 (x3 + 4)), Iv (M71 0 (x3 + 5))] M71 (QI (fun z77 M77 => ((z71 = z77 ∨ (inr z71 ∧ inr z77)) ∧ ((z71 = z77 → wp 0 yL_law 18 [some (Rv 0), some (Rv 1), some (Rv 88), some (Iv (x3 + 6))] [] M77 Q) ∧ (z71 ≠ z77 → Q (Iv 0) M77))))))))))))))))))))))))))))) ∧ (((M 0 x3) % 2 ^ 6) = 5 → 0 ≤ x3 + 1 ∧ (x3 + 1 < M (-2) 0 ∧ (inr (x3 + 1) ∧ (cl 0 yX11_mean [Rv 1, Iv (M 0 (x3 + 1))] M (QI (fun z83 M83 => (x3 + 1 < M83 (-2) 0 ∧ (cl 0 yX12_mean [Rv 88, Iv (M83 0 (x3 + 1))] M83 (QI (fun z85 M85 => ((z83 = z85 ∨ (inr z83 ∧ inr z85)) ∧ ((z83 = z85 → wp 0 yL_law 18 [some (Rv 0), some (Rv 1), some (Rv 88), some (Iv (x3 + 6))] [] M85 Q) ∧ (z83 ≠ z85 → Q (Iv 0) M85))))))))))))) ∧ (((M 0 x3) % 2 ^ 6) = 6 → 0 ≤ x3 + 1 ∧ (x3 + 1 < M (-2) 0 ∧ (inr (x3 + 1) ∧ (0 ≤ x3 + 2 ∧ (x3 + 2 < M (-2) 0 ∧ (inr (x3 + 2) ∧ (cl 0 yX11_text [Rv 1, Iv (M 0 (x3 + 1)), Iv (M 0 (x3 + 2))] M (QI (fun z94 M94 => (x3 + 1 < M94 (-2) 0 ∧ (x3 + 2 < M94 (-2) 0 ∧ (cl 0 yX12_text [Rv 88, Iv (M94 0 (x3 + 1)), Iv (M94 0 (x3 + 2))] M94 (QI (fun z97 M97 => ((z94 = z97 ∨ (inr z94 ∧ inr z97)) ∧ ((z94 = z97 → wp 0 yL_law 18 [some (Rv 0), some (Rv 1), some (Rv 88), some (Iv (x3 + 6))] [] M97 Q) ∧ (z94 ≠ z97 → Q (Iv 0) M97))))))))))))))))) ∧ (((M 0 x3) % 2 ^ 6) = 7 → 0 ≤ x3 + 1 ∧ (x3 + 1 < M (-2) 0 ∧ (inr (x3 + 1) ∧ (0 ≤ x3 + 2 ∧ (x3 + 2 < M (-2) 0 ∧ (inr (x3 + 2) ∧ (0 ≤ x3 + 3 ∧ (x3 + 3 < M (-2) 0 ∧ (inr (x3 + 3) ∧ (cl 0 yX11_put [Rv 1, Iv (M 0 (x3 + 1)), Iv (M 0 (x3 + 2)), Iv (M 0 (x3 + 3))] M (QI (fun z109 M109 => (x3 + 1 < M109 (-2) 0 ∧ (x3 + 2 < M109 (-2) 0 ∧ (x3 + 3 < M109 (-2) 0 ∧ (cl 0 yX12_put [Rv 88, Iv (M109 0 (x3 + 1)), Iv (M109 0 (x3 + 2)), Iv (M109 0 (x3 + 3))] M109 (QI (fun z113 M113 => ((z109 = z113 ∨ (inr z109 ∧ inr z113)) ∧ ((z109 = z113 → wp 0 yL_law 18 [some (Rv 0), some (Rv 1), some (Rv 88), some (Iv (x3 + 6))] [] M113 Q) ∧ (z109 ≠ z113 → Q (Iv 0) M113))))))))))))))))))))) ∧ (((M 0 x3) % 2 ^ 6) = 8 → 0 ≤ x3 + 1 ∧ (x3 + 1 < M (-2) 0 ∧ (inr (x3 + 1) ∧ (cl 0 yX11_letters [Rv 1, Iv (M 0 (x3 + 1))] M (QI (fun z119 M119 => (x3 + 1 < M119 (-2) 0 ∧ (cl 0 yX12_letters [Rv 88, Iv (M119 0 (x3 + 1))] M119 (QI (fun z121 M121 => ((z119 = z121 ∨ (inr z119 ∧ inr z121)) ∧ ((z119 = z121 → wp 0 yL_law 18 [some (Rv 0), some (Rv 1), some (Rv 88), some (Iv (x3 + 6))] [] M121 Q) ∧ (z119 ≠ z121 → Q (Iv 0) M121))))))))))))) ∧ (((M 0 x3) % 2 ^ 6) = 9 → 0 ≤ x3 + 1 ∧ (x3 + 1 < M (-2) 0 ∧ (inr (x3 + 1) ∧ (0 ≤ x3 + 2 ∧ (x3 + 2 < M (-2) 0 ∧ (inr (x3 + 2) ∧ (cl 0 yX11_word [Rv 1, Iv (M 0 (x3 + 1)), Iv (M 0 (x3 + 2))] M (QI (fun z130 M130 => (x3 + 1 < M130 (-2) 0 ∧ (x3 + 2 < M130 (-2) 0 ∧ (cl 0 yX12_word [Rv 88, Iv (M130 0 (x3 + 1)), Iv (M130 0 (x3 + 2))] M130 (QI (fun z133 M133 => ((z130 = z133 ∨ (inr z130 ∧ inr z133)) ∧ ((z130 = z133 → wp 0 yL_law 18 [some (Rv 0), some (Rv 1), some (Rv 88), some (Iv (x3 + 6))] [] M133 Q) ∧ (z130 ≠ z133 → Q (Iv 0) M133))))))))))))))))) ∧ (((M 0 x3) % 2 ^ 6) = 10 → 0 ≤ x3 + 1 ∧ (x3 + 1 < M (-2) 0 ∧ (inr (x3 + 1) ∧ (cl 0 yX11_fault [Rv 1, Iv (M 0 (x3 + 1))] M (QI (fun z139 M139 => (x3 + 1 < M139 (-2) 0 ∧ (cl 0 yX12_fault [Rv 88, Iv (M139 0 (x3 + 1))] M139 (QI (fun z141 M141 => ((z139 = z141 ∨ (inr z139 ∧ inr z141)) ∧ ((z139 = z141 → wp 0 yL_law 18 [some (Rv 0), some (Rv 1), some (Rv 88), some (Iv (x3 + 6))] [] M141 Q) ∧ (z139 ≠ z141 → Q (Iv 0) M141))))))))))))) ∧ (((M 0 x3) % 2 ^ 6) = 11 → 0 ≤ x3 + 1 ∧ (x3 + 1 < M (-2) 0 ∧ (inr (x3 + 1) ∧ (0 ≤ x3 + 2 ∧ (x3 + 2 < M (-2) 0 ∧ (inr (x3 + 2) ∧ (cl 0 yX11_tell [Rv 1, Iv (M 0 (x3 + 1)), Iv (M 0 (x3 + 2))] M (QI (fun z150 M150 => (x3 + 1 < M150 (-2) 0 ∧ (x3 + 2 < M150 (-2) 0 ∧ (cl 0 yX12_tell [Rv 88, Iv (M150 0 (x3 + 1)), Iv (M150 0 (x3 + 2))] M150 (QI (fun z153 M153 => ((z150 = z153 ∨ (inr z150 ∧ inr z153)) ∧ ((z150 = z153 → wp 0 yL_law 18 [some (Rv 0), some (Rv 1), some (Rv 88), some (Iv (x3 + 6))] [] M153 Q) ∧ (z150 ≠ z153 → Q (Iv 0) M153))))))))))))))))) ∧ (((M 0 x3) % 2 ^ 6) = 12 → 0 ≤ x3 + 1 ∧ (x3 + 1 < M (-2) 0 ∧ (inr (x3 + 1) ∧ (0 ≤ x3 + 2 ∧ (x3 + 2 < M (-2) 0 ∧ (inr (x3 + 2) ∧ (0 ≤ x3 + 3 ∧ (x3 + 3 < M (-2) 0 ∧ (inr (x3 + 3) ∧ (cl 0 yX11_join [Rv 1, Iv (M 0 (x3 + 1)), Iv (M 0 (x3 + 2)), Iv (M 0 (x3 + 3))] M (QI (fun z165 M165 => (x3 + 1 < M165 (-2) 0 ∧ (x3 + 2 < M165 (-2) 0 ∧ (x3 + 3 < M165 (-2) 0 ∧ (cl 0 yX12_join [Rv 88, Iv (M165 0 (x3 + 1)), Iv (M165 0 (x3 + 2)), Iv (M165 0 (x3 + 3))] M165 (QI (fun z169 M169 => ((z165 = z169 ∨ (inr z165 ∧ inr z169)) ∧ ((z165 = z169 → wp 0 yL_law 18 [some (Rv 0), some (Rv 1), some (Rv 88), some (Iv (x3 + 6))] [] M169 Q) ∧ (z165 ≠ z169 → Q (Iv 0) M169))))))))))))))))))))) ∧ (((M 0 x3) % 2 ^ 6) = 13 → 0 ≤ x3 + 1 ∧ (x3 + 1 < M (-2) 0 ∧ (inr (x3 + 1) ∧ (0 ≤ x3 + 2 ∧ (x3 + 2 < M (-2) 0 ∧ (inr (x3 + 2) ∧ (0 ≤ x3 + 3 ∧ (x3 + 3 < M (-2) 0 ∧ (inr (x3 + 3) ∧ (0 ≤ x3 + 4 ∧ (x3 + 4 < M (-2) 0 ∧ (inr (x3 + 4) ∧ (cl 0 yX11_part [Rv 1, Iv (M 0 (x3 + 1)), Iv (M 0 (x3 + 2)), Iv (M 0 (x3 + 3)), Iv (M 0 (x3 + 4))] M (QI (fun z184 M184 => (x3 + 1 < M184 (-2) 0 ∧ (x3 + 2 < M184 (-2) 0 ∧ (x3 + 3 < M184 (-2) 0 ∧ (x3 + 4 < M184 (-2) 0 ∧ (cl 0 yX12_part [Rv 88, Iv (M184 0 (x3 + 1)), Iv (M184 0 (x3 + 2)), Iv (M184 0 (x3 + 3)), Iv (M184 0 (x3 + 4))] M184 (QI (fun z189 M189 => ((z184 = z189 ∨ (inr z184 ∧ inr z189)) ∧ ((z184 = z189 → wp 0 yL_law 18 [some (Rv 0), some (Rv 1), some (Rv 88), some (Iv (x3 + 6))] [] M189 Q) ∧ (z184 ≠ z189 → Q (Iv 0) M189))))))))))))))))))))))))) ∧ (((M 0 x3) % 2 ^ 6) = 14 → 0 ≤ x3 + 1 ∧ (x3 + 1 < M (-2) 0 ∧ (inr (x3 + 1) ∧ (0 ≤ x3 + 2 ∧ (x3 + 2 < M (-2) 0 ∧ (inr (x3 + 2) ∧ (0 ≤ x3 + 3 ∧ (x3 + 3 < M (-2) 0 ∧ (inr (x3 + 3) ∧ (cl 0 yX11_turn [Rv 1, Iv (M 0 (x3 + 1)), Iv (M 0 (x3 + 2)), Iv (M 0 (x3 + 3))] M (QI (fun z201 M201 => (x3 + 1 < M201 (-2) 0 ∧ (x3 + 2 < M201 (-2) 0 ∧ (x3 + 3 < M201 (-2) 0 ∧ (cl 0 yX12_turn [Rv 88, Iv (M201 0 (x3 + 1)), Iv (M201 0 (x3 + 2)), Iv (M201 0 (x3 + 3))] M201 (QI (fun z205 M205 => ((z201 = z205 ∨ (inr z201 ∧ inr z205)) ∧ ((z201 = z205 → wp 0 yL_law 18 [some (Rv 0), some (Rv 1), some (Rv 88), some (Iv (x3 + 6))] [] M205 Q) ∧ (z201 ≠ z205 → Q (Iv 0) M205))))))))))))))))))))) ∧ (((M 0 x3) % 2 ^ 6) = 15 → 0 ≤ x3 + 1 ∧ (x3 + 1 < M (-2) 0 ∧ (inr (x3 + 1) ∧ (0 ≤ x3 + 2 ∧ (x3 + 2 < M (-2) 0 ∧ (inr (x3 + 2) ∧ (0 ≤ x3 + 3 ∧ (x3 + 3 < M (-2) 0 ∧ (inr (x3 + 3) ∧ (cl 0 yX11_drop [Rv 1, Iv (M 0 (x3 + 1)), Iv (M 0 (x3 + 2)), Iv (M 0 (x3 + 3))] M (QI (fun z217 M217 => (x3 + 1 < M217 (-2) 0 ∧ (x3 + 2 < M217 (-2) 0 ∧ (x3 + 3 < M217 (-2) 0 ∧ (cl 0 yX12_drop [Rv 88, Iv (M217 0 (x3 + 1)), Iv (M217 0 (x3 + 2)), Iv (M217 0 (x3 + 3))] M217 (QI (fun z221 M221 => ((z217 = z221 ∨ (inr z217 ∧ inr z221)) ∧ ((z217 = z221 → wp 0 yL_law 18 [some (Rv 0), some (Rv 1), some (Rv 88), some (Iv (x3 + 6))] [] M221 Q) ∧ (z217 ≠ z221 → Q (Iv 0) M221))))))))))))))))))))) ∧ (((M 0 x3) % 2 ^ 6) = 16 → 0 ≤ x3 + 1 ∧ (x3 + 1 < M (-2) 0 ∧ (inr (x3 + 1) ∧ (cl 0 yX11_erase [Rv 1, Iv (M 0 (x3 + 1))] M (QI (fun z227 M227 => (x3 + 1 < M227 (-2) 0 ∧ (cl 0 yX12_erase [Rv 88, Iv (M227 0 (x3 + 1))] M227 (QI (fun z229 M229 => ((z227 = z229 ∨ (inr z227 ∧ inr z229)) ∧ ((z227 = z229 → wp 0 yL_law 18 [some (Rv 0), some (Rv 1), some (Rv 88), some (Iv (x3 + 6))] [] M229 Q) ∧ (z227 ≠ z229 → Q (Iv 0) M229))))))))))))) ∧ (((M 0 x3) % 2 ^ 6) = 17 → 0 ≤ x3 + 1 ∧ (x3 + 1 < M (-2) 0 ∧ (inr (x3 + 1) ∧ (cl 0 yX11_size [Rv 1, Iv (M 0 (x3 + 1))] M (QI (fun z235 M235 => (x3 + 1 < M235 (-2) 0 ∧ (cl 0 yX12_size [Rv 88, Iv (M235 0 (x3 + 1))] M235 (QI (fun z237 M237 => ((z235 = z237 ∨ (inr z235 ∧ inr z237)) ∧ ((z235 = z237 → wp 0 yL_law 18 [some (Rv 0), some (Rv 1), some (Rv 88), some (Iv (x3 + 6))] [] M237 Q) ∧ (z235 ≠ z237 → Q (Iv 0) M237))))))))))))) ∧ (((M 0 x3) % 2 ^ 6) = 18 → 0 ≤ x3 + 1 ∧ (x3 + 1 < M (-2) 0 ∧ (inr (x3 + 1) ∧ (0 ≤ x3 + 2 ∧ (x3 + 2 < M (-2) 0 ∧ (inr (x3 + 2) ∧ (cl 0 yX11_letter [Rv 1, Iv (M 0 (x3 + 1)), Iv (M 0 (x3 + 2))] M (QI (fun z246 M246 => (x3 + 1 < M246 (-2) 0 ∧ (x3 + 2 < M246 (-2) 0 ∧ (cl 0 yX12_letter [Rv 88, Iv (M246 0 (x3 + 1)), Iv (M246 0 (x3 + 2))] M246 (QI (fun z249 M249 => ((z246 = z249 ∨ (inr z246 ∧ inr z249)) ∧ ((z246 = z249 → wp 0 yL_law 18 [some (Rv 0), some (Rv 1), some (Rv 88), some (Iv (x3 + 6))] [] M249 Q) ∧ (z246 ≠ z249 → Q (Iv 0) M249))))))))))))))))) ∧ (((M 0 x3) % 2 ^ 6) = 19 → 0 ≤ x3 + 1 ∧ (x3 + 1 < M (-2) 0 ∧ (inr (x3 + 1) ∧ (cl 0 yX11_kind [Rv 1, Iv (M 0 (x3 + 1))] M (QI (fun z255 M255 => (x3 + 1 < M255 (-2) 0 ∧ (cl 0 yX12_kind [Rv 88, Iv (M255 0 (x3 + 1))] M255 (QI (fun z257 M257 => ((z255 = z257 ∨ (inr z255 ∧ inr z257)) ∧ ((z255 = z257 → wp 0 yL_law 18 [some (Rv 0), some (Rv 1), some (Rv 88), some (Iv (x3 + 6))] [] M257 Q) ∧ (z255 ≠ z257 → Q (Iv 0) M257))))))))))))) ∧ (((M 0 x3) % 2 ^ 6) = 20 → 0 ≤ x3 + 1 ∧ (x3 + 1 < M (-2) 0 ∧ (inr (x3 + 1) ∧ (0 ≤ x3 + 2 ∧ (x3 + 2 < M (-2) 0 ∧ (inr (x3 + 2) ∧ (cl 0 yX11_mark [Rv 1, Iv (M 0 (x3 + 1)), Iv (M 0 (x3 + 2))] M (QI (fun z266 M266 => (x3 + 1 < M266 (-2) 0 ∧ (x3 + 2 < M266 (-2) 0 ∧ (cl 0 yX12_mark [Rv 88, Iv (M266 0 (x3 + 1)), Iv (M266 0 (x3 + 2))] M266 (QI (fun z269 M269 => ((z266 = z269 ∨ (inr z266 ∧ inr z269)) ∧ ((z266 = z269 → wp 0 yL_law 18 [some (Rv 0), some (Rv 1), some (Rv 88), some (Iv (x3 + 6))] [] M269 Q) ∧ (z266 ≠ z269 → Q (Iv 0) M269))))))))))))))))) ∧ (((M 0 x3) % 2 ^ 6) = 21 → 0 ≤ x3 + 1 ∧ (x3 + 1 < M (-2) 0 ∧ (inr (x3 + 1) ∧ (0 ≤ x3 + 2 ∧ (x3 + 2 < M (-2) 0 ∧ (inr (x3 + 2) ∧ (cl 0 yX11_ways [Rv 1, Iv (M 0 (x3 + 1)), Iv (M 0 (x3 + 2))] M (QI (fun z278 M278 => (x3 + 1 < M278 (-2) 0 ∧ (x3 + 2 < M278 (-2) 0 ∧ (cl 0 yX12_ways [Rv 88, Iv (M278 0 (x3 + 1)), Iv (M278 0 (x3 + 2))] M278 (QI (fun z281 M281 => ((z278 = z281 ∨ (inr z278 ∧ inr z281)) ∧ ((z278 = z281 → wp 0 yL_law 18 [some (Rv 0), some (Rv 1), some (Rv 88), some (Iv (x3 + 6))] [] M281 Q) ∧ (z278 ≠ z281 → Q (Iv 0) M281))))))))))))))))) ∧ (((M 0 x3) % 2 ^ 6) = 22 → 0 ≤ x3 + 1 ∧ (x3 + 1 < M (-2) 0 ∧ (inr (x3 + 1) ∧ (0 ≤ x3 + 2 ∧ (x3 + 2 < M (-2) 0 ∧ (inr (x3 + 2) ∧ (0 ≤ x3 + 3 ∧ (x3 + 3 < M (-2) 0 ∧ (inr (x3 + 3) ∧ (0 ≤ x3 + 4 ∧ (x3 + 4 < M (-2) 0 ∧ (inr (x3 + 4) ∧ (inr (M 0 (x3 + 4)) ∧ (((M 0 (x3 + 4)) = 0 → cl 0 yX11_way [Rv 1, Iv (M 0 (x3 + 1)), Iv (M 0 (x3 + 2)), Iv (M 0 (x3 + 3)), Iv 0] M (QI (fun z298 M298 => (x3 + 1 < M298 (-2) 0 ∧ (x3 + 2 < M298 (-2) 0 ∧ (x3 + 3 < M298 (-2) 0 ∧ (x3 + 4 < M298 (-2) 0 ∧ (inr (M298 0 (x3 + 4)) ∧ (((M298 0 (x3 + 4)) = 0 → cl 0 yX12_way [Rv 88, Iv (M298 0 (x3 + 1)), Iv (M298 0 (x3 + 2)), Iv (M298 0 (x3 + 3)), Iv 0] M298 (QI (fun z305 M305 => ((z298 = z305 ∨ (inr z298 ∧ inr z305)) ∧ ((z298 = z305 → wp 0 yL_law 18 [some (Rv 0), some (Rv 1), some (Rv 88), some (Iv (x3 + 6))] [] M305 Q) ∧ (z298 ≠ z305 → Q (Iv 0) M305)))))) ∧ ((M298 0 (x3 + 4)) ≠ 0 → cl 0 yX12_way [Rv 88, Iv (M298 0 (x3 + 1)), Iv (M298 0 (x3 + 2)), Iv (M298 0 (x3 + 3)), Iv 1] M298 (QI (fun z308 M308 => ((z298 = z308 ∨ (inr z298 ∧ inr z308)) ∧ ((z298 = z308 → wp 0 yL_law 18 [some (Rv 0), some (Rv 1), some (Rv 88), some (Iv (x3 + 6))] [] M308 Q) ∧ (z298 ≠ z308 → Q (Iv 0) M308))))))))))))))) ∧ ((M 0 (x3 + 4)) ≠ 0 → cl 0 yX11_way [Rv 1, Iv (M 0 (x3 + 1)), Iv (M 0 (x3 + 2)), Iv (M 0 (x3 + 3)), Iv 1] M (QI (fun z311 M311 => (x3 + 1 < M311 (-2) 0 ∧ (x3 + 2 < M311 (-2) 0 ∧ (x3 + 3 < M311 (-2) 0 ∧ (x3 + 4 < M311 (-2) 0 ∧ (inr (M311 0 (x3 + 4)) ∧ (((M311 0 (x3 + 4)) = 0 → cl 0 yX12_way [Rv 88, Iv (M311 0 (x3 + 1)), Iv (M311 0 (x3 + 2)), Iv (M311 0 (x3 + 3)), Iv 0] M311 (QI (fun z318 M318 => ((z311 = z318 ∨ (inr z311 ∧ inr z318)) ∧ ((z311 = z318 → wp 0 yL_law 18 [some (Rv 0), some (Rv 1), some (Rv 88), some (Iv (x3 + 6))] [] M318 Q) ∧ (z311 ≠ z318 → Q (Iv 0) M318)))))) ∧ ((M311 0 (x3 + 4)) ≠ 0 → cl 0 yX12_way [Rv 88, Iv (M311 0 (x3 + 1)), Iv (M311 0 (x3 + 2)), Iv (M311 0 (x3 + 3)), Iv 1] M311 (QI (fun z321 M321 => ((z311 = z321 ∨ (inr z311 ∧ inr z321)) ∧ ((z311 = z321 → wp 0 yL_law 18 [some (Rv 0), some (Rv 1), some (Rv 88), some (Iv (x3 + 6))] [] M321 Q) ∧ (z311 ≠ z321 → Q (Iv 0) M321))))))))))))))))))))))))))))) ∧ (((M 0 x3) % 2 ^ 6) = 23 → 0 ≤ x3 + 1 ∧ (x3 + 1 < M (-2) 0 ∧ (inr (x3 + 1) ∧ (0 ≤ x3 + 2 ∧ (x3 + 2 < M (-2) 0 ∧ (inr (x3 + 2) ∧ (0 ≤ x3 + 3 ∧ (x3 + 3 < M (-2) 0 ∧ (inr (x3 + 3) ∧ (inr (M 0 (x3 + 3)) ∧ (((M 0 (x3 + 3)) = 0 → cl 0 yX11_places [Rv 1, Iv (M 0 (x3 + 1)), Iv (M 0 (x3 + 2)), Iv 0] M (QI (fun z335 M335 => (x3 + 1 < M335 (-2) 0 ∧ (x3 + 2 < M335 (-2) 0 ∧ (x3 + 3 < M335 (-2) 0 ∧ (inr (M335 0 (x3 + 3)) ∧ (((M335 0 (x3 + 3)) = 0 → cl 0 yX12_places [Rv 88, Iv (M335 0 (x3 + 1)), Iv (M335 0 (x3 + 2)), Iv 0] M335 (QI (fun z341 M341 => ((z335 = z341 ∨ (inr z335 ∧ inr z341)) ∧ ((z335 = z341 → wp 0 yL_law 18 [some (Rv 0), some (Rv 1), some (Rv 88), some (Iv (x3 + 6))] [] M341 Q) ∧ (z335 ≠ z341 → Q (Iv 0) M341)))))) ∧ ((M335 0 (x3 + 3)) ≠ 0 → cl 0 yX12_places [Rv 88, Iv (M335 0 (x3 + 1)), Iv (M335 0 (x3 + 2)), Iv 1] M335 (QI (fun z344 M344 => ((z335 = z344 ∨ (inr z335 ∧ inr z344)) ∧ ((z335 = z344 → wp 0 yL_law 18 [some (Rv 0), some (Rv 1), some (Rv 88), some (Iv (x3 + 6))] [] M344 Q) ∧ (z335 ≠ z344 → Q (Iv 0) M344)))))))))))))) ∧ ((M 0 (x3 + 3)) ≠ 0 → cl 0 yX11_places [Rv 1, Iv (M 0 (x3 + 1)), Iv (M 0 (x3 + 2)), Iv 1] M (QI (fun z347 M347 => (x3 + 1 < M347 (-2) 0 ∧ (x3 + 2 < M347 (-2) 0 ∧ (x3 + 3 < M347 (-2) 0 ∧ (inr (M347 0 (x3 + 3)) ∧ (((M347 0 (x3 + 3)) = 0 → cl 0 yX12_places [Rv 88, Iv (M347 0 (x3 + 1)), Iv (M347 0 (x3 + 2)), Iv 0] M347 (QI (fun z353 M353 => ((z347 = z353 ∨ (inr z347 ∧ inr z353)) ∧ ((z347 = z353 → wp 0 yL_law 18 [some (Rv 0), some (Rv 1), some (Rv 88), some (Iv (x3 + 6))] [] M353 Q) ∧ (z347 ≠ z353 → Q (Iv 0) M353)))))) ∧ ((M347 0 (x3 + 3)) ≠ 0 → cl 0 yX12_places [Rv 88, Iv (M347 0 (x3 + 1)), Iv (M347 0 (x3 + 2)), Iv 1] M347 (QI (fun z356 M356 => ((z347 = z356 ∨ (inr z347 ∧ inr z356)) ∧ ((z347 = z356 → wp 0 yL_law 18 [some (Rv 0), some (Rv 1), some (Rv 88), some (Iv (x3 + 6))] [] M356 Q) ∧ (z347 ≠ z356 → Q (Iv 0) M356))))))))))))))))))))))))) ∧ (((M 0 x3) % 2 ^ 6) = 24 → 0 ≤ x3 + 1 ∧ (x3 + 1 < M (-2) 0 ∧ (inr (x3 + 1) ∧ (0 ≤ x3 + 2 ∧ (x3 + 2 < M (-2) 0 ∧ (inr (x3 + 2) ∧ (0 ≤ x3 + 3 ∧ (x3 + 3 < M (-2) 0 ∧ (inr (x3 + 3) ∧ (cl 0 yX11_judge [Rv 1, Iv (M 0 (x3 + 1)), Iv (M 0 (x3 + 2)), Iv (M 0 (x3 + 3))] M (QI (fun z368 M368 => (x3 + 1 < M368 (-2) 0 ∧ (x3 + 2 < M368 (-2) 0 ∧ (x3 + 3 < M368 (-2) 0 ∧ (cl 0 yX12_judge [Rv 88, Iv (M368 0 (x3 + 1)), Iv (M368 0 (x3 + 2)), Iv (M368 0 (x3 + 3))] M368 (QI (fun z372 M372 => ((z368 = z372 ∨ (inr z368 ∧ inr z372)) ∧ ((z368 = z372 → wp 0 yL_law 18 [some (Rv 0), some (Rv 1), some (Rv 88), some (Iv (x3 + 6))] [] M372 Q) ∧ (z368 ≠ z372 → Q (Iv 0) M372))))))))))))))))))))) ∧ (((M 0 x3) % 2 ^ 6) = 25 → 0 ≤ x3 + 1 ∧ (x3 + 1 < M (-2) 0 ∧ (inr (x3 + 1) ∧ (0 ≤ x3 + 2 ∧ (x3 + 2 < M (-2) 0 ∧ (inr (x3 + 2) ∧ (cl 0 yX11_bar [Rv 1, Iv (M 0 (x3 + 1)), Iv (M 0 (x3 + 2))] M (QI (fun z381 M381 => (x3 + 1 < M381 (-2) 0 ∧ (x3 + 2 < M381 (-2) 0 ∧ (cl 0 yX12_bar [Rv 88, Iv (M381 0 (x3 + 1)), Iv (M381 0 (x3 + 2))] M381 (QI (fun z384 M384 => ((z381 = z384 ∨ (inr z381 ∧ inr z384)) ∧ ((z381 = z384 → wp 0 yL_law 18 [some (Rv 0), some (Rv 1), some (Rv 88), some (Iv (x3 + 6))] [] M384 Q) ∧ (z381 ≠ z384 → Q (Iv 0) M384))))))))))))))))) ∧ (((M 0 x3) % 2 ^ 6) = 26 → 0 ≤ x3 + 1 ∧ (x3 + 1 < M (-2) 0 ∧ (inr (x3 + 1) ∧ (0 ≤ x3 + 2 ∧ (x3 + 2 < M (-2) 0 ∧ (inr (x3 + 2) ∧ (cl 0 yX11_inner [Rv 1, Iv (M 0 (x3 + 1)), Iv (M 0 (x3 + 2))] M (QI (fun z393 M393 => (x3 + 1 < M393 (-2) 0 ∧ (x3 + 2 < M393 (-2) 0 ∧ (cl 0 yX12_inner [Rv 88, Iv (M393 0 (x3 + 1)), Iv (M393 0 (x3 + 2))] M393 (QI (fun z396 M396 => ((z393 = z396 ∨ (inr z393 ∧ inr z396)) ∧ ((z393 = z396 → wp 0 yL_law 18 [some (Rv 0), some (Rv 1), some (Rv 88), some (Iv (x3 + 6))] [] M396 Q) ∧ (z393 ≠ z396 → Q (Iv 0) M396))))))))))))))))) ∧ (((M 0 x3) % 2 ^ 6) = 27 → 0 ≤ x3 + 1 ∧ (x3 + 1 < M (-2) 0 ∧ (inr (x3 + 1) ∧ (0 ≤ x3 + 2 ∧ (x3 + 2 < M (-2) 0 ∧ (inr (x3 + 2) ∧ (cl 0 yX11_rank [Rv 1, Iv (M 0 (x3 + 1)), Iv (M 0 (x3 + 2))] M (QI (fun z405 M405 => (x3 + 1 < M405 (-2) 0 ∧ (x3 + 2 < M405 (-2) 0 ∧ (cl 0 yX12_rank [Rv 88, Iv (M405 0 (x3 + 1)), Iv (M405 0 (x3 + 2))] M405 (QI (fun z408 M408 => ((z405 = z408 ∨ (inr z405 ∧ inr z408)) ∧ ((z405 = z408 → wp 0 yL_law 18 [some (Rv 0), some (Rv 1), some (Rv 88), some (Iv (x3 + 6))] [] M408 Q) ∧ (z405 ≠ z408 → Q (Iv 0) M408))))))))))))))))) ∧ (((M 0 x3) % 2 ^ 6) = 28 → 0 ≤ x3 + 1 ∧ (x3 + 1 < M (-2) 0 ∧ (inr (x3 + 1) ∧ (0 ≤ x3 + 2 ∧ (x3 + 2 < M (-2) 0 ∧ (inr (x3 + 2) ∧ (0 ≤ x3 + 3 ∧ (x3 + 3 < M (-2) 0 ∧ (inr (x3 + 3) ∧ (0 ≤ x3 + 4 ∧ (x3 + 4 < M (-2) 0 ∧ (inr (x3 + 4) ∧ (cl 0 yX11_byRank [Rv 1, Iv (M 0 (x3 + 1)), Iv (M 0 (x3 + 2)), Iv (M 0 (x3 + 3)), Iv (M 0 (x3 + 4))] M (QI (fun z423 M423 => (x3 + 1 < M423 (-2) 0 ∧ (x3 + 2 < M423 (-2) 0 ∧ (x3 + 3 < M423 (-2) 0 ∧ (x3 + 4 < M423 (-2) 0 ∧ (cl 0 yX12_byRank [Rv 88, Iv (M423 0 (x3 + 1)), Iv (M423 0 (x3 + 2)), Iv (M423 0 (x3 + 3)), Iv (M423 0 (x3 + 4))] M423 (QI (fun z428 M428 => ((z423 = z428 ∨ (inr z423 ∧ inr z428)) ∧ ((z423 = z428 → wp 0 yL_law 18 [some (Rv 0), some (Rv 1), some (Rv 88), some (Iv (x3 + 6))] [] M428 Q) ∧ (z423 ≠ z428 → Q (Iv 0) M428))))))))))))))))))))))))) ∧ (((M 0 x3) % 2 ^ 6) = 29 → 0 ≤ x3 + 1 ∧ (x3 + 1 < M (-2) 0 ∧ (inr (x3 + 1) ∧ (cl 0 yX11_arches [Rv 1, Iv (M 0 (x3 + 1))] M (QI (fun z434 M434 => (x3 + 1 < M434 (-2) 0 ∧ (cl 0 yX12_arches [Rv 88, Iv (M434 0 (x3 + 1))] M434 (QI (fun z436 M436 => ((z434 = z436 ∨ (inr z434 ∧ inr z436)) ∧ ((z434 = z436 → wp 0 yL_law 18 [some (Rv 0), some (Rv 1), some (Rv 88), some (Iv (x3 + 6))] [] M436 Q) ∧ (z434 ≠ z436 → Q (Iv 0) M436))))))))))))) ∧ (((M 0 x3) % 2 ^ 6) = 30 → 0 ≤ x3 + 1 ∧ (x3 + 1 < M (-2) 0 ∧ (inr (x3 + 1) ∧ (0 ≤ x3 + 2 ∧ (x3 + 2 < M (-2) 0 ∧ (inr (x3 + 2) ∧ (cl 0 yX11_absent [Rv 1, Iv (M 0 (x3 + 1)), Iv (M 0 (x3 + 2))] M (QI (fun z445 M445 => (x3 + 1 < M445 (-2) 0 ∧ (x3 + 2 < M445 (-2) 0 ∧ (cl 0 yX12_absent [Rv 88, Iv (M445 0 (x3 + 1)), Iv (M445 0 (x3 + 2))] M445 (QI (fun z448 M448 => ((z445 = z448 ∨ (inr z445 ∧ inr z448)) ∧ ((z445 = z448 → wp 0 yL_law 18 [some (Rv 0), some (Rv 1), some (Rv 88), some (Iv (x3 + 6))] [] M448 Q) ∧ (z445 ≠ z448 → Q (Iv 0) M448))))))))))))))))) ∧ (((M 0 x3) % 2 ^ 6) = 31 → 0 ≤ x3 + 1 ∧ (x3 + 1 < M (-2) 0 ∧ (inr (x3 + 1) ∧ (0 ≤ x3 + 2 ∧ (x3 + 2 < M (-2) 0 ∧ (inr (x3 + 2) ∧ (cl 0 yX11_added [Rv 1, Iv (M 0 (x3 + 1)), Iv (M 0 (x3 + 2))] M (QI (fun z457 M457 => (x3 + 1 < M457 (-2) 0 ∧ (x3 + 2 < M457 (-2) 0 ∧ (cl 0 yX12_added [Rv 88, Iv (M457 0 (x3 + 1)), Iv (M457 0 (x3 + 2))] M457 (QI (fun z460 M460 => ((z457 = z460 ∨ (inr z457 ∧ inr z460)) ∧ ((z457 = z460 → wp 0 yL_law 18 [some (Rv 0), some (Rv 1), some (Rv 88), some (Iv (x3 + 6))] [] M460 Q) ∧ (z457 ≠ z460 → Q (Iv 0) M460))))))))))))))))) ∧ (((M 0 x3) % 2 ^ 6) = 32 → 0 ≤ x3 + 1 ∧ (x3 + 1 < M (-2) 0 ∧ (inr (x3 + 1) ∧ (0 ≤ x3 + 2 ∧ (x3 + 2 < M (-2) 0 ∧ (inr (x3 + 2) ∧ (0 ≤ x3 + 3 ∧ (x3 + 3 < M (-2) 0 ∧ (inr (x3 + 3) ∧ (cl 0 yX11_alike [Rv 1, Iv (M 0 (x3 + 1)), Iv (M 0 (x3 + 2)), Iv (M 0 (x3 + 3))] M (QI (fun z472 M472 => (x3 + 1 < M472 (-2) 0 ∧ (x3 + 2 < M472 (-2) 0 ∧ (x3 + 3 < M472 (-2) 0 ∧ (cl 0 yX12_alike [Rv 88, Iv (M472 0 (x3 + 1)), Iv (M472 0 (x3 + 2)), Iv (M472 0 (x3 + 3))] M472 (QI (fun z476 M476 => ((z472 = z476 ∨ (inr z472 ∧ inr z476)) ∧ ((z472 = z476 → wp 0 yL_law 18 [some (Rv 0), some (Rv 1), some (Rv 88), some (Iv (x3 + 6))] [] M476 Q) ∧ (z472 ≠ z476 → Q (Iv 0) M476))))))))))))))))))))) ∧ (((M 0 x3) % 2 ^ 6) = 33 → 0 ≤ x3 + 1 ∧ (x3 + 1 < M (-2) 0 ∧ (inr (x3 + 1) ∧ (0 ≤ x3 + 2 ∧ (x3 + 2 < M (-2) 0 ∧ (inr (x3 + 2) ∧ (0 ≤ x3 + 3 ∧ (x3 + 3 < M (-2) 0 ∧ (inr (x3 + 3) ∧ (cl 0 yX11_parting [Rv 1, Iv (M 0 (x3 + 1)), Iv (M 0 (x3 + 2)), Iv (M 0 (x3 + 3))] M (QI (fun z488 M488 => (x3 + 1 < M488 (-2) 0 ∧ (x3 + 2 < M488 (-2) 0 ∧ (x3 + 3 < M488 (-2) 0 ∧ (cl 0 yX12_parting [Rv 88, Iv (M488 0 (x3 + 1)), Iv (M488 0 (x3 + 2)), Iv (M488 0 (x3 + 3))] M488 (QI (fun z492 M492 => ((z488 = z492 ∨ (inr z488 ∧ inr z492)) ∧ ((z488 = z492 → wp 0 yL_law 18 [some (Rv 0), some (Rv 1), some (Rv 88), some (Iv (x3 + 6))] [] M492 Q) ∧ (z488 ≠ z492 → Q (Iv 0) M492))))))))))))))))))))) ∧ (((M 0 x3) % 2 ^ 6) = 34 → 0 ≤ x3 + 1 ∧ (x3 + 1 < M (-2) 0 ∧ (inr (x3 + 1) ∧ (0 ≤ x3 + 2 ∧ (x3 + 2 < M (-2) 0 ∧ (inr (x3 + 2) ∧ (cl 0 yX11_common [Rv 1, Iv (M 0 (x3 + 1)), Iv (M 0 (x3 + 2))] M (QI (fun z501 M501 => (x3 + 1 < M501 (-2) 0 ∧ (x3 + 2 < M501 (-2) 0 ∧ (cl 0 yX12_common [Rv 88, Iv (M501 0 (x3 + 1)), Iv (M501 0 (x3 + 2))] M501 (QI (fun z504 M504 => ((z501 = z504 ∨ (inr z501 ∧ inr z504)) ∧ ((z501 = z504 → wp 0 yL_law 18 [some (Rv 0), some (Rv 1), some (Rv 88), some (Iv (x3 + 6))] [] M504 Q) ∧ (z501 ≠ z504 → Q (Iv 0) M504))))))))))))))))) ∧ (((M 0 x3) % 2 ^ 6) = 35 → 0 ≤ x3 + 1 ∧ (x3 + 1 < M (-2) 0 ∧ (inr (x3 + 1) ∧ (0 ≤ x3 + 2 ∧ (x3 + 2 < M (-2) 0 ∧ (inr (x3 + 2) ∧ (cl 0 yX11_cover [Rv 1, Iv (M 0 (x3 + 1)), Iv (M 0 (x3 + 2))] M (QI (fun z513 M513 => (x3 + 1 < M513 (-2) 0 ∧ (x3 + 2 < M513 (-2) 0 ∧ (cl 0 yX12_cover [Rv 88, Iv (M513 0 (x3 + 1)), Iv (M513 0 (x3 + 2))] M513 (QI (fun z516 M516 => ((z513 = z516 ∨ (inr z513 ∧ inr z516)) ∧ ((z513 = z516 → wp 0 yL_law 18 [some (Rv 0), some (Rv 1), some (Rv 88), some (Iv (x3 + 6))] [] M516 Q) ∧ (z513 ≠ z516 → Q (Iv 0) M516))))))))))))))))) ∧ (((M 0 x3) % 2 ^ 6) = 36 → 0 ≤ x3 + 1 ∧ (x3 + 1 < M (-2) 0 ∧ (inr (x3 + 1) ∧ (0 ≤ x3 + 2 ∧ (x3 + 2 < M (-2) 0 ∧ (inr (x3 + 2) ∧ (cl 0 yX11_both [Rv 1, Iv (M 0 (x3 + 1)), Iv (M 0 (x3 + 2))] M (QI (fun z525 M525 => (x3 + 1 < M525 (-2) 0 ∧ (x3 + 2 < M525 (-2) 0 ∧ (cl 0 yX12_both [Rv 88, Iv (M525 0 (x3 + 1)), Iv (M525 0 (x3 + 2))] M525 (QI (fun z528 M528 => ((z525 = z528 ∨ (inr z525 ∧ inr z528)) ∧ ((z525 = z528 → wp 0 yL_law 18 [some (Rv 0), some (Rv 1), some (Rv 88), some (Iv (x3 + 6))] [] M528 Q) ∧ (z525 ≠ z528 → Q (Iv 0) M528))))))))))))))))) ∧ (((M 0 x3) % 2 ^ 6) = 37 → 0 ≤ x3 + 1 ∧ (x3 + 1 < M (-2) 0 ∧ (inr (x3 + 1) ∧ (0 ≤ x3 + 2 ∧ (x3 + 2 < M (-2) 0 ∧ (inr (x3 + 2) ∧ (0 ≤ x3 + 3 ∧ (x3 + 3 < M (-2) 0 ∧ (inr (x3 + 3) ∧ (cl 0 yX11_twins [Rv 1, Iv (M 0 (x3 + 1)), Iv (M 0 (x3 + 2)), Iv (M 0 (x3 + 3))] M (QI (fun z540 M540 => (x3 + 1 < M540 (-2) 0 ∧ (x3 + 2 < M540 (-2) 0 ∧ (x3 + 3 < M540 (-2) 0 ∧ (cl 0 yX12_twins [Rv 88, Iv (M540 0 (x3 + 1)), Iv (M540 0 (x3 + 2)), Iv (M540 0 (x3 + 3))] M540 (QI (fun z544 M544 => ((z540 = z544 ∨ (inr z540 ∧ inr z544)) ∧ ((z540 = z544 → wp 0 yL_law 18 [some (Rv 0), some (Rv 1), some (Rv 88), some (Iv (x3 + 6))] [] M544 Q) ∧ (z540 ≠ z544 → Q (Iv 0) M544))))))))))))))))))))) ∧ (((M 0 x3) % 2 ^ 6) = 38 → 0 ≤ x3 + 1 ∧ (x3 + 1 < M (-2) 0 ∧ (inr (x3 + 1) ∧ (0 ≤ x3 + 2 ∧ (x3 + 2 < M (-2) 0 ∧ (inr (x3 + 2) ∧ (cl 0 yX11_odds [Rv 1, Iv (M 0 (x3 + 1)), Iv (M 0 (x3 + 2))] M (QI (fun z553 M553 => (x3 + 1 < M553 (-2) 0 ∧ (x3 + 2 < M553 (-2) 0 ∧ (cl 0 yX12_odds [Rv 88, Iv (M553 0 (x3 + 1)), Iv (M553 0 (x3 + 2))] M553 (QI (fun z556 M556 => ((z553 = z556 ∨ (inr z553 ∧ inr z556)) ∧ ((z553 = z556 → wp 0 yL_law 18 [some (Rv 0), some (Rv 1), some (Rv 88), some (Iv (x3 + 6))] [] M556 Q) ∧ (z553 ≠ z556 → Q (Iv 0) M556))))))))))))))))) ∧ (((M 0 x3) % 2 ^ 6) = 39 → 0 ≤ x3 + 1 ∧ (x3 + 1 < M (-2) 0 ∧ (inr (x3 + 1) ∧ (0 ≤ x3 + 2 ∧ (x3 + 2 < M (-2) 0 ∧ (inr (x3 + 2) ∧ (cl 0 yX11_byChance [Rv 1, Iv (M 0 (x3 + 1)), Iv (M 0 (x3 + 2))] M (QI (fun z565 M565 => (x3 + 1 < M565 (-2) 0 ∧ (x3 + 2 < M565 (-2) 0 ∧ (cl 0 yX12_byChance [Rv 88, Iv (M565 0 (x3 + 1)), Iv (M565 0 (x3 + 2))] M565 (QI (fun z568 M568 => ((z565 = z568 ∨ (inr z565 ∧ inr z568)) ∧ ((z565 = z568 → wp 0 yL_law 18 [some (Rv 0), some (Rv 1), some (Rv 88), some (Iv (x3 + 6))] [] M568 Q) ∧ (z565 ≠ z568 → Q (Iv 0) M568))))))))))))))))) ∧ (((M 0 x3) % 2 ^ 6) = 40 → cl 0 yX11_asked [Rv 1] M (QI (fun z571 M571 => (cl 0 yX12_asked [Rv 88] M571 (QI (fun z572 M572 => ((z571 = z572 ∨ (inr z571 ∧ inr z572)) ∧ ((z571 = z572 → wp 0 yL_law 18 [some (Rv 0), some (Rv 1), some (Rv 88), some (Iv (x3 + 6))] [] M572 Q) ∧ (z571 ≠ z572 → Q (Iv 0) M572))))))))) ∧ (((M 0 x3) % 2 ^ 6) = 41 → cl 0 yX11_many [Rv 1] M (QJ (fun z575 M575 => (cl 0 yX12_many [Rv 88] M575 (QJ (fun z576 M576 => ((z575 = z576 ∨ (inL z575 ∧ inL z576)) ∧ ((z575 = z576 → wp 0 yL_law 18 [some (Rv 0), some (Rv 1), some (Rv 88), some (Iv (x3 + 6))] [] M576 Q) ∧ (z575 ≠ z576 → Q (Iv 0) M576))))))))) ∧ (((M 0 x3) % 2 ^ 6) = 42 → cl 0 yX11_upper [Rv 1] M (QJ (fun z579 M579 => (cl 0 yX12_upper [Rv 88] M579 (QJ (fun z580 M580 => ((z579 = z580 ∨ (inL z579 ∧ inL z580)) ∧ ((z579 = z580 → wp 0 yL_law 18 [some (Rv 0), some (Rv 1), some (Rv 88), some (Iv (x3 + 6))] [] M580 Q) ∧ (z579 ≠ z580 → Q (Iv 0) M580))))))))) ∧ (((M 0 x3) % 2 ^ 6) = 43 → cl 0 yX11_lower [Rv 1] M (QJ (fun z583 M583 => (cl 0 yX12_lower [Rv 88] M583 (QJ (fun z584 M584 => ((z583 = z584 ∨ (inL z583 ∧ inL z584)) ∧ ((z583 = z584 → wp 0 yL_law 18 [some (Rv 0), some (Rv 1), some (Rv 88), some (Iv (x3 + 6))] [] M584 Q) ∧ (z583 ≠ z584 → Q (Iv 0) M584))))))))) ∧ (((M 0 x3) % 2 ^ 6) = 44 → 0 ≤ x3 + 1 ∧ (x3 + 1 < M (-2) 0 ∧ (inr (x3 + 1) ∧ (cl 0 yX11_count [Rv 1, Iv (M 0 (x3 + 1))] M (QI (fun z590 M590 => (x3 + 1 < M590 (-2) 0 ∧ (cl 0 yX12_count [Rv 88, Iv (M590 0 (x3 + 1))] M590 (QI (fun z592 M592 => ((z590 = z592 ∨ (inr z590 ∧ inr z592)) ∧ ((z590 = z592 → wp 0 yL_law 18 [some (Rv 0), some (Rv 1), some (Rv 88), some (Iv (x3 + 6))] [] M592 Q) ∧ (z590 ≠ z592 → Q (Iv 0) M592))))))))))))) ∧ (((M 0 x3) % 2 ^ 6) = 45 → cl 0 yX11_finding [Rv 1] M (QI (fun z595 M595 => (cl 0 yX12_finding [Rv 88] M595 (QI (fun z596 M596 => ((z595 = z596 ∨ (inr z595 ∧ inr z596)) ∧ ((z595 = z596 → wp 0 yL_law 18 [some (Rv 0), some (Rv 1), some (Rv 88), some (Iv (x3 + 6))] [] M596 Q) ∧ (z595 ≠ z596 → Q (Iv 0) M596))))))))) ∧ (((M 0 x3) % 2 ^ 6) = 46 → 0 ≤ x3 + 1 ∧ (x3 + 1 < M (-2) 0 ∧ (inr (x3 + 1) ∧ (cl 0 yX11_findings [Rv 1, Iv (M 0 (x3 + 1))] M (QI (fun z602 M602 => (x3 + 1 < M602 (-2) 0 ∧ (cl 0 yX12_findings [Rv 88, Iv (M602 0 (x3 + 1))] M602 (QI (fun z604 M604 => ((z602 = z604 ∨ (inr z602 ∧ inr z604)) ∧ ((z602 = z604 → wp 0 yL_law 18 [some (Rv 0), some (Rv 1), some (Rv 88), some (Iv (x3 + 6))] [] M604 Q) ∧ (z602 ≠ z604 → Q (Iv 0) M604))))))))))))) ∧ (((M 0 x3) % 2 ^ 6) = 47 → cl 0 yX11_digest [Rv 1] M (QJ (fun z607 M607 => (cl 0 yX12_digest [Rv 88] M607 (QJ (fun z608 M608 => ((z607 = z608 ∨ (inL z607 ∧ inL z608)) ∧ ((z607 = z608 → wp 0 yL_law 18 [some (Rv 0), some (Rv 1), some (Rv 88), some (Iv (x3 + 6))] [] M608 Q) ∧ (z607 ≠ z608 → Q (Iv 0) M608)))))))))))))))) : wp 0 yL_law 18 [some (Rv 0), some (Rv 1), some (Rv 88), some (Iv x3)] [] M Q := by
  refine wp_iload_n dL_law_18 rfl ?_
  refine wp_aload_n dL_law_19 rfl (by decide) ?_
  refine wp_slen dL_law_20 ?_
  refine wp_bipush dL_law_21 (by decide) ?_
  refine wp_isub dL_law_23 ?_
  obtain ⟨o1, h⟩ := h
  obtain ⟨o2, h⟩ := h
  refine wp_icmp_gt (tgt := 1836) dL_law_24 (by decide) o1 o2 (fun q3 => ?_) (fun q3 => ?_)
  · have h := h.1 q3
    refine wp_iconst dL_law_1836 ?_
    exact wp_zret dL_law_1837 rfl (Or.inr ⟨rfl, rfl, rfl, by decide⟩) rfl (by decide) h
  · have h := h.2 q3
    refine wp_aload_n dL_law_27 rfl (by decide) ?_
    refine wp_iload_n dL_law_28 rfl ?_
    obtain ⟨o4, h⟩ := h
    obtain ⟨o5, h⟩ := h
    refine wp_sld dL_law_29 o4 o5 o1 ?_
    refine wp_bipush dL_law_30 (by decide) ?_
    refine wp_iand ((M 0 x3) % 2 ^ 6) dL_law_32 (bits_mask _ 6 (by decide)) ?_
    obtain ⟨o6, h⟩ := h
    by_cases q7 : ((M 0 x3) % 2 ^ 6) < 0 ∨ 47 < ((M 0 x3) % 2 ^ 6)
    · refine wp_tableOut (tgt := 1830) dL_law_33 o6 q7 (by decide) ?_
      have h := h.1 q7
      refine wp_iinc (L2 := [some (Rv 0), some (Rv 1), some (Rv 88), some (Iv (x3 + 6))]) dL_law_1830 rfl (Nat.le_of_ble_eq_true rfl) (Nat.le_of_ble_eq_true rfl) rfl ?_
      refine wp_goto (tgt := 18) dL_law_1833 (by decide) ?_
      exact h
    · have q7 : ((M 0 x3) % 2 ^ 6) = 0 ∨ ((M 0 x3) % 2 ^ 6) = 1 ∨ ((M 0 x3) % 2 ^ 6) = 2 ∨ ((M 0 x3) % 2 ^ 6) = 3 ∨ ((M 0 x3) % 2 ^ 6) = 4 ∨ ((M 0 x3) % 2 ^ 6) = 5 ∨ ((M 0 x3) % 2 ^ 6) = 6 ∨ ((M 0 x3) % 2 ^ 6) = 7 ∨ ((M 0 x3) % 2 ^ 6) = 8 ∨ ((M 0 x3) % 2 ^ 6) = 9 ∨ ((M 0 x3) % 2 ^ 6) = 10 ∨ ((M 0 x3) % 2 ^ 6) = 11 ∨ ((M 0 x3) % 2 ^ 6) = 12 ∨ ((M 0 x3) % 2 ^ 6) = 13 ∨ ((M 0 x3) % 2 ^ 6) = 14 ∨ ((M 0 x3) % 2 ^ 6) = 15 ∨ ((M 0 x3) % 2 ^ 6) = 16 ∨ ((M 0 x3) % 2 ^ 6) = 17 ∨ ((M 0 x3) % 2 ^ 6) = 18 ∨ ((M 0 x3) % 2 ^ 6) = 19 ∨ ((M 0 x3) % 2 ^ 6) = 20 ∨ ((M 0 x3) % 2 ^ 6) = 21 ∨ ((M 0 x3) % 2 ^ 6) = 22 ∨ ((M 0 x3) % 2 ^ 6) = 23 ∨ ((M 0 x3) % 2 ^ 6) = 24 ∨ ((M 0 x3) % 2 ^ 6) = 25 ∨ ((M 0 x3) % 2 ^ 6) = 26 ∨ ((M 0 x3) % 2 ^ 6) = 27 ∨ ((M 0 x3) % 2 ^ 6) = 28 ∨ ((M 0 x3) % 2 ^ 6) = 29 ∨ ((M 0 x3) % 2 ^ 6) = 30 ∨ ((M 0 x3) % 2 ^ 6) = 31 ∨ ((M 0 x3) % 2 ^ 6) = 32 ∨ ((M 0 x3) % 2 ^ 6) = 33 ∨ ((M 0 x3) % 2 ^ 6) = 34 ∨ ((M 0 x3) % 2 ^ 6) = 35 ∨ ((M 0 x3) % 2 ^ 6) = 36 ∨ ((M 0 x3) % 2 ^ 6) = 37 ∨ ((M 0 x3) % 2 ^ 6) = 38 ∨ ((M 0 x3) % 2 ^ 6) = 39 ∨ ((M 0 x3) % 2 ^ 6) = 40 ∨ ((M 0 x3) % 2 ^ 6) = 41 ∨ ((M 0 x3) % 2 ^ 6) = 42 ∨ ((M 0 x3) % 2 ^ 6) = 43 ∨ ((M 0 x3) % 2 ^ 6) = 44 ∨ ((M 0 x3) % 2 ^ 6) = 45 ∨ ((M 0 x3) % 2 ^ 6) = 46 ∨ ((M 0 x3) % 2 ^ 6) = 47 := by omega
      have h := h.2
      rcases q7 with q7 | q7 | q7 | q7 | q7 | q7 | q7 | q7 | q7 | q7 | q7 | q7 | q7 | q7 | q7 | q7 | q7 | q7 | q7 | q7 | q7 | q7 | q7 | q7 | q7 | q7 | q7 | q7 | q7 | q7 | q7 | q7 | q7 | q7 | q7 | q7 | q7 | q7 | q7 | q7 | q7 | q7 | q7 | q7 | q7 | q7 | q7 | q7
      · refine wp_tableIn (off := 207) (tgt := 240) dL_law_33 o6 (by omega) (by omega) (by rw [q7]; rfl) (by decide) ?_
        have h := h.1 q7
        refine wp_aload_n dL_law_240 rfl (by decide) ?_
        refine wp_aload_n dL_law_241 rfl (by decide) ?_
        refine wp_iload_n dL_law_242 rfl ?_
        refine wp_iconst dL_law_243 ?_
        refine wp_iadd dL_law_244 ?_
        obtain ⟨o8, h⟩ := h
        obtain ⟨o9, h⟩ := h
        obtain ⟨o10, h⟩ := h
        refine wp_sld dL_law_245 o8 o9 o10 ?_
        refine wp_aload_n dL_law_246 rfl (by decide) ?_
        refine wp_iload_n dL_law_247 rfl ?_
        refine wp_iconst dL_law_248 ?_
        refine wp_iadd dL_law_249 ?_
        obtain ⟨o11, h⟩ := h
        obtain ⟨o12, h⟩ := h
        obtain ⟨o13, h⟩ := h
        refine wp_sld dL_law_250 o11 o12 o13 ?_
        refine wp_callV (e1 := 0) (as := [Iv (M 0 (x3 + 1)), Iv (M 0 (x3 + 2))]) (S := []) dL_law_251 (cs_L_13 rfl) kd_1 rfl rfl (Nat.le_of_ble_eq_true rfl) (Nat.le_of_ble_eq_true rfl) h (fun v14 M14 q14 r14 => ?_)
        obtain ⟨z14, rfl⟩ := retV_i r14 rfl
        have h := q14
        refine wp_aload_n dL_law_254 rfl (by decide) ?_
        refine wp_aload_n dL_law_255 rfl (by decide) ?_
        refine wp_iload_n dL_law_256 rfl ?_
        refine wp_iconst dL_law_257 ?_
        refine wp_iadd dL_law_258 ?_
        obtain ⟨o15, h⟩ := h
        refine wp_sld dL_law_259 o8 o15 o10 ?_
        refine wp_aload_n dL_law_260 rfl (by decide) ?_
        refine wp_iload_n dL_law_261 rfl ?_
        refine wp_iconst dL_law_262 ?_
        refine wp_iadd dL_law_263 ?_
        obtain ⟨o16, h⟩ := h
        refine wp_sld dL_law_264 o11 o16 o13 ?_
        refine wp_callV (e1 := 0) (as := [Iv (M14 0 (x3 + 1)), Iv (M14 0 (x3 + 2))]) (S := [Iv z14]) dL_law_265 (cs_L_17 rfl) kd_88 rfl rfl (Nat.le_of_ble_eq_true rfl) (Nat.le_of_ble_eq_true rfl) h (fun v17 M17 q17 r17 => ?_)
        obtain ⟨z17, rfl⟩ := retV_i r17 rfl
        have h := q17
        obtain ⟨o18, h⟩ := h
        refine wp_icmp_eq (tgt := 1830) dL_law_268 (by decide) o18 (fun q19 => ?_) (fun q19 => ?_)
        · have h := h.1 q19
          refine wp_iinc (L2 := [some (Rv 0), some (Rv 1), some (Rv 88), some (Iv (x3 + 6))]) dL_law_1830 rfl (Nat.le_of_ble_eq_true rfl) (Nat.le_of_ble_eq_true rfl) rfl ?_
          refine wp_goto (tgt := 18) dL_law_1833 (by decide) ?_
          exact h
        · have h := h.2 q19
          refine wp_iconst dL_law_271 ?_
          exact wp_zret dL_law_272 rfl (Or.inr ⟨rfl, rfl, rfl, by decide⟩) rfl (by decide) h
      · refine wp_tableIn (off := 240) (tgt := 273) dL_law_33 o6 (by omega) (by omega) (by rw [q7]; rfl) (by decide) ?_
        have h := h.2.1 q7
        refine wp_aload_n dL_law_273 rfl (by decide) ?_
        refine wp_aload_n dL_law_274 rfl (by decide) ?_
        refine wp_iload_n dL_law_275 rfl ?_
        refine wp_iconst dL_law_276 ?_
        refine wp_iadd dL_law_277 ?_
        obtain ⟨o20, h⟩ := h
        obtain ⟨o21, h⟩ := h
        obtain ⟨o22, h⟩ := h
        refine wp_sld dL_law_278 o20 o21 o22 ?_
        refine wp_aload_n dL_law_279 rfl (by decide) ?_
        refine wp_iload_n dL_law_280 rfl ?_
        refine wp_iconst dL_law_281 ?_
        refine wp_iadd dL_law_282 ?_
        obtain ⟨o23, h⟩ := h
        obtain ⟨o24, h⟩ := h
        obtain ⟨o25, h⟩ := h
        refine wp_sld dL_law_283 o23 o24 o25 ?_
        refine wp_aload_n dL_law_284 rfl (by decide) ?_
        refine wp_iload_n dL_law_285 rfl ?_
        refine wp_iconst dL_law_286 ?_
        refine wp_iadd dL_law_287 ?_
        obtain ⟨o26, h⟩ := h
        obtain ⟨o27, h⟩ := h
        obtain ⟨o28, h⟩ := h
        refine wp_sld dL_law_288 o26 o27 o28 ?_
        refine wp_callV (e1 := 0) (as := [Iv (M 0 (x3 + 1)), Iv (M 0 (x3 + 2)), Iv (M 0 (x3 + 3))]) (S := []) dL_law_289 (cs_L_18 rfl) kd_1 rfl rfl (Nat.le_of_ble_eq_true rfl) (Nat.le_of_ble_eq_true rfl) h (fun v29 M29 q29 r29 => ?_)
        obtain ⟨z29, rfl⟩ := retV_i r29 rfl
        have h := q29
        refine wp_aload_n dL_law_292 rfl (by decide) ?_
        refine wp_aload_n dL_law_293 rfl (by decide) ?_
        refine wp_iload_n dL_law_294 rfl ?_
        refine wp_iconst dL_law_295 ?_
        refine wp_iadd dL_law_296 ?_
        obtain ⟨o30, h⟩ := h
        refine wp_sld dL_law_297 o20 o30 o22 ?_
        refine wp_aload_n dL_law_298 rfl (by decide) ?_
        refine wp_iload_n dL_law_299 rfl ?_
        refine wp_iconst dL_law_300 ?_
        refine wp_iadd dL_law_301 ?_
        obtain ⟨o31, h⟩ := h
        refine wp_sld dL_law_302 o23 o31 o25 ?_
        refine wp_aload_n dL_law_303 rfl (by decide) ?_
        refine wp_iload_n dL_law_304 rfl ?_
        refine wp_iconst dL_law_305 ?_
        refine wp_iadd dL_law_306 ?_
        obtain ⟨o32, h⟩ := h
        refine wp_sld dL_law_307 o26 o32 o28 ?_
        refine wp_callV (e1 := 0) (as := [Iv (M29 0 (x3 + 1)), Iv (M29 0 (x3 + 2)), Iv (M29 0 (x3 + 3))]) (S := [Iv z29]) dL_law_308 (cs_L_22 rfl) kd_88 rfl rfl (Nat.le_of_ble_eq_true rfl) (Nat.le_of_ble_eq_true rfl) h (fun v33 M33 q33 r33 => ?_)
        obtain ⟨z33, rfl⟩ := retV_i r33 rfl
        have h := q33
        obtain ⟨o34, h⟩ := h
        refine wp_icmp_eq (tgt := 1830) dL_law_311 (by decide) o34 (fun q35 => ?_) (fun q35 => ?_)
        · have h := h.1 q35
          refine wp_iinc (L2 := [some (Rv 0), some (Rv 1), some (Rv 88), some (Iv (x3 + 6))]) dL_law_1830 rfl (Nat.le_of_ble_eq_true rfl) (Nat.le_of_ble_eq_true rfl) rfl ?_
          refine wp_goto (tgt := 18) dL_law_1833 (by decide) ?_
          exact h
        · have h := h.2 q35
          refine wp_iconst dL_law_314 ?_
          exact wp_zret dL_law_315 rfl (Or.inr ⟨rfl, rfl, rfl, by decide⟩) rfl (by decide) h
      · refine wp_tableIn (off := 283) (tgt := 316) dL_law_33 o6 (by omega) (by omega) (by rw [q7]; rfl) (by decide) ?_
        have h := h.2.2.1 q7
        refine wp_aload_n dL_law_316 rfl (by decide) ?_
        refine wp_aload_n dL_law_317 rfl (by decide) ?_
        refine wp_iload_n dL_law_318 rfl ?_
        refine wp_iconst dL_law_319 ?_
        refine wp_iadd dL_law_320 ?_
        obtain ⟨o36, h⟩ := h
        obtain ⟨o37, h⟩ := h
        obtain ⟨o38, h⟩ := h
        refine wp_sld dL_law_321 o36 o37 o38 ?_
        refine wp_aload_n dL_law_322 rfl (by decide) ?_
        refine wp_iload_n dL_law_323 rfl ?_
        refine wp_iconst dL_law_324 ?_
        refine wp_iadd dL_law_325 ?_
        obtain ⟨o39, h⟩ := h
        obtain ⟨o40, h⟩ := h
        obtain ⟨o41, h⟩ := h
        refine wp_sld dL_law_326 o39 o40 o41 ?_
        refine wp_callV (e1 := 0) (as := [Iv (M 0 (x3 + 1)), Iv (M 0 (x3 + 2))]) (S := []) dL_law_327 (cs_L_23 rfl) kd_1 rfl rfl (Nat.le_of_ble_eq_true rfl) (Nat.le_of_ble_eq_true rfl) h (fun v42 M42 q42 r42 => ?_)
        obtain ⟨z42, rfl⟩ := retV_i r42 rfl
        have h := q42
        refine wp_aload_n dL_law_330 rfl (by decide) ?_
        refine wp_aload_n dL_law_331 rfl (by decide) ?_
        refine wp_iload_n dL_law_332 rfl ?_
        refine wp_iconst dL_law_333 ?_
        refine wp_iadd dL_law_334 ?_
        obtain ⟨o43, h⟩ := h
        refine wp_sld dL_law_335 o36 o43 o38 ?_
        refine wp_aload_n dL_law_336 rfl (by decide) ?_
        refine wp_iload_n dL_law_337 rfl ?_
        refine wp_iconst dL_law_338 ?_
        refine wp_iadd dL_law_339 ?_
        obtain ⟨o44, h⟩ := h
        refine wp_sld dL_law_340 o39 o44 o41 ?_
        refine wp_callV (e1 := 0) (as := [Iv (M42 0 (x3 + 1)), Iv (M42 0 (x3 + 2))]) (S := [Iv z42]) dL_law_341 (cs_L_26 rfl) kd_88 rfl rfl (Nat.le_of_ble_eq_true rfl) (Nat.le_of_ble_eq_true rfl) h (fun v45 M45 q45 r45 => ?_)
        obtain ⟨z45, rfl⟩ := retV_i r45 rfl
        have h := q45
        obtain ⟨o46, h⟩ := h
        refine wp_icmp_eq (tgt := 1830) dL_law_344 (by decide) o46 (fun q47 => ?_) (fun q47 => ?_)
        · have h := h.1 q47
          refine wp_iinc (L2 := [some (Rv 0), some (Rv 1), some (Rv 88), some (Iv (x3 + 6))]) dL_law_1830 rfl (Nat.le_of_ble_eq_true rfl) (Nat.le_of_ble_eq_true rfl) rfl ?_
          refine wp_goto (tgt := 18) dL_law_1833 (by decide) ?_
          exact h
        · have h := h.2 q47
          refine wp_iconst dL_law_347 ?_
          exact wp_zret dL_law_348 rfl (Or.inr ⟨rfl, rfl, rfl, by decide⟩) rfl (by decide) h
      · refine wp_tableIn (off := 316) (tgt := 349) dL_law_33 o6 (by omega) (by omega) (by rw [q7]; rfl) (by decide) ?_
        have h := h.2.2.2.1 q7
        refine wp_aload_n dL_law_349 rfl (by decide) ?_
        refine wp_aload_n dL_law_350 rfl (by decide) ?_
        refine wp_iload_n dL_law_351 rfl ?_
        refine wp_iconst dL_law_352 ?_
        refine wp_iadd dL_law_353 ?_
        obtain ⟨o48, h⟩ := h
        obtain ⟨o49, h⟩ := h
        obtain ⟨o50, h⟩ := h
        refine wp_sld dL_law_354 o48 o49 o50 ?_
        refine wp_callV (e1 := 0) (as := [Iv (M 0 (x3 + 1))]) (S := []) dL_law_355 (cs_L_27 rfl) kd_1 rfl rfl (Nat.le_of_ble_eq_true rfl) (Nat.le_of_ble_eq_true rfl) h (fun v51 M51 q51 r51 => ?_)
        obtain ⟨z51, rfl⟩ := retV_i r51 rfl
        have h := q51
        refine wp_aload_n dL_law_358 rfl (by decide) ?_
        refine wp_aload_n dL_law_359 rfl (by decide) ?_
        refine wp_iload_n dL_law_360 rfl ?_
        refine wp_iconst dL_law_361 ?_
        refine wp_iadd dL_law_362 ?_
        obtain ⟨o52, h⟩ := h
        refine wp_sld dL_law_363 o48 o52 o50 ?_
        refine wp_callV (e1 := 0) (as := [Iv (M51 0 (x3 + 1))]) (S := [Iv z51]) dL_law_364 (cs_L_31 rfl) kd_88 rfl rfl (Nat.le_of_ble_eq_true rfl) (Nat.le_of_ble_eq_true rfl) h (fun v53 M53 q53 r53 => ?_)
        obtain ⟨z53, rfl⟩ := retV_i r53 rfl
        have h := q53
        obtain ⟨o54, h⟩ := h
        refine wp_icmp_eq (tgt := 1830) dL_law_367 (by decide) o54 (fun q55 => ?_) (fun q55 => ?_)
        · have h := h.1 q55
          refine wp_iinc (L2 := [some (Rv 0), some (Rv 1), some (Rv 88), some (Iv (x3 + 6))]) dL_law_1830 rfl (Nat.le_of_ble_eq_true rfl) (Nat.le_of_ble_eq_true rfl) rfl ?_
          refine wp_goto (tgt := 18) dL_law_1833 (by decide) ?_
          exact h
        · have h := h.2 q55
          refine wp_iconst dL_law_370 ?_
          exact wp_zret dL_law_371 rfl (Or.inr ⟨rfl, rfl, rfl, by decide⟩) rfl (by decide) h
      · refine wp_tableIn (off := 339) (tgt := 372) dL_law_33 o6 (by omega) (by omega) (by rw [q7]; rfl) (by decide) ?_
        have h := h.2.2.2.2.1 q7
        refine wp_aload_n dL_law_372 rfl (by decide) ?_
        refine wp_aload_n dL_law_373 rfl (by decide) ?_
        refine wp_iload_n dL_law_374 rfl ?_
        refine wp_iconst dL_law_375 ?_
        refine wp_iadd dL_law_376 ?_
        obtain ⟨o56, h⟩ := h
        obtain ⟨o57, h⟩ := h
        obtain ⟨o58, h⟩ := h
        refine wp_sld dL_law_377 o56 o57 o58 ?_
        refine wp_aload_n dL_law_378 rfl (by decide) ?_
        refine wp_iload_n dL_law_379 rfl ?_
        refine wp_iconst dL_law_380 ?_
        refine wp_iadd dL_law_381 ?_
        obtain ⟨o59, h⟩ := h
        obtain ⟨o60, h⟩ := h
        obtain ⟨o61, h⟩ := h
        refine wp_sld dL_law_382 o59 o60 o61 ?_
        refine wp_aload_n dL_law_383 rfl (by decide) ?_
        refine wp_iload_n dL_law_384 rfl ?_
        refine wp_iconst dL_law_385 ?_
        refine wp_iadd dL_law_386 ?_
        obtain ⟨o62, h⟩ := h
        obtain ⟨o63, h⟩ := h
        obtain ⟨o64, h⟩ := h
        refine wp_sld dL_law_387 o62 o63 o64 ?_
        refine wp_aload_n dL_law_388 rfl (by decide) ?_
        refine wp_iload_n dL_law_389 rfl ?_
        refine wp_iconst dL_law_390 ?_
        refine wp_iadd dL_law_391 ?_
        obtain ⟨o65, h⟩ := h
        obtain ⟨o66, h⟩ := h
        obtain ⟨o67, h⟩ := h
        refine wp_sld dL_law_392 o65 o66 o67 ?_
        refine wp_aload_n dL_law_393 rfl (by decide) ?_
        refine wp_iload_n dL_law_394 rfl ?_
        refine wp_iconst dL_law_395 ?_
        refine wp_iadd dL_law_396 ?_
        obtain ⟨o68, h⟩ := h
        obtain ⟨o69, h⟩ := h
        obtain ⟨o70, h⟩ := h
        refine wp_sld dL_law_397 o68 o69 o70 ?_
        refine wp_callV (e1 := 0) (as := [Iv (M 0 (x3 + 1)), Iv (M 0 (x3 + 2)), Iv (M 0 (x3 + 3)), Iv (M 0 (x3 + 4)), Iv (M 0 (x3 + 5))]) (S := []) dL_law_398 (cs_L_32 rfl) kd_1 rfl rfl (Nat.le_of_ble_eq_true rfl) (Nat.le_of_ble_eq_true rfl) h (fun v71 M71 q71 r71 => ?_)
        obtain ⟨z71, rfl⟩ := retV_i r71 rfl
        have h := q71
        refine wp_aload_n dL_law_401 rfl (by decide) ?_
        refine wp_aload_n dL_law_402 rfl (by decide) ?_
        refine wp_iload_n dL_law_403 rfl ?_
        refine wp_iconst dL_law_404 ?_
        refine wp_iadd dL_law_405 ?_
        obtain ⟨o72, h⟩ := h
        refine wp_sld dL_law_406 o56 o72 o58 ?_
        refine wp_aload_n dL_law_407 rfl (by decide) ?_
        refine wp_iload_n dL_law_408 rfl ?_
        refine wp_iconst dL_law_409 ?_
        refine wp_iadd dL_law_410 ?_
        obtain ⟨o73, h⟩ := h
        refine wp_sld dL_law_411 o59 o73 o61 ?_
        refine wp_aload_n dL_law_412 rfl (by decide) ?_
        refine wp_iload_n dL_law_413 rfl ?_
        refine wp_iconst dL_law_414 ?_
        refine wp_iadd dL_law_415 ?_
        obtain ⟨o74, h⟩ := h
        refine wp_sld dL_law_416 o62 o74 o64 ?_
        refine wp_aload_n dL_law_417 rfl (by decide) ?_
        refine wp_iload_n dL_law_418 rfl ?_
        refine wp_iconst dL_law_419 ?_
        refine wp_iadd dL_law_420 ?_
        obtain ⟨o75, h⟩ := h
        refine wp_sld dL_law_421 o65 o75 o67 ?_
        refine wp_aload_n dL_law_422 rfl (by decide) ?_
        refine wp_iload_n dL_law_423 rfl ?_
        refine wp_iconst dL_law_424 ?_
        refine wp_iadd dL_law_425 ?_
        obtain ⟨o76, h⟩ := h
        refine wp_sld dL_law_426 o68 o76 o70 ?_
        refine wp_callV (e1 := 0) (as := [Iv (M71 0 (x3 + 1)), Iv (M71 0 (x3 + 2)), Iv (M71 0 (x3 + 3)), Iv (M71 0 (x3 + 4)), Iv (M71 0 (x3 + 5))]) (S := [Iv z71]) dL_law_427 (cs_L_36 rfl) kd_88 rfl rfl (Nat.le_of_ble_eq_true rfl) (Nat.le_of_ble_eq_true rfl) h (fun v77 M77 q77 r77 => ?_)
        obtain ⟨z77, rfl⟩ := retV_i r77 rfl
        have h := q77
        obtain ⟨o78, h⟩ := h
        refine wp_icmp_eq (tgt := 1830) dL_law_430 (by decide) o78 (fun q79 => ?_) (fun q79 => ?_)
        · have h := h.1 q79
          refine wp_iinc (L2 := [some (Rv 0), some (Rv 1), some (Rv 88), some (Iv (x3 + 6))]) dL_law_1830 rfl (Nat.le_of_ble_eq_true rfl) (Nat.le_of_ble_eq_true rfl) rfl ?_
          refine wp_goto (tgt := 18) dL_law_1833 (by decide) ?_
          exact h
        · have h := h.2 q79
          refine wp_iconst dL_law_433 ?_
          exact wp_zret dL_law_434 rfl (Or.inr ⟨rfl, rfl, rfl, by decide⟩) rfl (by decide) h
      · refine wp_tableIn (off := 402) (tgt := 435) dL_law_33 o6 (by omega) (by omega) (by rw [q7]; rfl) (by decide) ?_
        have h := h.2.2.2.2.2.1 q7
        refine wp_aload_n dL_law_435 rfl (by decide) ?_
        refine wp_aload_n dL_law_436 rfl (by decide) ?_
        refine wp_iload_n dL_law_437 rfl ?_
        refine wp_iconst dL_law_438 ?_
        refine wp_iadd dL_law_439 ?_
        obtain ⟨o80, h⟩ := h
        obtain ⟨o81, h⟩ := h
        obtain ⟨o82, h⟩ := h
        refine wp_sld dL_law_440 o80 o81 o82 ?_
        refine wp_callV (e1 := 0) (as := [Iv (M 0 (x3 + 1))]) (S := []) dL_law_441 (cs_L_37 rfl) kd_1 rfl rfl (Nat.le_of_ble_eq_true rfl) (Nat.le_of_ble_eq_true rfl) h (fun v83 M83 q83 r83 => ?_)
        obtain ⟨z83, rfl⟩ := retV_i r83 rfl
        have h := q83
        refine wp_aload_n dL_law_444 rfl (by decide) ?_
        refine wp_aload_n dL_law_445 rfl (by decide) ?_
        refine wp_iload_n dL_law_446 rfl ?_
        refine wp_iconst dL_law_447 ?_
        refine wp_iadd dL_law_448 ?_
        obtain ⟨o84, h⟩ := h
        refine wp_sld dL_law_449 o80 o84 o82 ?_
        refine wp_callV (e1 := 0) (as := [Iv (M83 0 (x3 + 1))]) (S := [Iv z83]) dL_law_450 (cs_L_40 rfl) kd_88 rfl rfl (Nat.le_of_ble_eq_true rfl) (Nat.le_of_ble_eq_true rfl) h (fun v85 M85 q85 r85 => ?_)
        obtain ⟨z85, rfl⟩ := retV_i r85 rfl
        have h := q85
        obtain ⟨o86, h⟩ := h
        refine wp_icmp_eq (tgt := 1830) dL_law_453 (by decide) o86 (fun q87 => ?_) (fun q87 => ?_)
        · have h := h.1 q87
          refine wp_iinc (L2 := [some (Rv 0), some (Rv 1), some (Rv 88), some (Iv (x3 + 6))]) dL_law_1830 rfl (Nat.le_of_ble_eq_true rfl) (Nat.le_of_ble_eq_true rfl) rfl ?_
          refine wp_goto (tgt := 18) dL_law_1833 (by decide) ?_
          exact h
        · have h := h.2 q87
          refine wp_iconst dL_law_456 ?_
          exact wp_zret dL_law_457 rfl (Or.inr ⟨rfl, rfl, rfl, by decide⟩) rfl (by decide) h
      · refine wp_tableIn (off := 425) (tgt := 458) dL_law_33 o6 (by omega) (by omega) (by rw [q7]; rfl) (by decide) ?_
        have h := h.2.2.2.2.2.2.1 q7
        refine wp_aload_n dL_law_458 rfl (by decide) ?_
        refine wp_aload_n dL_law_459 rfl (by decide) ?_
        refine wp_iload_n dL_law_460 rfl ?_
        refine wp_iconst dL_law_461 ?_
        refine wp_iadd dL_law_462 ?_
        obtain ⟨o88, h⟩ := h
        obtain ⟨o89, h⟩ := h
        obtain ⟨o90, h⟩ := h
        refine wp_sld dL_law_463 o88 o89 o90 ?_
        refine wp_aload_n dL_law_464 rfl (by decide) ?_
        refine wp_iload_n dL_law_465 rfl ?_
        refine wp_iconst dL_law_466 ?_
        refine wp_iadd dL_law_467 ?_
        obtain ⟨o91, h⟩ := h
        obtain ⟨o92, h⟩ := h
        obtain ⟨o93, h⟩ := h
        refine wp_sld dL_law_468 o91 o92 o93 ?_
        refine wp_callV (e1 := 0) (as := [Iv (M 0 (x3 + 1)), Iv (M 0 (x3 + 2))]) (S := []) dL_law_469 (cs_L_41 rfl) kd_1 rfl rfl (Nat.le_of_ble_eq_true rfl) (Nat.le_of_ble_eq_true rfl) h (fun v94 M94 q94 r94 => ?_)
        obtain ⟨z94, rfl⟩ := retV_i r94 rfl
        have h := q94
        refine wp_aload_n dL_law_472 rfl (by decide) ?_
        refine wp_aload_n dL_law_473 rfl (by decide) ?_
        refine wp_iload_n dL_law_474 rfl ?_
        refine wp_iconst dL_law_475 ?_
        refine wp_iadd dL_law_476 ?_
        obtain ⟨o95, h⟩ := h
        refine wp_sld dL_law_477 o88 o95 o90 ?_
        refine wp_aload_n dL_law_478 rfl (by decide) ?_
        refine wp_iload_n dL_law_479 rfl ?_
        refine wp_iconst dL_law_480 ?_
        refine wp_iadd dL_law_481 ?_
        obtain ⟨o96, h⟩ := h
        refine wp_sld dL_law_482 o91 o96 o93 ?_
        refine wp_callV (e1 := 0) (as := [Iv (M94 0 (x3 + 1)), Iv (M94 0 (x3 + 2))]) (S := [Iv z94]) dL_law_483 (cs_L_44 rfl) kd_88 rfl rfl (Nat.le_of_ble_eq_true rfl) (Nat.le_of_ble_eq_true rfl) h (fun v97 M97 q97 r97 => ?_)
        obtain ⟨z97, rfl⟩ := retV_i r97 rfl
        have h := q97
        obtain ⟨o98, h⟩ := h
        refine wp_icmp_eq (tgt := 1830) dL_law_486 (by decide) o98 (fun q99 => ?_) (fun q99 => ?_)
        · have h := h.1 q99
          refine wp_iinc (L2 := [some (Rv 0), some (Rv 1), some (Rv 88), some (Iv (x3 + 6))]) dL_law_1830 rfl (Nat.le_of_ble_eq_true rfl) (Nat.le_of_ble_eq_true rfl) rfl ?_
          refine wp_goto (tgt := 18) dL_law_1833 (by decide) ?_
          exact h
        · have h := h.2 q99
          refine wp_iconst dL_law_489 ?_
          exact wp_zret dL_law_490 rfl (Or.inr ⟨rfl, rfl, rfl, by decide⟩) rfl (by decide) h
      · refine wp_tableIn (off := 458) (tgt := 491) dL_law_33 o6 (by omega) (by omega) (by rw [q7]; rfl) (by decide) ?_
        have h := h.2.2.2.2.2.2.2.1 q7
        refine wp_aload_n dL_law_491 rfl (by decide) ?_
        refine wp_aload_n dL_law_492 rfl (by decide) ?_
        refine wp_iload_n dL_law_493 rfl ?_
        refine wp_iconst dL_law_494 ?_
        refine wp_iadd dL_law_495 ?_
        obtain ⟨o100, h⟩ := h
        obtain ⟨o101, h⟩ := h
        obtain ⟨o102, h⟩ := h
        refine wp_sld dL_law_496 o100 o101 o102 ?_
        refine wp_aload_n dL_law_497 rfl (by decide) ?_
        refine wp_iload_n dL_law_498 rfl ?_
        refine wp_iconst dL_law_499 ?_
        refine wp_iadd dL_law_500 ?_
        obtain ⟨o103, h⟩ := h
        obtain ⟨o104, h⟩ := h
        obtain ⟨o105, h⟩ := h
        refine wp_sld dL_law_501 o103 o104 o105 ?_
        refine wp_aload_n dL_law_502 rfl (by decide) ?_
        refine wp_iload_n dL_law_503 rfl ?_
        refine wp_iconst dL_law_504 ?_
        refine wp_iadd dL_law_505 ?_
        obtain ⟨o106, h⟩ := h
        obtain ⟨o107, h⟩ := h
        obtain ⟨o108, h⟩ := h
        refine wp_sld dL_law_506 o106 o107 o108 ?_
        refine wp_callV (e1 := 0) (as := [Iv (M 0 (x3 + 1)), Iv (M 0 (x3 + 2)), Iv (M 0 (x3 + 3))]) (S := []) dL_law_507 (cs_L_45 rfl) kd_1 rfl rfl (Nat.le_of_ble_eq_true rfl) (Nat.le_of_ble_eq_true rfl) h (fun v109 M109 q109 r109 => ?_)
        obtain ⟨z109, rfl⟩ := retV_i r109 rfl
        have h := q109
        refine wp_aload_n dL_law_510 rfl (by decide) ?_
        refine wp_aload_n dL_law_511 rfl (by decide) ?_
        refine wp_iload_n dL_law_512 rfl ?_
        refine wp_iconst dL_law_513 ?_
        refine wp_iadd dL_law_514 ?_
        obtain ⟨o110, h⟩ := h
        refine wp_sld dL_law_515 o100 o110 o102 ?_
        refine wp_aload_n dL_law_516 rfl (by decide) ?_
        refine wp_iload_n dL_law_517 rfl ?_
        refine wp_iconst dL_law_518 ?_
        refine wp_iadd dL_law_519 ?_
        obtain ⟨o111, h⟩ := h
        refine wp_sld dL_law_520 o103 o111 o105 ?_
        refine wp_aload_n dL_law_521 rfl (by decide) ?_
        refine wp_iload_n dL_law_522 rfl ?_
        refine wp_iconst dL_law_523 ?_
        refine wp_iadd dL_law_524 ?_
        obtain ⟨o112, h⟩ := h
        refine wp_sld dL_law_525 o106 o112 o108 ?_
        refine wp_callV (e1 := 0) (as := [Iv (M109 0 (x3 + 1)), Iv (M109 0 (x3 + 2)), Iv (M109 0 (x3 + 3))]) (S := [Iv z109]) dL_law_526 (cs_L_48 rfl) kd_88 rfl rfl (Nat.le_of_ble_eq_true rfl) (Nat.le_of_ble_eq_true rfl) h (fun v113 M113 q113 r113 => ?_)
        obtain ⟨z113, rfl⟩ := retV_i r113 rfl
        have h := q113
        obtain ⟨o114, h⟩ := h
        refine wp_icmp_eq (tgt := 1830) dL_law_529 (by decide) o114 (fun q115 => ?_) (fun q115 => ?_)
        · have h := h.1 q115
          refine wp_iinc (L2 := [some (Rv 0), some (Rv 1), some (Rv 88), some (Iv (x3 + 6))]) dL_law_1830 rfl (Nat.le_of_ble_eq_true rfl) (Nat.le_of_ble_eq_true rfl) rfl ?_
          refine wp_goto (tgt := 18) dL_law_1833 (by decide) ?_
          exact h
        · have h := h.2 q115
          refine wp_iconst dL_law_532 ?_
          exact wp_zret dL_law_533 rfl (Or.inr ⟨rfl, rfl, rfl, by decide⟩) rfl (by decide) h
      · refine wp_tableIn (off := 501) (tgt := 534) dL_law_33 o6 (by omega) (by omega) (by rw [q7]; rfl) (by decide) ?_
        have h := h.2.2.2.2.2.2.2.2.1 q7
        refine wp_aload_n dL_law_534 rfl (by decide) ?_
        refine wp_aload_n dL_law_535 rfl (by decide) ?_
        refine wp_iload_n dL_law_536 rfl ?_
        refine wp_iconst dL_law_537 ?_
        refine wp_iadd dL_law_538 ?_
        obtain ⟨o116, h⟩ := h
        obtain ⟨o117, h⟩ := h
        obtain ⟨o118, h⟩ := h
        refine wp_sld dL_law_539 o116 o117 o118 ?_
        refine wp_callV (e1 := 0) (as := [Iv (M 0 (x3 + 1))]) (S := []) dL_law_540 (cs_L_49 rfl) kd_1 rfl rfl (Nat.le_of_ble_eq_true rfl) (Nat.le_of_ble_eq_true rfl) h (fun v119 M119 q119 r119 => ?_)
        obtain ⟨z119, rfl⟩ := retV_i r119 rfl
        have h := q119
        refine wp_aload_n dL_law_543 rfl (by decide) ?_
        refine wp_aload_n dL_law_544 rfl (by decide) ?_
        refine wp_iload_n dL_law_545 rfl ?_
        refine wp_iconst dL_law_546 ?_
        refine wp_iadd dL_law_547 ?_
        obtain ⟨o120, h⟩ := h
        refine wp_sld dL_law_548 o116 o120 o118 ?_
        refine wp_callV (e1 := 0) (as := [Iv (M119 0 (x3 + 1))]) (S := [Iv z119]) dL_law_549 (cs_L_52 rfl) kd_88 rfl rfl (Nat.le_of_ble_eq_true rfl) (Nat.le_of_ble_eq_true rfl) h (fun v121 M121 q121 r121 => ?_)
        obtain ⟨z121, rfl⟩ := retV_i r121 rfl
        have h := q121
        obtain ⟨o122, h⟩ := h
        refine wp_icmp_eq (tgt := 1830) dL_law_552 (by decide) o122 (fun q123 => ?_) (fun q123 => ?_)
        · have h := h.1 q123
          refine wp_iinc (L2 := [some (Rv 0), some (Rv 1), some (Rv 88), some (Iv (x3 + 6))]) dL_law_1830 rfl (Nat.le_of_ble_eq_true rfl) (Nat.le_of_ble_eq_true rfl) rfl ?_
          refine wp_goto (tgt := 18) dL_law_1833 (by decide) ?_
          exact h
        · have h := h.2 q123
          refine wp_iconst dL_law_555 ?_
          exact wp_zret dL_law_556 rfl (Or.inr ⟨rfl, rfl, rfl, by decide⟩) rfl (by decide) h
      · refine wp_tableIn (off := 524) (tgt := 557) dL_law_33 o6 (by omega) (by omega) (by rw [q7]; rfl) (by decide) ?_
        have h := h.2.2.2.2.2.2.2.2.2.1 q7
        refine wp_aload_n dL_law_557 rfl (by decide) ?_
        refine wp_aload_n dL_law_558 rfl (by decide) ?_
        refine wp_iload_n dL_law_559 rfl ?_
        refine wp_iconst dL_law_560 ?_
        refine wp_iadd dL_law_561 ?_
        obtain ⟨o124, h⟩ := h
        obtain ⟨o125, h⟩ := h
        obtain ⟨o126, h⟩ := h
        refine wp_sld dL_law_562 o124 o125 o126 ?_
        refine wp_aload_n dL_law_563 rfl (by decide) ?_
        refine wp_iload_n dL_law_564 rfl ?_
        refine wp_iconst dL_law_565 ?_
        refine wp_iadd dL_law_566 ?_
        obtain ⟨o127, h⟩ := h
        obtain ⟨o128, h⟩ := h
        obtain ⟨o129, h⟩ := h
        refine wp_sld dL_law_567 o127 o128 o129 ?_
        refine wp_callV (e1 := 0) (as := [Iv (M 0 (x3 + 1)), Iv (M 0 (x3 + 2))]) (S := []) dL_law_568 (cs_L_53 rfl) kd_1 rfl rfl (Nat.le_of_ble_eq_true rfl) (Nat.le_of_ble_eq_true rfl) h (fun v130 M130 q130 r130 => ?_)
        obtain ⟨z130, rfl⟩ := retV_i r130 rfl
        have h := q130
        refine wp_aload_n dL_law_571 rfl (by decide) ?_
        refine wp_aload_n dL_law_572 rfl (by decide) ?_
        refine wp_iload_n dL_law_573 rfl ?_
        refine wp_iconst dL_law_574 ?_
        refine wp_iadd dL_law_575 ?_
        obtain ⟨o131, h⟩ := h
        refine wp_sld dL_law_576 o124 o131 o126 ?_
        refine wp_aload_n dL_law_577 rfl (by decide) ?_
        refine wp_iload_n dL_law_578 rfl ?_
        refine wp_iconst dL_law_579 ?_
        refine wp_iadd dL_law_580 ?_
        obtain ⟨o132, h⟩ := h
        refine wp_sld dL_law_581 o127 o132 o129 ?_
        refine wp_callV (e1 := 0) (as := [Iv (M130 0 (x3 + 1)), Iv (M130 0 (x3 + 2))]) (S := [Iv z130]) dL_law_582 (cs_L_56 rfl) kd_88 rfl rfl (Nat.le_of_ble_eq_true rfl) (Nat.le_of_ble_eq_true rfl) h (fun v133 M133 q133 r133 => ?_)
        obtain ⟨z133, rfl⟩ := retV_i r133 rfl
        have h := q133
        obtain ⟨o134, h⟩ := h
        refine wp_icmp_eq (tgt := 1830) dL_law_585 (by decide) o134 (fun q135 => ?_) (fun q135 => ?_)
        · have h := h.1 q135
          refine wp_iinc (L2 := [some (Rv 0), some (Rv 1), some (Rv 88), some (Iv (x3 + 6))]) dL_law_1830 rfl (Nat.le_of_ble_eq_true rfl) (Nat.le_of_ble_eq_true rfl) rfl ?_
          refine wp_goto (tgt := 18) dL_law_1833 (by decide) ?_
          exact h
        · have h := h.2 q135
          refine wp_iconst dL_law_588 ?_
          exact wp_zret dL_law_589 rfl (Or.inr ⟨rfl, rfl, rfl, by decide⟩) rfl (by decide) h
      · refine wp_tableIn (off := 557) (tgt := 590) dL_law_33 o6 (by omega) (by omega) (by rw [q7]; rfl) (by decide) ?_
        have h := h.2.2.2.2.2.2.2.2.2.2.1 q7
        refine wp_aload_n dL_law_590 rfl (by decide) ?_
        refine wp_aload_n dL_law_591 rfl (by decide) ?_
        refine wp_iload_n dL_law_592 rfl ?_
        refine wp_iconst dL_law_593 ?_
        refine wp_iadd dL_law_594 ?_
        obtain ⟨o136, h⟩ := h
        obtain ⟨o137, h⟩ := h
        obtain ⟨o138, h⟩ := h
        refine wp_sld dL_law_595 o136 o137 o138 ?_
        refine wp_callV (e1 := 0) (as := [Iv (M 0 (x3 + 1))]) (S := []) dL_law_596 (cs_L_57 rfl) kd_1 rfl rfl (Nat.le_of_ble_eq_true rfl) (Nat.le_of_ble_eq_true rfl) h (fun v139 M139 q139 r139 => ?_)
        obtain ⟨z139, rfl⟩ := retV_i r139 rfl
        have h := q139
        refine wp_aload_n dL_law_599 rfl (by decide) ?_
        refine wp_aload_n dL_law_600 rfl (by decide) ?_
        refine wp_iload_n dL_law_601 rfl ?_
        refine wp_iconst dL_law_602 ?_
        refine wp_iadd dL_law_603 ?_
        obtain ⟨o140, h⟩ := h
        refine wp_sld dL_law_604 o136 o140 o138 ?_
        refine wp_callV (e1 := 0) (as := [Iv (M139 0 (x3 + 1))]) (S := [Iv z139]) dL_law_605 (cs_L_60 rfl) kd_88 rfl rfl (Nat.le_of_ble_eq_true rfl) (Nat.le_of_ble_eq_true rfl) h (fun v141 M141 q141 r141 => ?_)
        obtain ⟨z141, rfl⟩ := retV_i r141 rfl
        have h := q141
        obtain ⟨o142, h⟩ := h
        refine wp_icmp_eq (tgt := 1830) dL_law_608 (by decide) o142 (fun q143 => ?_) (fun q143 => ?_)
        · have h := h.1 q143
          refine wp_iinc (L2 := [some (Rv 0), some (Rv 1), some (Rv 88), some (Iv (x3 + 6))]) dL_law_1830 rfl (Nat.le_of_ble_eq_true rfl) (Nat.le_of_ble_eq_true rfl) rfl ?_
          refine wp_goto (tgt := 18) dL_law_1833 (by decide) ?_
          exact h
        · have h := h.2 q143
          refine wp_iconst dL_law_611 ?_
          exact wp_zret dL_law_612 rfl (Or.inr ⟨rfl, rfl, rfl, by decide⟩) rfl (by decide) h
      · refine wp_tableIn (off := 580) (tgt := 613) dL_law_33 o6 (by omega) (by omega) (by rw [q7]; rfl) (by decide) ?_
        have h := h.2.2.2.2.2.2.2.2.2.2.2.1 q7
        refine wp_aload_n dL_law_613 rfl (by decide) ?_
        refine wp_aload_n dL_law_614 rfl (by decide) ?_
        refine wp_iload_n dL_law_615 rfl ?_
        refine wp_iconst dL_law_616 ?_
        refine wp_iadd dL_law_617 ?_
        obtain ⟨o144, h⟩ := h
        obtain ⟨o145, h⟩ := h
        obtain ⟨o146, h⟩ := h
        refine wp_sld dL_law_618 o144 o145 o146 ?_
        refine wp_aload_n dL_law_619 rfl (by decide) ?_
        refine wp_iload_n dL_law_620 rfl ?_
        refine wp_iconst dL_law_621 ?_
        refine wp_iadd dL_law_622 ?_
        obtain ⟨o147, h⟩ := h
        obtain ⟨o148, h⟩ := h
        obtain ⟨o149, h⟩ := h
        refine wp_sld dL_law_623 o147 o148 o149 ?_
        refine wp_callV (e1 := 0) (as := [Iv (M 0 (x3 + 1)), Iv (M 0 (x3 + 2))]) (S := []) dL_law_624 (cs_L_61 rfl) kd_1 rfl rfl (Nat.le_of_ble_eq_true rfl) (Nat.le_of_ble_eq_true rfl) h (fun v150 M150 q150 r150 => ?_)
        obtain ⟨z150, rfl⟩ := retV_i r150 rfl
        have h := q150
        refine wp_aload_n dL_law_627 rfl (by decide) ?_
        refine wp_aload_n dL_law_628 rfl (by decide) ?_
        refine wp_iload_n dL_law_629 rfl ?_
        refine wp_iconst dL_law_630 ?_
        refine wp_iadd dL_law_631 ?_
        obtain ⟨o151, h⟩ := h
        refine wp_sld dL_law_632 o144 o151 o146 ?_
        refine wp_aload_n dL_law_633 rfl (by decide) ?_
        refine wp_iload_n dL_law_634 rfl ?_
        refine wp_iconst dL_law_635 ?_
        refine wp_iadd dL_law_636 ?_
        obtain ⟨o152, h⟩ := h
        refine wp_sld dL_law_637 o147 o152 o149 ?_
        refine wp_callV (e1 := 0) (as := [Iv (M150 0 (x3 + 1)), Iv (M150 0 (x3 + 2))]) (S := [Iv z150]) dL_law_638 (cs_L_64 rfl) kd_88 rfl rfl (Nat.le_of_ble_eq_true rfl) (Nat.le_of_ble_eq_true rfl) h (fun v153 M153 q153 r153 => ?_)
        obtain ⟨z153, rfl⟩ := retV_i r153 rfl
        have h := q153
        obtain ⟨o154, h⟩ := h
        refine wp_icmp_eq (tgt := 1830) dL_law_641 (by decide) o154 (fun q155 => ?_) (fun q155 => ?_)
        · have h := h.1 q155
          refine wp_iinc (L2 := [some (Rv 0), some (Rv 1), some (Rv 88), some (Iv (x3 + 6))]) dL_law_1830 rfl (Nat.le_of_ble_eq_true rfl) (Nat.le_of_ble_eq_true rfl) rfl ?_
          refine wp_goto (tgt := 18) dL_law_1833 (by decide) ?_
          exact h
        · have h := h.2 q155
          refine wp_iconst dL_law_644 ?_
          exact wp_zret dL_law_645 rfl (Or.inr ⟨rfl, rfl, rfl, by decide⟩) rfl (by decide) h
      · refine wp_tableIn (off := 613) (tgt := 646) dL_law_33 o6 (by omega) (by omega) (by rw [q7]; rfl) (by decide) ?_
        have h := h.2.2.2.2.2.2.2.2.2.2.2.2.1 q7
        refine wp_aload_n dL_law_646 rfl (by decide) ?_
        refine wp_aload_n dL_law_647 rfl (by decide) ?_
        refine wp_iload_n dL_law_648 rfl ?_
        refine wp_iconst dL_law_649 ?_
        refine wp_iadd dL_law_650 ?_
        obtain ⟨o156, h⟩ := h
        obtain ⟨o157, h⟩ := h
        obtain ⟨o158, h⟩ := h
        refine wp_sld dL_law_651 o156 o157 o158 ?_
        refine wp_aload_n dL_law_652 rfl (by decide) ?_
        refine wp_iload_n dL_law_653 rfl ?_
        refine wp_iconst dL_law_654 ?_
        refine wp_iadd dL_law_655 ?_
        obtain ⟨o159, h⟩ := h
        obtain ⟨o160, h⟩ := h
        obtain ⟨o161, h⟩ := h
        refine wp_sld dL_law_656 o159 o160 o161 ?_
        refine wp_aload_n dL_law_657 rfl (by decide) ?_
        refine wp_iload_n dL_law_658 rfl ?_
        refine wp_iconst dL_law_659 ?_
        refine wp_iadd dL_law_660 ?_
        obtain ⟨o162, h⟩ := h
        obtain ⟨o163, h⟩ := h
        obtain ⟨o164, h⟩ := h
        refine wp_sld dL_law_661 o162 o163 o164 ?_
        refine wp_callV (e1 := 0) (as := [Iv (M 0 (x3 + 1)), Iv (M 0 (x3 + 2)), Iv (M 0 (x3 + 3))]) (S := []) dL_law_662 (cs_L_65 rfl) kd_1 rfl rfl (Nat.le_of_ble_eq_true rfl) (Nat.le_of_ble_eq_true rfl) h (fun v165 M165 q165 r165 => ?_)
        obtain ⟨z165, rfl⟩ := retV_i r165 rfl
        have h := q165
        refine wp_aload_n dL_law_665 rfl (by decide) ?_
        refine wp_aload_n dL_law_666 rfl (by decide) ?_
        refine wp_iload_n dL_law_667 rfl ?_
        refine wp_iconst dL_law_668 ?_
        refine wp_iadd dL_law_669 ?_
        obtain ⟨o166, h⟩ := h
        refine wp_sld dL_law_670 o156 o166 o158 ?_
        refine wp_aload_n dL_law_671 rfl (by decide) ?_
        refine wp_iload_n dL_law_672 rfl ?_
        refine wp_iconst dL_law_673 ?_
        refine wp_iadd dL_law_674 ?_
        obtain ⟨o167, h⟩ := h
        refine wp_sld dL_law_675 o159 o167 o161 ?_
        refine wp_aload_n dL_law_676 rfl (by decide) ?_
        refine wp_iload_n dL_law_677 rfl ?_
        refine wp_iconst dL_law_678 ?_
        refine wp_iadd dL_law_679 ?_
        obtain ⟨o168, h⟩ := h
        refine wp_sld dL_law_680 o162 o168 o164 ?_
        refine wp_callV (e1 := 0) (as := [Iv (M165 0 (x3 + 1)), Iv (M165 0 (x3 + 2)), Iv (M165 0 (x3 + 3))]) (S := [Iv z165]) dL_law_681 (cs_L_68 rfl) kd_88 rfl rfl (Nat.le_of_ble_eq_true rfl) (Nat.le_of_ble_eq_true rfl) h (fun v169 M169 q169 r169 => ?_)
        obtain ⟨z169, rfl⟩ := retV_i r169 rfl
        have h := q169
        obtain ⟨o170, h⟩ := h
        refine wp_icmp_eq (tgt := 1830) dL_law_684 (by decide) o170 (fun q171 => ?_) (fun q171 => ?_)
        · have h := h.1 q171
          refine wp_iinc (L2 := [some (Rv 0), some (Rv 1), some (Rv 88), some (Iv (x3 + 6))]) dL_law_1830 rfl (Nat.le_of_ble_eq_true rfl) (Nat.le_of_ble_eq_true rfl) rfl ?_
          refine wp_goto (tgt := 18) dL_law_1833 (by decide) ?_
          exact h
        · have h := h.2 q171
          refine wp_iconst dL_law_687 ?_
          exact wp_zret dL_law_688 rfl (Or.inr ⟨rfl, rfl, rfl, by decide⟩) rfl (by decide) h
      · refine wp_tableIn (off := 656) (tgt := 689) dL_law_33 o6 (by omega) (by omega) (by rw [q7]; rfl) (by decide) ?_
        have h := h.2.2.2.2.2.2.2.2.2.2.2.2.2.1 q7
        refine wp_aload_n dL_law_689 rfl (by decide) ?_
        refine wp_aload_n dL_law_690 rfl (by decide) ?_
        refine wp_iload_n dL_law_691 rfl ?_
        refine wp_iconst dL_law_692 ?_
        refine wp_iadd dL_law_693 ?_
        obtain ⟨o172, h⟩ := h
        obtain ⟨o173, h⟩ := h
        obtain ⟨o174, h⟩ := h
        refine wp_sld dL_law_694 o172 o173 o174 ?_
        refine wp_aload_n dL_law_695 rfl (by decide) ?_
        refine wp_iload_n dL_law_696 rfl ?_
        refine wp_iconst dL_law_697 ?_
        refine wp_iadd dL_law_698 ?_
        obtain ⟨o175, h⟩ := h
        obtain ⟨o176, h⟩ := h
        obtain ⟨o177, h⟩ := h
        refine wp_sld dL_law_699 o175 o176 o177 ?_
        refine wp_aload_n dL_law_700 rfl (by decide) ?_
        refine wp_iload_n dL_law_701 rfl ?_
        refine wp_iconst dL_law_702 ?_
        refine wp_iadd dL_law_703 ?_
        obtain ⟨o178, h⟩ := h
        obtain ⟨o179, h⟩ := h
        obtain ⟨o180, h⟩ := h
        refine wp_sld dL_law_704 o178 o179 o180 ?_
        refine wp_aload_n dL_law_705 rfl (by decide) ?_
        refine wp_iload_n dL_law_706 rfl ?_
        refine wp_iconst dL_law_707 ?_
        refine wp_iadd dL_law_708 ?_
        obtain ⟨o181, h⟩ := h
        obtain ⟨o182, h⟩ := h
        obtain ⟨o183, h⟩ := h
        refine wp_sld dL_law_709 o181 o182 o183 ?_
        refine wp_callV (e1 := 0) (as := [Iv (M 0 (x3 + 1)), Iv (M 0 (x3 + 2)), Iv (M 0 (x3 + 3)), Iv (M 0 (x3 + 4))]) (S := []) dL_law_710 (cs_L_69 rfl) kd_1 rfl rfl (Nat.le_of_ble_eq_true rfl) (Nat.le_of_ble_eq_true rfl) h (fun v184 M184 q184 r184 => ?_)
        obtain ⟨z184, rfl⟩ := retV_i r184 rfl
        have h := q184
        refine wp_aload_n dL_law_713 rfl (by decide) ?_
        refine wp_aload_n dL_law_714 rfl (by decide) ?_
        refine wp_iload_n dL_law_715 rfl ?_
        refine wp_iconst dL_law_716 ?_
        refine wp_iadd dL_law_717 ?_
        obtain ⟨o185, h⟩ := h
        refine wp_sld dL_law_718 o172 o185 o174 ?_
        refine wp_aload_n dL_law_719 rfl (by decide) ?_
        refine wp_iload_n dL_law_720 rfl ?_
        refine wp_iconst dL_law_721 ?_
        refine wp_iadd dL_law_722 ?_
        obtain ⟨o186, h⟩ := h
        refine wp_sld dL_law_723 o175 o186 o177 ?_
        refine wp_aload_n dL_law_724 rfl (by decide) ?_
        refine wp_iload_n dL_law_725 rfl ?_
        refine wp_iconst dL_law_726 ?_
        refine wp_iadd dL_law_727 ?_
        obtain ⟨o187, h⟩ := h
        refine wp_sld dL_law_728 o178 o187 o180 ?_
        refine wp_aload_n dL_law_729 rfl (by decide) ?_
        refine wp_iload_n dL_law_730 rfl ?_
        refine wp_iconst dL_law_731 ?_
        refine wp_iadd dL_law_732 ?_
        obtain ⟨o188, h⟩ := h
        refine wp_sld dL_law_733 o181 o188 o183 ?_
        refine wp_callV (e1 := 0) (as := [Iv (M184 0 (x3 + 1)), Iv (M184 0 (x3 + 2)), Iv (M184 0 (x3 + 3)), Iv (M184 0 (x3 + 4))]) (S := [Iv z184]) dL_law_734 (cs_L_73 rfl) kd_88 rfl rfl (Nat.le_of_ble_eq_true rfl) (Nat.le_of_ble_eq_true rfl) h (fun v189 M189 q189 r189 => ?_)
        obtain ⟨z189, rfl⟩ := retV_i r189 rfl
        have h := q189
        obtain ⟨o190, h⟩ := h
        refine wp_icmp_eq (tgt := 1830) dL_law_737 (by decide) o190 (fun q191 => ?_) (fun q191 => ?_)
        · have h := h.1 q191
          refine wp_iinc (L2 := [some (Rv 0), some (Rv 1), some (Rv 88), some (Iv (x3 + 6))]) dL_law_1830 rfl (Nat.le_of_ble_eq_true rfl) (Nat.le_of_ble_eq_true rfl) rfl ?_
          refine wp_goto (tgt := 18) dL_law_1833 (by decide) ?_
          exact h
        · have h := h.2 q191
          refine wp_iconst dL_law_740 ?_
          exact wp_zret dL_law_741 rfl (Or.inr ⟨rfl, rfl, rfl, by decide⟩) rfl (by decide) h
      · refine wp_tableIn (off := 709) (tgt := 742) dL_law_33 o6 (by omega) (by omega) (by rw [q7]; rfl) (by decide) ?_
        have h := h.2.2.2.2.2.2.2.2.2.2.2.2.2.2.1 q7
        refine wp_aload_n dL_law_742 rfl (by decide) ?_
        refine wp_aload_n dL_law_743 rfl (by decide) ?_
        refine wp_iload_n dL_law_744 rfl ?_
        refine wp_iconst dL_law_745 ?_
        refine wp_iadd dL_law_746 ?_
        obtain ⟨o192, h⟩ := h
        obtain ⟨o193, h⟩ := h
        obtain ⟨o194, h⟩ := h
        refine wp_sld dL_law_747 o192 o193 o194 ?_
        refine wp_aload_n dL_law_748 rfl (by decide) ?_
        refine wp_iload_n dL_law_749 rfl ?_
        refine wp_iconst dL_law_750 ?_
        refine wp_iadd dL_law_751 ?_
        obtain ⟨o195, h⟩ := h
        obtain ⟨o196, h⟩ := h
        obtain ⟨o197, h⟩ := h
        refine wp_sld dL_law_752 o195 o196 o197 ?_
        refine wp_aload_n dL_law_753 rfl (by decide) ?_
        refine wp_iload_n dL_law_754 rfl ?_
        refine wp_iconst dL_law_755 ?_
        refine wp_iadd dL_law_756 ?_
        obtain ⟨o198, h⟩ := h
        obtain ⟨o199, h⟩ := h
        obtain ⟨o200, h⟩ := h
        refine wp_sld dL_law_757 o198 o199 o200 ?_
        refine wp_callV (e1 := 0) (as := [Iv (M 0 (x3 + 1)), Iv (M 0 (x3 + 2)), Iv (M 0 (x3 + 3))]) (S := []) dL_law_758 (cs_L_74 rfl) kd_1 rfl rfl (Nat.le_of_ble_eq_true rfl) (Nat.le_of_ble_eq_true rfl) h (fun v201 M201 q201 r201 => ?_)
        obtain ⟨z201, rfl⟩ := retV_i r201 rfl
        have h := q201
        refine wp_aload_n dL_law_761 rfl (by decide) ?_
        refine wp_aload_n dL_law_762 rfl (by decide) ?_
        refine wp_iload_n dL_law_763 rfl ?_
        refine wp_iconst dL_law_764 ?_
        refine wp_iadd dL_law_765 ?_
        obtain ⟨o202, h⟩ := h
        refine wp_sld dL_law_766 o192 o202 o194 ?_
        refine wp_aload_n dL_law_767 rfl (by decide) ?_
        refine wp_iload_n dL_law_768 rfl ?_
        refine wp_iconst dL_law_769 ?_
        refine wp_iadd dL_law_770 ?_
        obtain ⟨o203, h⟩ := h
        refine wp_sld dL_law_771 o195 o203 o197 ?_
        refine wp_aload_n dL_law_772 rfl (by decide) ?_
        refine wp_iload_n dL_law_773 rfl ?_
        refine wp_iconst dL_law_774 ?_
        refine wp_iadd dL_law_775 ?_
        obtain ⟨o204, h⟩ := h
        refine wp_sld dL_law_776 o198 o204 o200 ?_
        refine wp_callV (e1 := 0) (as := [Iv (M201 0 (x3 + 1)), Iv (M201 0 (x3 + 2)), Iv (M201 0 (x3 + 3))]) (S := [Iv z201]) dL_law_777 (cs_L_77 rfl) kd_88 rfl rfl (Nat.le_of_ble_eq_true rfl) (Nat.le_of_ble_eq_true rfl) h (fun v205 M205 q205 r205 => ?_)
        obtain ⟨z205, rfl⟩ := retV_i r205 rfl
        have h := q205
        obtain ⟨o206, h⟩ := h
        refine wp_icmp_eq (tgt := 1830) dL_law_780 (by decide) o206 (fun q207 => ?_) (fun q207 => ?_)
        · have h := h.1 q207
          refine wp_iinc (L2 := [some (Rv 0), some (Rv 1), some (Rv 88), some (Iv (x3 + 6))]) dL_law_1830 rfl (Nat.le_of_ble_eq_true rfl) (Nat.le_of_ble_eq_true rfl) rfl ?_
          refine wp_goto (tgt := 18) dL_law_1833 (by decide) ?_
          exact h
        · have h := h.2 q207
          refine wp_iconst dL_law_783 ?_
          exact wp_zret dL_law_784 rfl (Or.inr ⟨rfl, rfl, rfl, by decide⟩) rfl (by decide) h
      · refine wp_tableIn (off := 752) (tgt := 785) dL_law_33 o6 (by omega) (by omega) (by rw [q7]; rfl) (by decide) ?_
        have h := h.2.2.2.2.2.2.2.2.2.2.2.2.2.2.2.1 q7
        refine wp_aload_n dL_law_785 rfl (by decide) ?_
        refine wp_aload_n dL_law_786 rfl (by decide) ?_
        refine wp_iload_n dL_law_787 rfl ?_
        refine wp_iconst dL_law_788 ?_
        refine wp_iadd dL_law_789 ?_
        obtain ⟨o208, h⟩ := h
        obtain ⟨o209, h⟩ := h
        obtain ⟨o210, h⟩ := h
        refine wp_sld dL_law_790 o208 o209 o210 ?_
        refine wp_aload_n dL_law_791 rfl (by decide) ?_
        refine wp_iload_n dL_law_792 rfl ?_
        refine wp_iconst dL_law_793 ?_
        refine wp_iadd dL_law_794 ?_
        obtain ⟨o211, h⟩ := h
        obtain ⟨o212, h⟩ := h
        obtain ⟨o213, h⟩ := h
        refine wp_sld dL_law_795 o211 o212 o213 ?_
        refine wp_aload_n dL_law_796 rfl (by decide) ?_
        refine wp_iload_n dL_law_797 rfl ?_
        refine wp_iconst dL_law_798 ?_
        refine wp_iadd dL_law_799 ?_
        obtain ⟨o214, h⟩ := h
        obtain ⟨o215, h⟩ := h
        obtain ⟨o216, h⟩ := h
        refine wp_sld dL_law_800 o214 o215 o216 ?_
        refine wp_callV (e1 := 0) (as := [Iv (M 0 (x3 + 1)), Iv (M 0 (x3 + 2)), Iv (M 0 (x3 + 3))]) (S := []) dL_law_801 (cs_L_78 rfl) kd_1 rfl rfl (Nat.le_of_ble_eq_true rfl) (Nat.le_of_ble_eq_true rfl) h (fun v217 M217 q217 r217 => ?_)
        obtain ⟨z217, rfl⟩ := retV_i r217 rfl
        have h := q217
        refine wp_aload_n dL_law_804 rfl (by decide) ?_
        refine wp_aload_n dL_law_805 rfl (by decide) ?_
        refine wp_iload_n dL_law_806 rfl ?_
        refine wp_iconst dL_law_807 ?_
        refine wp_iadd dL_law_808 ?_
        obtain ⟨o218, h⟩ := h
        refine wp_sld dL_law_809 o208 o218 o210 ?_
        refine wp_aload_n dL_law_810 rfl (by decide) ?_
        refine wp_iload_n dL_law_811 rfl ?_
        refine wp_iconst dL_law_812 ?_
        refine wp_iadd dL_law_813 ?_
        obtain ⟨o219, h⟩ := h
        refine wp_sld dL_law_814 o211 o219 o213 ?_
        refine wp_aload_n dL_law_815 rfl (by decide) ?_
        refine wp_iload_n dL_law_816 rfl ?_
        refine wp_iconst dL_law_817 ?_
        refine wp_iadd dL_law_818 ?_
        obtain ⟨o220, h⟩ := h
        refine wp_sld dL_law_819 o214 o220 o216 ?_
        refine wp_callV (e1 := 0) (as := [Iv (M217 0 (x3 + 1)), Iv (M217 0 (x3 + 2)), Iv (M217 0 (x3 + 3))]) (S := [Iv z217]) dL_law_820 (cs_L_81 rfl) kd_88 rfl rfl (Nat.le_of_ble_eq_true rfl) (Nat.le_of_ble_eq_true rfl) h (fun v221 M221 q221 r221 => ?_)
        obtain ⟨z221, rfl⟩ := retV_i r221 rfl
        have h := q221
        obtain ⟨o222, h⟩ := h
        refine wp_icmp_eq (tgt := 1830) dL_law_823 (by decide) o222 (fun q223 => ?_) (fun q223 => ?_)
        · have h := h.1 q223
          refine wp_iinc (L2 := [some (Rv 0), some (Rv 1), some (Rv 88), some (Iv (x3 + 6))]) dL_law_1830 rfl (Nat.le_of_ble_eq_true rfl) (Nat.le_of_ble_eq_true rfl) rfl ?_
          refine wp_goto (tgt := 18) dL_law_1833 (by decide) ?_
          exact h
        · have h := h.2 q223
          refine wp_iconst dL_law_826 ?_
          exact wp_zret dL_law_827 rfl (Or.inr ⟨rfl, rfl, rfl, by decide⟩) rfl (by decide) h
      · refine wp_tableIn (off := 795) (tgt := 828) dL_law_33 o6 (by omega) (by omega) (by rw [q7]; rfl) (by decide) ?_
        have h := h.2.2.2.2.2.2.2.2.2.2.2.2.2.2.2.2.1 q7
        refine wp_aload_n dL_law_828 rfl (by decide) ?_
        refine wp_aload_n dL_law_829 rfl (by decide) ?_
        refine wp_iload_n dL_law_830 rfl ?_
        refine wp_iconst dL_law_831 ?_
        refine wp_iadd dL_law_832 ?_
        obtain ⟨o224, h⟩ := h
        obtain ⟨o225, h⟩ := h
        obtain ⟨o226, h⟩ := h
        refine wp_sld dL_law_833 o224 o225 o226 ?_
        refine wp_callV (e1 := 0) (as := [Iv (M 0 (x3 + 1))]) (S := []) dL_law_834 (cs_L_82 rfl) kd_1 rfl rfl (Nat.le_of_ble_eq_true rfl) (Nat.le_of_ble_eq_true rfl) h (fun v227 M227 q227 r227 => ?_)
        obtain ⟨z227, rfl⟩ := retV_i r227 rfl
        have h := q227
        refine wp_aload_n dL_law_837 rfl (by decide) ?_
        refine wp_aload_n dL_law_838 rfl (by decide) ?_
        refine wp_iload_n dL_law_839 rfl ?_
        refine wp_iconst dL_law_840 ?_
        refine wp_iadd dL_law_841 ?_
        obtain ⟨o228, h⟩ := h
        refine wp_sld dL_law_842 o224 o228 o226 ?_
        refine wp_callV (e1 := 0) (as := [Iv (M227 0 (x3 + 1))]) (S := [Iv z227]) dL_law_843 (cs_L_85 rfl) kd_88 rfl rfl (Nat.le_of_ble_eq_true rfl) (Nat.le_of_ble_eq_true rfl) h (fun v229 M229 q229 r229 => ?_)
        obtain ⟨z229, rfl⟩ := retV_i r229 rfl
        have h := q229
        obtain ⟨o230, h⟩ := h
        refine wp_icmp_eq (tgt := 1830) dL_law_846 (by decide) o230 (fun q231 => ?_) (fun q231 => ?_)
        · have h := h.1 q231
          refine wp_iinc (L2 := [some (Rv 0), some (Rv 1), some (Rv 88), some (Iv (x3 + 6))]) dL_law_1830 rfl (Nat.le_of_ble_eq_true rfl) (Nat.le_of_ble_eq_true rfl) rfl ?_
          refine wp_goto (tgt := 18) dL_law_1833 (by decide) ?_
          exact h
        · have h := h.2 q231
          refine wp_iconst dL_law_849 ?_
          exact wp_zret dL_law_850 rfl (Or.inr ⟨rfl, rfl, rfl, by decide⟩) rfl (by decide) h
      · refine wp_tableIn (off := 818) (tgt := 851) dL_law_33 o6 (by omega) (by omega) (by rw [q7]; rfl) (by decide) ?_
        have h := h.2.2.2.2.2.2.2.2.2.2.2.2.2.2.2.2.2.1 q7
        refine wp_aload_n dL_law_851 rfl (by decide) ?_
        refine wp_aload_n dL_law_852 rfl (by decide) ?_
        refine wp_iload_n dL_law_853 rfl ?_
        refine wp_iconst dL_law_854 ?_
        refine wp_iadd dL_law_855 ?_
        obtain ⟨o232, h⟩ := h
        obtain ⟨o233, h⟩ := h
        obtain ⟨o234, h⟩ := h
        refine wp_sld dL_law_856 o232 o233 o234 ?_
        refine wp_callV (e1 := 0) (as := [Iv (M 0 (x3 + 1))]) (S := []) dL_law_857 (cs_L_86 rfl) kd_1 rfl rfl (Nat.le_of_ble_eq_true rfl) (Nat.le_of_ble_eq_true rfl) h (fun v235 M235 q235 r235 => ?_)
        obtain ⟨z235, rfl⟩ := retV_i r235 rfl
        have h := q235
        refine wp_aload_n dL_law_860 rfl (by decide) ?_
        refine wp_aload_n dL_law_861 rfl (by decide) ?_
        refine wp_iload_n dL_law_862 rfl ?_
        refine wp_iconst dL_law_863 ?_
        refine wp_iadd dL_law_864 ?_
        obtain ⟨o236, h⟩ := h
        refine wp_sld dL_law_865 o232 o236 o234 ?_
        refine wp_callV (e1 := 0) (as := [Iv (M235 0 (x3 + 1))]) (S := [Iv z235]) dL_law_866 (cs_L_89 rfl) kd_88 rfl rfl (Nat.le_of_ble_eq_true rfl) (Nat.le_of_ble_eq_true rfl) h (fun v237 M237 q237 r237 => ?_)
        obtain ⟨z237, rfl⟩ := retV_i r237 rfl
        have h := q237
        obtain ⟨o238, h⟩ := h
        refine wp_icmp_eq (tgt := 1830) dL_law_869 (by decide) o238 (fun q239 => ?_) (fun q239 => ?_)
        · have h := h.1 q239
          refine wp_iinc (L2 := [some (Rv 0), some (Rv 1), some (Rv 88), some (Iv (x3 + 6))]) dL_law_1830 rfl (Nat.le_of_ble_eq_true rfl) (Nat.le_of_ble_eq_true rfl) rfl ?_
          refine wp_goto (tgt := 18) dL_law_1833 (by decide) ?_
          exact h
        · have h := h.2 q239
          refine wp_iconst dL_law_872 ?_
          exact wp_zret dL_law_873 rfl (Or.inr ⟨rfl, rfl, rfl, by decide⟩) rfl (by decide) h
      · refine wp_tableIn (off := 841) (tgt := 874) dL_law_33 o6 (by omega) (by omega) (by rw [q7]; rfl) (by decide) ?_
        have h := h.2.2.2.2.2.2.2.2.2.2.2.2.2.2.2.2.2.2.1 q7
        refine wp_aload_n dL_law_874 rfl (by decide) ?_
        refine wp_aload_n dL_law_875 rfl (by decide) ?_
        refine wp_iload_n dL_law_876 rfl ?_
        refine wp_iconst dL_law_877 ?_
        refine wp_iadd dL_law_878 ?_
        obtain ⟨o240, h⟩ := h
        obtain ⟨o241, h⟩ := h
        obtain ⟨o242, h⟩ := h
        refine wp_sld dL_law_879 o240 o241 o242 ?_
        refine wp_aload_n dL_law_880 rfl (by decide) ?_
        refine wp_iload_n dL_law_881 rfl ?_
        refine wp_iconst dL_law_882 ?_
        refine wp_iadd dL_law_883 ?_
        obtain ⟨o243, h⟩ := h
        obtain ⟨o244, h⟩ := h
        obtain ⟨o245, h⟩ := h
        refine wp_sld dL_law_884 o243 o244 o245 ?_
        refine wp_callV (e1 := 0) (as := [Iv (M 0 (x3 + 1)), Iv (M 0 (x3 + 2))]) (S := []) dL_law_885 (cs_L_90 rfl) kd_1 rfl rfl (Nat.le_of_ble_eq_true rfl) (Nat.le_of_ble_eq_true rfl) h (fun v246 M246 q246 r246 => ?_)
        obtain ⟨z246, rfl⟩ := retV_i r246 rfl
        have h := q246
        refine wp_aload_n dL_law_888 rfl (by decide) ?_
        refine wp_aload_n dL_law_889 rfl (by decide) ?_
        refine wp_iload_n dL_law_890 rfl ?_
        refine wp_iconst dL_law_891 ?_
        refine wp_iadd dL_law_892 ?_
        obtain ⟨o247, h⟩ := h
        refine wp_sld dL_law_893 o240 o247 o242 ?_
        refine wp_aload_n dL_law_894 rfl (by decide) ?_
        refine wp_iload_n dL_law_895 rfl ?_
        refine wp_iconst dL_law_896 ?_
        refine wp_iadd dL_law_897 ?_
        obtain ⟨o248, h⟩ := h
        refine wp_sld dL_law_898 o243 o248 o245 ?_
        refine wp_callV (e1 := 0) (as := [Iv (M246 0 (x3 + 1)), Iv (M246 0 (x3 + 2))]) (S := [Iv z246]) dL_law_899 (cs_L_93 rfl) kd_88 rfl rfl (Nat.le_of_ble_eq_true rfl) (Nat.le_of_ble_eq_true rfl) h (fun v249 M249 q249 r249 => ?_)
        obtain ⟨z249, rfl⟩ := retV_i r249 rfl
        have h := q249
        obtain ⟨o250, h⟩ := h
        refine wp_icmp_eq (tgt := 1830) dL_law_902 (by decide) o250 (fun q251 => ?_) (fun q251 => ?_)
        · have h := h.1 q251
          refine wp_iinc (L2 := [some (Rv 0), some (Rv 1), some (Rv 88), some (Iv (x3 + 6))]) dL_law_1830 rfl (Nat.le_of_ble_eq_true rfl) (Nat.le_of_ble_eq_true rfl) rfl ?_
          refine wp_goto (tgt := 18) dL_law_1833 (by decide) ?_
          exact h
        · have h := h.2 q251
          refine wp_iconst dL_law_905 ?_
          exact wp_zret dL_law_906 rfl (Or.inr ⟨rfl, rfl, rfl, by decide⟩) rfl (by decide) h
      · refine wp_tableIn (off := 874) (tgt := 907) dL_law_33 o6 (by omega) (by omega) (by rw [q7]; rfl) (by decide) ?_
        have h := h.2.2.2.2.2.2.2.2.2.2.2.2.2.2.2.2.2.2.2.1 q7
        refine wp_aload_n dL_law_907 rfl (by decide) ?_
        refine wp_aload_n dL_law_908 rfl (by decide) ?_
        refine wp_iload_n dL_law_909 rfl ?_
        refine wp_iconst dL_law_910 ?_
        refine wp_iadd dL_law_911 ?_
        obtain ⟨o252, h⟩ := h
        obtain ⟨o253, h⟩ := h
        obtain ⟨o254, h⟩ := h
        refine wp_sld dL_law_912 o252 o253 o254 ?_
        refine wp_callV (e1 := 0) (as := [Iv (M 0 (x3 + 1))]) (S := []) dL_law_913 (cs_L_94 rfl) kd_1 rfl rfl (Nat.le_of_ble_eq_true rfl) (Nat.le_of_ble_eq_true rfl) h (fun v255 M255 q255 r255 => ?_)
        obtain ⟨z255, rfl⟩ := retV_i r255 rfl
        have h := q255
        refine wp_aload_n dL_law_916 rfl (by decide) ?_
        refine wp_aload_n dL_law_917 rfl (by decide) ?_
        refine wp_iload_n dL_law_918 rfl ?_
        refine wp_iconst dL_law_919 ?_
        refine wp_iadd dL_law_920 ?_
        obtain ⟨o256, h⟩ := h
        refine wp_sld dL_law_921 o252 o256 o254 ?_
        refine wp_callV (e1 := 0) (as := [Iv (M255 0 (x3 + 1))]) (S := [Iv z255]) dL_law_922 (cs_L_97 rfl) kd_88 rfl rfl (Nat.le_of_ble_eq_true rfl) (Nat.le_of_ble_eq_true rfl) h (fun v257 M257 q257 r257 => ?_)
        obtain ⟨z257, rfl⟩ := retV_i r257 rfl
        have h := q257
        obtain ⟨o258, h⟩ := h
        refine wp_icmp_eq (tgt := 1830) dL_law_925 (by decide) o258 (fun q259 => ?_) (fun q259 => ?_)
        · have h := h.1 q259
          refine wp_iinc (L2 := [some (Rv 0), some (Rv 1), some (Rv 88), some (Iv (x3 + 6))]) dL_law_1830 rfl (Nat.le_of_ble_eq_true rfl) (Nat.le_of_ble_eq_true rfl) rfl ?_
          refine wp_goto (tgt := 18) dL_law_1833 (by decide) ?_
          exact h
        · have h := h.2 q259
          refine wp_iconst dL_law_928 ?_
          exact wp_zret dL_law_929 rfl (Or.inr ⟨rfl, rfl, rfl, by decide⟩) rfl (by decide) h
      · refine wp_tableIn (off := 897) (tgt := 930) dL_law_33 o6 (by omega) (by omega) (by rw [q7]; rfl) (by decide) ?_
        have h := h.2.2.2.2.2.2.2.2.2.2.2.2.2.2.2.2.2.2.2.2.1 q7
        refine wp_aload_n dL_law_930 rfl (by decide) ?_
        refine wp_aload_n dL_law_931 rfl (by decide) ?_
        refine wp_iload_n dL_law_932 rfl ?_
        refine wp_iconst dL_law_933 ?_
        refine wp_iadd dL_law_934 ?_
        obtain ⟨o260, h⟩ := h
        obtain ⟨o261, h⟩ := h
        obtain ⟨o262, h⟩ := h
        refine wp_sld dL_law_935 o260 o261 o262 ?_
        refine wp_aload_n dL_law_936 rfl (by decide) ?_
        refine wp_iload_n dL_law_937 rfl ?_
        refine wp_iconst dL_law_938 ?_
        refine wp_iadd dL_law_939 ?_
        obtain ⟨o263, h⟩ := h
        obtain ⟨o264, h⟩ := h
        obtain ⟨o265, h⟩ := h
        refine wp_sld dL_law_940 o263 o264 o265 ?_
        refine wp_callV (e1 := 0) (as := [Iv (M 0 (x3 + 1)), Iv (M 0 (x3 + 2))]) (S := []) dL_law_941 (cs_L_98 rfl) kd_1 rfl rfl (Nat.le_of_ble_eq_true rfl) (Nat.le_of_ble_eq_true rfl) h (fun v266 M266 q266 r266 => ?_)
        obtain ⟨z266, rfl⟩ := retV_i r266 rfl
        have h := q266
        refine wp_aload_n dL_law_944 rfl (by decide) ?_
        refine wp_aload_n dL_law_945 rfl (by decide) ?_
        refine wp_iload_n dL_law_946 rfl ?_
        refine wp_iconst dL_law_947 ?_
        refine wp_iadd dL_law_948 ?_
        obtain ⟨o267, h⟩ := h
        refine wp_sld dL_law_949 o260 o267 o262 ?_
        refine wp_aload_n dL_law_950 rfl (by decide) ?_
        refine wp_iload_n dL_law_951 rfl ?_
        refine wp_iconst dL_law_952 ?_
        refine wp_iadd dL_law_953 ?_
        obtain ⟨o268, h⟩ := h
        refine wp_sld dL_law_954 o263 o268 o265 ?_
        refine wp_callV (e1 := 0) (as := [Iv (M266 0 (x3 + 1)), Iv (M266 0 (x3 + 2))]) (S := [Iv z266]) dL_law_955 (cs_L_101 rfl) kd_88 rfl rfl (Nat.le_of_ble_eq_true rfl) (Nat.le_of_ble_eq_true rfl) h (fun v269 M269 q269 r269 => ?_)
        obtain ⟨z269, rfl⟩ := retV_i r269 rfl
        have h := q269
        obtain ⟨o270, h⟩ := h
        refine wp_icmp_eq (tgt := 1830) dL_law_958 (by decide) o270 (fun q271 => ?_) (fun q271 => ?_)
        · have h := h.1 q271
          refine wp_iinc (L2 := [some (Rv 0), some (Rv 1), some (Rv 88), some (Iv (x3 + 6))]) dL_law_1830 rfl (Nat.le_of_ble_eq_true rfl) (Nat.le_of_ble_eq_true rfl) rfl ?_
          refine wp_goto (tgt := 18) dL_law_1833 (by decide) ?_
          exact h
        · have h := h.2 q271
          refine wp_iconst dL_law_961 ?_
          exact wp_zret dL_law_962 rfl (Or.inr ⟨rfl, rfl, rfl, by decide⟩) rfl (by decide) h
      · refine wp_tableIn (off := 930) (tgt := 963) dL_law_33 o6 (by omega) (by omega) (by rw [q7]; rfl) (by decide) ?_
        have h := h.2.2.2.2.2.2.2.2.2.2.2.2.2.2.2.2.2.2.2.2.2.1 q7
        refine wp_aload_n dL_law_963 rfl (by decide) ?_
        refine wp_aload_n dL_law_964 rfl (by decide) ?_
        refine wp_iload_n dL_law_965 rfl ?_
        refine wp_iconst dL_law_966 ?_
        refine wp_iadd dL_law_967 ?_
        obtain ⟨o272, h⟩ := h
        obtain ⟨o273, h⟩ := h
        obtain ⟨o274, h⟩ := h
        refine wp_sld dL_law_968 o272 o273 o274 ?_
        refine wp_aload_n dL_law_969 rfl (by decide) ?_
        refine wp_iload_n dL_law_970 rfl ?_
        refine wp_iconst dL_law_971 ?_
        refine wp_iadd dL_law_972 ?_
        obtain ⟨o275, h⟩ := h
        obtain ⟨o276, h⟩ := h
        obtain ⟨o277, h⟩ := h
        refine wp_sld dL_law_973 o275 o276 o277 ?_
        refine wp_callV (e1 := 0) (as := [Iv (M 0 (x3 + 1)), Iv (M 0 (x3 + 2))]) (S := []) dL_law_974 (cs_L_102 rfl) kd_1 rfl rfl (Nat.le_of_ble_eq_true rfl) (Nat.le_of_ble_eq_true rfl) h (fun v278 M278 q278 r278 => ?_)
        obtain ⟨z278, rfl⟩ := retV_i r278 rfl
        have h := q278
        refine wp_aload_n dL_law_977 rfl (by decide) ?_
        refine wp_aload_n dL_law_978 rfl (by decide) ?_
        refine wp_iload_n dL_law_979 rfl ?_
        refine wp_iconst dL_law_980 ?_
        refine wp_iadd dL_law_981 ?_
        obtain ⟨o279, h⟩ := h
        refine wp_sld dL_law_982 o272 o279 o274 ?_
        refine wp_aload_n dL_law_983 rfl (by decide) ?_
        refine wp_iload_n dL_law_984 rfl ?_
        refine wp_iconst dL_law_985 ?_
        refine wp_iadd dL_law_986 ?_
        obtain ⟨o280, h⟩ := h
        refine wp_sld dL_law_987 o275 o280 o277 ?_
        refine wp_callV (e1 := 0) (as := [Iv (M278 0 (x3 + 1)), Iv (M278 0 (x3 + 2))]) (S := [Iv z278]) dL_law_988 (cs_L_105 rfl) kd_88 rfl rfl (Nat.le_of_ble_eq_true rfl) (Nat.le_of_ble_eq_true rfl) h (fun v281 M281 q281 r281 => ?_)
        obtain ⟨z281, rfl⟩ := retV_i r281 rfl
        have h := q281
        obtain ⟨o282, h⟩ := h
        refine wp_icmp_eq (tgt := 1830) dL_law_991 (by decide) o282 (fun q283 => ?_) (fun q283 => ?_)
        · have h := h.1 q283
          refine wp_iinc (L2 := [some (Rv 0), some (Rv 1), some (Rv 88), some (Iv (x3 + 6))]) dL_law_1830 rfl (Nat.le_of_ble_eq_true rfl) (Nat.le_of_ble_eq_true rfl) rfl ?_
          refine wp_goto (tgt := 18) dL_law_1833 (by decide) ?_
          exact h
        · have h := h.2 q283
          refine wp_iconst dL_law_994 ?_
          exact wp_zret dL_law_995 rfl (Or.inr ⟨rfl, rfl, rfl, by decide⟩) rfl (by decide) h
      · refine wp_tableIn (off := 963) (tgt := 996) dL_law_33 o6 (by omega) (by omega) (by rw [q7]; rfl) (by decide) ?_
        have h := h.2.2.2.2.2.2.2.2.2.2.2.2.2.2.2.2.2.2.2.2.2.2.1 q7
        refine wp_aload_n dL_law_996 rfl (by decide) ?_
        refine wp_aload_n dL_law_997 rfl (by decide) ?_
        refine wp_iload_n dL_law_998 rfl ?_
        refine wp_iconst dL_law_999 ?_
        refine wp_iadd dL_law_1000 ?_
        obtain ⟨o284, h⟩ := h
        obtain ⟨o285, h⟩ := h
        obtain ⟨o286, h⟩ := h
        refine wp_sld dL_law_1001 o284 o285 o286 ?_
        refine wp_aload_n dL_law_1002 rfl (by decide) ?_
        refine wp_iload_n dL_law_1003 rfl ?_
        refine wp_iconst dL_law_1004 ?_
        refine wp_iadd dL_law_1005 ?_
        obtain ⟨o287, h⟩ := h
        obtain ⟨o288, h⟩ := h
        obtain ⟨o289, h⟩ := h
        refine wp_sld dL_law_1006 o287 o288 o289 ?_
        refine wp_aload_n dL_law_1007 rfl (by decide) ?_
        refine wp_iload_n dL_law_1008 rfl ?_
        refine wp_iconst dL_law_1009 ?_
        refine wp_iadd dL_law_1010 ?_
        obtain ⟨o290, h⟩ := h
        obtain ⟨o291, h⟩ := h
        obtain ⟨o292, h⟩ := h
        refine wp_sld dL_law_1011 o290 o291 o292 ?_
        refine wp_aload_n dL_law_1012 rfl (by decide) ?_
        refine wp_iload_n dL_law_1013 rfl ?_
        refine wp_iconst dL_law_1014 ?_
        refine wp_iadd dL_law_1015 ?_
        obtain ⟨o293, h⟩ := h
        obtain ⟨o294, h⟩ := h
        obtain ⟨o295, h⟩ := h
        refine wp_sld dL_law_1016 o293 o294 o295 ?_
        obtain ⟨o296, h⟩ := h
        refine wp_if_eq (tgt := 1024) dL_law_1017 (by decide) o296 (fun q297 => ?_) (fun q297 => ?_)
        · have h := h.1 q297
          refine wp_iconst dL_law_1024 ?_
          refine wp_callV (e1 := 0) (as := [Iv (M 0 (x3 + 1)), Iv (M 0 (x3 + 2)), Iv (M 0 (x3 + 3)), Iv 0]) (S := []) dL_law_1025 (cs_L_106 rfl) kd_1 rfl rfl (Nat.le_of_ble_eq_true rfl) (Nat.le_of_ble_eq_true rfl) h (fun v298 M298 q298 r298 => ?_)
          obtain ⟨z298, rfl⟩ := retV_i r298 rfl
          have h := q298
          refine wp_aload_n dL_law_1028 rfl (by decide) ?_
          refine wp_aload_n dL_law_1029 rfl (by decide) ?_
          refine wp_iload_n dL_law_1030 rfl ?_
          refine wp_iconst dL_law_1031 ?_
          refine wp_iadd dL_law_1032 ?_
          obtain ⟨o299, h⟩ := h
          refine wp_sld dL_law_1033 o284 o299 o286 ?_
          refine wp_aload_n dL_law_1034 rfl (by decide) ?_
          refine wp_iload_n dL_law_1035 rfl ?_
          refine wp_iconst dL_law_1036 ?_
          refine wp_iadd dL_law_1037 ?_
          obtain ⟨o300, h⟩ := h
          refine wp_sld dL_law_1038 o287 o300 o289 ?_
          refine wp_aload_n dL_law_1039 rfl (by decide) ?_
          refine wp_iload_n dL_law_1040 rfl ?_
          refine wp_iconst dL_law_1041 ?_
          refine wp_iadd dL_law_1042 ?_
          obtain ⟨o301, h⟩ := h
          refine wp_sld dL_law_1043 o290 o301 o292 ?_
          refine wp_aload_n dL_law_1044 rfl (by decide) ?_
          refine wp_iload_n dL_law_1045 rfl ?_
          refine wp_iconst dL_law_1046 ?_
          refine wp_iadd dL_law_1047 ?_
          obtain ⟨o302, h⟩ := h
          refine wp_sld dL_law_1048 o293 o302 o295 ?_
          obtain ⟨o303, h⟩ := h
          refine wp_if_eq (tgt := 1056) dL_law_1049 (by decide) o303 (fun q304 => ?_) (fun q304 => ?_)
          · have h := h.1 q304
            refine wp_iconst dL_law_1056 ?_
            refine wp_callV (e1 := 0) (as := [Iv (M298 0 (x3 + 1)), Iv (M298 0 (x3 + 2)), Iv (M298 0 (x3 + 3)), Iv 0]) (S := [Iv z298]) dL_law_1057 (cs_L_110 rfl) kd_88 rfl rfl (Nat.le_of_ble_eq_true rfl) (Nat.le_of_ble_eq_true rfl) h (fun v305 M305 q305 r305 => ?_)
            obtain ⟨z305, rfl⟩ := retV_i r305 rfl
            have h := q305
            obtain ⟨o306, h⟩ := h
            refine wp_icmp_eq (tgt := 1830) dL_law_1060 (by decide) o306 (fun q307 => ?_) (fun q307 => ?_)
            · have h := h.1 q307
              refine wp_iinc (L2 := [some (Rv 0), some (Rv 1), some (Rv 88), some (Iv (x3 + 6))]) dL_law_1830 rfl (Nat.le_of_ble_eq_true rfl) (Nat.le_of_ble_eq_true rfl) rfl ?_
              refine wp_goto (tgt := 18) dL_law_1833 (by decide) ?_
              exact h
            · have h := h.2 q307
              refine wp_iconst dL_law_1063 ?_
              exact wp_zret dL_law_1064 rfl (Or.inr ⟨rfl, rfl, rfl, by decide⟩) rfl (by decide) h
          · have h := h.2 q304
            refine wp_iconst dL_law_1052 ?_
            refine wp_goto (tgt := 1057) dL_law_1053 (by decide) ?_
            refine wp_callV (e1 := 0) (as := [Iv (M298 0 (x3 + 1)), Iv (M298 0 (x3 + 2)), Iv (M298 0 (x3 + 3)), Iv 1]) (S := [Iv z298]) dL_law_1057 (cs_L_110 rfl) kd_88 rfl rfl (Nat.le_of_ble_eq_true rfl) (Nat.le_of_ble_eq_true rfl) h (fun v308 M308 q308 r308 => ?_)
            obtain ⟨z308, rfl⟩ := retV_i r308 rfl
            have h := q308
            obtain ⟨o309, h⟩ := h
            refine wp_icmp_eq (tgt := 1830) dL_law_1060 (by decide) o309 (fun q310 => ?_) (fun q310 => ?_)
            · have h := h.1 q310
              refine wp_iinc (L2 := [some (Rv 0), some (Rv 1), some (Rv 88), some (Iv (x3 + 6))]) dL_law_1830 rfl (Nat.le_of_ble_eq_true rfl) (Nat.le_of_ble_eq_true rfl) rfl ?_
              refine wp_goto (tgt := 18) dL_law_1833 (by decide) ?_
              exact h
            · have h := h.2 q310
              refine wp_iconst dL_law_1063 ?_
              exact wp_zret dL_law_1064 rfl (Or.inr ⟨rfl, rfl, rfl, by decide⟩) rfl (by decide) h
        · have h := h.2 q297
          refine wp_iconst dL_law_1020 ?_
          refine wp_goto (tgt := 1025) dL_law_1021 (by decide) ?_
          refine wp_callV (e1 := 0) (as := [Iv (M 0 (x3 + 1)), Iv (M 0 (x3 + 2)), Iv (M 0 (x3 + 3)), Iv 1]) (S := []) dL_law_1025 (cs_L_106 rfl) kd_1 rfl rfl (Nat.le_of_ble_eq_true rfl) (Nat.le_of_ble_eq_true rfl) h (fun v311 M311 q311 r311 => ?_)
          obtain ⟨z311, rfl⟩ := retV_i r311 rfl
          have h := q311
          refine wp_aload_n dL_law_1028 rfl (by decide) ?_
          refine wp_aload_n dL_law_1029 rfl (by decide) ?_
          refine wp_iload_n dL_law_1030 rfl ?_
          refine wp_iconst dL_law_1031 ?_
          refine wp_iadd dL_law_1032 ?_
          obtain ⟨o312, h⟩ := h
          refine wp_sld dL_law_1033 o284 o312 o286 ?_
          refine wp_aload_n dL_law_1034 rfl (by decide) ?_
          refine wp_iload_n dL_law_1035 rfl ?_
          refine wp_iconst dL_law_1036 ?_
          refine wp_iadd dL_law_1037 ?_
          obtain ⟨o313, h⟩ := h
          refine wp_sld dL_law_1038 o287 o313 o289 ?_
          refine wp_aload_n dL_law_1039 rfl (by decide) ?_
          refine wp_iload_n dL_law_1040 rfl ?_
          refine wp_iconst dL_law_1041 ?_
          refine wp_iadd dL_law_1042 ?_
          obtain ⟨o314, h⟩ := h
          refine wp_sld dL_law_1043 o290 o314 o292 ?_
          refine wp_aload_n dL_law_1044 rfl (by decide) ?_
          refine wp_iload_n dL_law_1045 rfl ?_
          refine wp_iconst dL_law_1046 ?_
          refine wp_iadd dL_law_1047 ?_
          obtain ⟨o315, h⟩ := h
          refine wp_sld dL_law_1048 o293 o315 o295 ?_
          obtain ⟨o316, h⟩ := h
          refine wp_if_eq (tgt := 1056) dL_law_1049 (by decide) o316 (fun q317 => ?_) (fun q317 => ?_)
          · have h := h.1 q317
            refine wp_iconst dL_law_1056 ?_
            refine wp_callV (e1 := 0) (as := [Iv (M311 0 (x3 + 1)), Iv (M311 0 (x3 + 2)), Iv (M311 0 (x3 + 3)), Iv 0]) (S := [Iv z311]) dL_law_1057 (cs_L_110 rfl) kd_88 rfl rfl (Nat.le_of_ble_eq_true rfl) (Nat.le_of_ble_eq_true rfl) h (fun v318 M318 q318 r318 => ?_)
            obtain ⟨z318, rfl⟩ := retV_i r318 rfl
            have h := q318
            obtain ⟨o319, h⟩ := h
            refine wp_icmp_eq (tgt := 1830) dL_law_1060 (by decide) o319 (fun q320 => ?_) (fun q320 => ?_)
            · have h := h.1 q320
              refine wp_iinc (L2 := [some (Rv 0), some (Rv 1), some (Rv 88), some (Iv (x3 + 6))]) dL_law_1830 rfl (Nat.le_of_ble_eq_true rfl) (Nat.le_of_ble_eq_true rfl) rfl ?_
              refine wp_goto (tgt := 18) dL_law_1833 (by decide) ?_
              exact h
            · have h := h.2 q320
              refine wp_iconst dL_law_1063 ?_
              exact wp_zret dL_law_1064 rfl (Or.inr ⟨rfl, rfl, rfl, by decide⟩) rfl (by decide) h
          · have h := h.2 q317
            refine wp_iconst dL_law_1052 ?_
            refine wp_goto (tgt := 1057) dL_law_1053 (by decide) ?_
            refine wp_callV (e1 := 0) (as := [Iv (M311 0 (x3 + 1)), Iv (M311 0 (x3 + 2)), Iv (M311 0 (x3 + 3)), Iv 1]) (S := [Iv z311]) dL_law_1057 (cs_L_110 rfl) kd_88 rfl rfl (Nat.le_of_ble_eq_true rfl) (Nat.le_of_ble_eq_true rfl) h (fun v321 M321 q321 r321 => ?_)
            obtain ⟨z321, rfl⟩ := retV_i r321 rfl
            have h := q321
            obtain ⟨o322, h⟩ := h
            refine wp_icmp_eq (tgt := 1830) dL_law_1060 (by decide) o322 (fun q323 => ?_) (fun q323 => ?_)
            · have h := h.1 q323
              refine wp_iinc (L2 := [some (Rv 0), some (Rv 1), some (Rv 88), some (Iv (x3 + 6))]) dL_law_1830 rfl (Nat.le_of_ble_eq_true rfl) (Nat.le_of_ble_eq_true rfl) rfl ?_
              refine wp_goto (tgt := 18) dL_law_1833 (by decide) ?_
              exact h
            · have h := h.2 q323
              refine wp_iconst dL_law_1063 ?_
              exact wp_zret dL_law_1064 rfl (Or.inr ⟨rfl, rfl, rfl, by decide⟩) rfl (by decide) h
      · refine wp_tableIn (off := 1032) (tgt := 1065) dL_law_33 o6 (by omega) (by omega) (by rw [q7]; rfl) (by decide) ?_
        have h := h.2.2.2.2.2.2.2.2.2.2.2.2.2.2.2.2.2.2.2.2.2.2.2.1 q7
        refine wp_aload_n dL_law_1065 rfl (by decide) ?_
        refine wp_aload_n dL_law_1066 rfl (by decide) ?_
        refine wp_iload_n dL_law_1067 rfl ?_
        refine wp_iconst dL_law_1068 ?_
        refine wp_iadd dL_law_1069 ?_
        obtain ⟨o324, h⟩ := h
        obtain ⟨o325, h⟩ := h
        obtain ⟨o326, h⟩ := h
        refine wp_sld dL_law_1070 o324 o325 o326 ?_
        refine wp_aload_n dL_law_1071 rfl (by decide) ?_
        refine wp_iload_n dL_law_1072 rfl ?_
        refine wp_iconst dL_law_1073 ?_
        refine wp_iadd dL_law_1074 ?_
        obtain ⟨o327, h⟩ := h
        obtain ⟨o328, h⟩ := h
        obtain ⟨o329, h⟩ := h
        refine wp_sld dL_law_1075 o327 o328 o329 ?_
        refine wp_aload_n dL_law_1076 rfl (by decide) ?_
        refine wp_iload_n dL_law_1077 rfl ?_
        refine wp_iconst dL_law_1078 ?_
        refine wp_iadd dL_law_1079 ?_
        obtain ⟨o330, h⟩ := h
        obtain ⟨o331, h⟩ := h
        obtain ⟨o332, h⟩ := h
        refine wp_sld dL_law_1080 o330 o331 o332 ?_
        obtain ⟨o333, h⟩ := h
        refine wp_if_eq (tgt := 1088) dL_law_1081 (by decide) o333 (fun q334 => ?_) (fun q334 => ?_)
        · have h := h.1 q334
          refine wp_iconst dL_law_1088 ?_
          refine wp_callV (e1 := 0) (as := [Iv (M 0 (x3 + 1)), Iv (M 0 (x3 + 2)), Iv 0]) (S := []) dL_law_1089 (cs_L_111 rfl) kd_1 rfl rfl (Nat.le_of_ble_eq_true rfl) (Nat.le_of_ble_eq_true rfl) h (fun v335 M335 q335 r335 => ?_)
          obtain ⟨z335, rfl⟩ := retV_i r335 rfl
          have h := q335
          refine wp_aload_n dL_law_1092 rfl (by decide) ?_
          refine wp_aload_n dL_law_1093 rfl (by decide) ?_
          refine wp_iload_n dL_law_1094 rfl ?_
          refine wp_iconst dL_law_1095 ?_
          refine wp_iadd dL_law_1096 ?_
          obtain ⟨o336, h⟩ := h
          refine wp_sld dL_law_1097 o324 o336 o326 ?_
          refine wp_aload_n dL_law_1098 rfl (by decide) ?_
          refine wp_iload_n dL_law_1099 rfl ?_
          refine wp_iconst dL_law_1100 ?_
          refine wp_iadd dL_law_1101 ?_
          obtain ⟨o337, h⟩ := h
          refine wp_sld dL_law_1102 o327 o337 o329 ?_
          refine wp_aload_n dL_law_1103 rfl (by decide) ?_
          refine wp_iload_n dL_law_1104 rfl ?_
          refine wp_iconst dL_law_1105 ?_
          refine wp_iadd dL_law_1106 ?_
          obtain ⟨o338, h⟩ := h
          refine wp_sld dL_law_1107 o330 o338 o332 ?_
          obtain ⟨o339, h⟩ := h
          refine wp_if_eq (tgt := 1115) dL_law_1108 (by decide) o339 (fun q340 => ?_) (fun q340 => ?_)
          · have h := h.1 q340
            refine wp_iconst dL_law_1115 ?_
            refine wp_callV (e1 := 0) (as := [Iv (M335 0 (x3 + 1)), Iv (M335 0 (x3 + 2)), Iv 0]) (S := [Iv z335]) dL_law_1116 (cs_L_115 rfl) kd_88 rfl rfl (Nat.le_of_ble_eq_true rfl) (Nat.le_of_ble_eq_true rfl) h (fun v341 M341 q341 r341 => ?_)
            obtain ⟨z341, rfl⟩ := retV_i r341 rfl
            have h := q341
            obtain ⟨o342, h⟩ := h
            refine wp_icmp_eq (tgt := 1830) dL_law_1119 (by decide) o342 (fun q343 => ?_) (fun q343 => ?_)
            · have h := h.1 q343
              refine wp_iinc (L2 := [some (Rv 0), some (Rv 1), some (Rv 88), some (Iv (x3 + 6))]) dL_law_1830 rfl (Nat.le_of_ble_eq_true rfl) (Nat.le_of_ble_eq_true rfl) rfl ?_
              refine wp_goto (tgt := 18) dL_law_1833 (by decide) ?_
              exact h
            · have h := h.2 q343
              refine wp_iconst dL_law_1122 ?_
              exact wp_zret dL_law_1123 rfl (Or.inr ⟨rfl, rfl, rfl, by decide⟩) rfl (by decide) h
          · have h := h.2 q340
            refine wp_iconst dL_law_1111 ?_
            refine wp_goto (tgt := 1116) dL_law_1112 (by decide) ?_
            refine wp_callV (e1 := 0) (as := [Iv (M335 0 (x3 + 1)), Iv (M335 0 (x3 + 2)), Iv 1]) (S := [Iv z335]) dL_law_1116 (cs_L_115 rfl) kd_88 rfl rfl (Nat.le_of_ble_eq_true rfl) (Nat.le_of_ble_eq_true rfl) h (fun v344 M344 q344 r344 => ?_)
            obtain ⟨z344, rfl⟩ := retV_i r344 rfl
            have h := q344
            obtain ⟨o345, h⟩ := h
            refine wp_icmp_eq (tgt := 1830) dL_law_1119 (by decide) o345 (fun q346 => ?_) (fun q346 => ?_)
            · have h := h.1 q346
              refine wp_iinc (L2 := [some (Rv 0), some (Rv 1), some (Rv 88), some (Iv (x3 + 6))]) dL_law_1830 rfl (Nat.le_of_ble_eq_true rfl) (Nat.le_of_ble_eq_true rfl) rfl ?_
              refine wp_goto (tgt := 18) dL_law_1833 (by decide) ?_
              exact h
            · have h := h.2 q346
              refine wp_iconst dL_law_1122 ?_
              exact wp_zret dL_law_1123 rfl (Or.inr ⟨rfl, rfl, rfl, by decide⟩) rfl (by decide) h
        · have h := h.2 q334
          refine wp_iconst dL_law_1084 ?_
          refine wp_goto (tgt := 1089) dL_law_1085 (by decide) ?_
          refine wp_callV (e1 := 0) (as := [Iv (M 0 (x3 + 1)), Iv (M 0 (x3 + 2)), Iv 1]) (S := []) dL_law_1089 (cs_L_111 rfl) kd_1 rfl rfl (Nat.le_of_ble_eq_true rfl) (Nat.le_of_ble_eq_true rfl) h (fun v347 M347 q347 r347 => ?_)
          obtain ⟨z347, rfl⟩ := retV_i r347 rfl
          have h := q347
          refine wp_aload_n dL_law_1092 rfl (by decide) ?_
          refine wp_aload_n dL_law_1093 rfl (by decide) ?_
          refine wp_iload_n dL_law_1094 rfl ?_
          refine wp_iconst dL_law_1095 ?_
          refine wp_iadd dL_law_1096 ?_
          obtain ⟨o348, h⟩ := h
          refine wp_sld dL_law_1097 o324 o348 o326 ?_
          refine wp_aload_n dL_law_1098 rfl (by decide) ?_
          refine wp_iload_n dL_law_1099 rfl ?_
          refine wp_iconst dL_law_1100 ?_
          refine wp_iadd dL_law_1101 ?_
          obtain ⟨o349, h⟩ := h
          refine wp_sld dL_law_1102 o327 o349 o329 ?_
          refine wp_aload_n dL_law_1103 rfl (by decide) ?_
          refine wp_iload_n dL_law_1104 rfl ?_
          refine wp_iconst dL_law_1105 ?_
          refine wp_iadd dL_law_1106 ?_
          obtain ⟨o350, h⟩ := h
          refine wp_sld dL_law_1107 o330 o350 o332 ?_
          obtain ⟨o351, h⟩ := h
          refine wp_if_eq (tgt := 1115) dL_law_1108 (by decide) o351 (fun q352 => ?_) (fun q352 => ?_)
          · have h := h.1 q352
            refine wp_iconst dL_law_1115 ?_
            refine wp_callV (e1 := 0) (as := [Iv (M347 0 (x3 + 1)), Iv (M347 0 (x3 + 2)), Iv 0]) (S := [Iv z347]) dL_law_1116 (cs_L_115 rfl) kd_88 rfl rfl (Nat.le_of_ble_eq_true rfl) (Nat.le_of_ble_eq_true rfl) h (fun v353 M353 q353 r353 => ?_)
            obtain ⟨z353, rfl⟩ := retV_i r353 rfl
            have h := q353
            obtain ⟨o354, h⟩ := h
            refine wp_icmp_eq (tgt := 1830) dL_law_1119 (by decide) o354 (fun q355 => ?_) (fun q355 => ?_)
            · have h := h.1 q355
              refine wp_iinc (L2 := [some (Rv 0), some (Rv 1), some (Rv 88), some (Iv (x3 + 6))]) dL_law_1830 rfl (Nat.le_of_ble_eq_true rfl) (Nat.le_of_ble_eq_true rfl) rfl ?_
              refine wp_goto (tgt := 18) dL_law_1833 (by decide) ?_
              exact h
            · have h := h.2 q355
              refine wp_iconst dL_law_1122 ?_
              exact wp_zret dL_law_1123 rfl (Or.inr ⟨rfl, rfl, rfl, by decide⟩) rfl (by decide) h
          · have h := h.2 q352
            refine wp_iconst dL_law_1111 ?_
            refine wp_goto (tgt := 1116) dL_law_1112 (by decide) ?_
            refine wp_callV (e1 := 0) (as := [Iv (M347 0 (x3 + 1)), Iv (M347 0 (x3 + 2)), Iv 1]) (S := [Iv z347]) dL_law_1116 (cs_L_115 rfl) kd_88 rfl rfl (Nat.le_of_ble_eq_true rfl) (Nat.le_of_ble_eq_true rfl) h (fun v356 M356 q356 r356 => ?_)
            obtain ⟨z356, rfl⟩ := retV_i r356 rfl
            have h := q356
            obtain ⟨o357, h⟩ := h
            refine wp_icmp_eq (tgt := 1830) dL_law_1119 (by decide) o357 (fun q358 => ?_) (fun q358 => ?_)
            · have h := h.1 q358
              refine wp_iinc (L2 := [some (Rv 0), some (Rv 1), some (Rv 88), some (Iv (x3 + 6))]) dL_law_1830 rfl (Nat.le_of_ble_eq_true rfl) (Nat.le_of_ble_eq_true rfl) rfl ?_
              refine wp_goto (tgt := 18) dL_law_1833 (by decide) ?_
              exact h
            · have h := h.2 q358
              refine wp_iconst dL_law_1122 ?_
              exact wp_zret dL_law_1123 rfl (Or.inr ⟨rfl, rfl, rfl, by decide⟩) rfl (by decide) h
      · refine wp_tableIn (off := 1091) (tgt := 1124) dL_law_33 o6 (by omega) (by omega) (by rw [q7]; rfl) (by decide) ?_
        have h := h.2.2.2.2.2.2.2.2.2.2.2.2.2.2.2.2.2.2.2.2.2.2.2.2.1 q7
        refine wp_aload_n dL_law_1124 rfl (by decide) ?_
        refine wp_aload_n dL_law_1125 rfl (by decide) ?_
        refine wp_iload_n dL_law_1126 rfl ?_
        refine wp_iconst dL_law_1127 ?_
        refine wp_iadd dL_law_1128 ?_
        obtain ⟨o359, h⟩ := h
        obtain ⟨o360, h⟩ := h
        obtain ⟨o361, h⟩ := h
        refine wp_sld dL_law_1129 o359 o360 o361 ?_
        refine wp_aload_n dL_law_1130 rfl (by decide) ?_
        refine wp_iload_n dL_law_1131 rfl ?_
        refine wp_iconst dL_law_1132 ?_
        refine wp_iadd dL_law_1133 ?_
        obtain ⟨o362, h⟩ := h
        obtain ⟨o363, h⟩ := h
        obtain ⟨o364, h⟩ := h
        refine wp_sld dL_law_1134 o362 o363 o364 ?_
        refine wp_aload_n dL_law_1135 rfl (by decide) ?_
        refine wp_iload_n dL_law_1136 rfl ?_
        refine wp_iconst dL_law_1137 ?_
        refine wp_iadd dL_law_1138 ?_
        obtain ⟨o365, h⟩ := h
        obtain ⟨o366, h⟩ := h
        obtain ⟨o367, h⟩ := h
        refine wp_sld dL_law_1139 o365 o366 o367 ?_
        refine wp_callV (e1 := 0) (as := [Iv (M 0 (x3 + 1)), Iv (M 0 (x3 + 2)), Iv (M 0 (x3 + 3))]) (S := []) dL_law_1140 (cs_L_116 rfl) kd_1 rfl rfl (Nat.le_of_ble_eq_true rfl) (Nat.le_of_ble_eq_true rfl) h (fun v368 M368 q368 r368 => ?_)
        obtain ⟨z368, rfl⟩ := retV_i r368 rfl
        have h := q368
        refine wp_aload_n dL_law_1143 rfl (by decide) ?_
        refine wp_aload_n dL_law_1144 rfl (by decide) ?_
        refine wp_iload_n dL_law_1145 rfl ?_
        refine wp_iconst dL_law_1146 ?_
        refine wp_iadd dL_law_1147 ?_
        obtain ⟨o369, h⟩ := h
        refine wp_sld dL_law_1148 o359 o369 o361 ?_
        refine wp_aload_n dL_law_1149 rfl (by decide) ?_
        refine wp_iload_n dL_law_1150 rfl ?_
        refine wp_iconst dL_law_1151 ?_
        refine wp_iadd dL_law_1152 ?_
        obtain ⟨o370, h⟩ := h
        refine wp_sld dL_law_1153 o362 o370 o364 ?_
        refine wp_aload_n dL_law_1154 rfl (by decide) ?_
        refine wp_iload_n dL_law_1155 rfl ?_
        refine wp_iconst dL_law_1156 ?_
        refine wp_iadd dL_law_1157 ?_
        obtain ⟨o371, h⟩ := h
        refine wp_sld dL_law_1158 o365 o371 o367 ?_
        refine wp_callV (e1 := 0) (as := [Iv (M368 0 (x3 + 1)), Iv (M368 0 (x3 + 2)), Iv (M368 0 (x3 + 3))]) (S := [Iv z368]) dL_law_1159 (cs_L_119 rfl) kd_88 rfl rfl (Nat.le_of_ble_eq_true rfl) (Nat.le_of_ble_eq_true rfl) h (fun v372 M372 q372 r372 => ?_)
        obtain ⟨z372, rfl⟩ := retV_i r372 rfl
        have h := q372
        obtain ⟨o373, h⟩ := h
        refine wp_icmp_eq (tgt := 1830) dL_law_1162 (by decide) o373 (fun q374 => ?_) (fun q374 => ?_)
        · have h := h.1 q374
          refine wp_iinc (L2 := [some (Rv 0), some (Rv 1), some (Rv 88), some (Iv (x3 + 6))]) dL_law_1830 rfl (Nat.le_of_ble_eq_true rfl) (Nat.le_of_ble_eq_true rfl) rfl ?_
          refine wp_goto (tgt := 18) dL_law_1833 (by decide) ?_
          exact h
        · have h := h.2 q374
          refine wp_iconst dL_law_1165 ?_
          exact wp_zret dL_law_1166 rfl (Or.inr ⟨rfl, rfl, rfl, by decide⟩) rfl (by decide) h
      · refine wp_tableIn (off := 1134) (tgt := 1167) dL_law_33 o6 (by omega) (by omega) (by rw [q7]; rfl) (by decide) ?_
        have h := h.2.2.2.2.2.2.2.2.2.2.2.2.2.2.2.2.2.2.2.2.2.2.2.2.2.1 q7
        refine wp_aload_n dL_law_1167 rfl (by decide) ?_
        refine wp_aload_n dL_law_1168 rfl (by decide) ?_
        refine wp_iload_n dL_law_1169 rfl ?_
        refine wp_iconst dL_law_1170 ?_
        refine wp_iadd dL_law_1171 ?_
        obtain ⟨o375, h⟩ := h
        obtain ⟨o376, h⟩ := h
        obtain ⟨o377, h⟩ := h
        refine wp_sld dL_law_1172 o375 o376 o377 ?_
        refine wp_aload_n dL_law_1173 rfl (by decide) ?_
        refine wp_iload_n dL_law_1174 rfl ?_
        refine wp_iconst dL_law_1175 ?_
        refine wp_iadd dL_law_1176 ?_
        obtain ⟨o378, h⟩ := h
        obtain ⟨o379, h⟩ := h
        obtain ⟨o380, h⟩ := h
        refine wp_sld dL_law_1177 o378 o379 o380 ?_
        refine wp_callV (e1 := 0) (as := [Iv (M 0 (x3 + 1)), Iv (M 0 (x3 + 2))]) (S := []) dL_law_1178 (cs_L_120 rfl) kd_1 rfl rfl (Nat.le_of_ble_eq_true rfl) (Nat.le_of_ble_eq_true rfl) h (fun v381 M381 q381 r381 => ?_)
        obtain ⟨z381, rfl⟩ := retV_i r381 rfl
        have h := q381
        refine wp_aload_n dL_law_1181 rfl (by decide) ?_
        refine wp_aload_n dL_law_1182 rfl (by decide) ?_
        refine wp_iload_n dL_law_1183 rfl ?_
        refine wp_iconst dL_law_1184 ?_
        refine wp_iadd dL_law_1185 ?_
        obtain ⟨o382, h⟩ := h
        refine wp_sld dL_law_1186 o375 o382 o377 ?_
        refine wp_aload_n dL_law_1187 rfl (by decide) ?_
        refine wp_iload_n dL_law_1188 rfl ?_
        refine wp_iconst dL_law_1189 ?_
        refine wp_iadd dL_law_1190 ?_
        obtain ⟨o383, h⟩ := h
        refine wp_sld dL_law_1191 o378 o383 o380 ?_
        refine wp_callV (e1 := 0) (as := [Iv (M381 0 (x3 + 1)), Iv (M381 0 (x3 + 2))]) (S := [Iv z381]) dL_law_1192 (cs_L_123 rfl) kd_88 rfl rfl (Nat.le_of_ble_eq_true rfl) (Nat.le_of_ble_eq_true rfl) h (fun v384 M384 q384 r384 => ?_)
        obtain ⟨z384, rfl⟩ := retV_i r384 rfl
        have h := q384
        obtain ⟨o385, h⟩ := h
        refine wp_icmp_eq (tgt := 1830) dL_law_1195 (by decide) o385 (fun q386 => ?_) (fun q386 => ?_)
        · have h := h.1 q386
          refine wp_iinc (L2 := [some (Rv 0), some (Rv 1), some (Rv 88), some (Iv (x3 + 6))]) dL_law_1830 rfl (Nat.le_of_ble_eq_true rfl) (Nat.le_of_ble_eq_true rfl) rfl ?_
          refine wp_goto (tgt := 18) dL_law_1833 (by decide) ?_
          exact h
        · have h := h.2 q386
          refine wp_iconst dL_law_1198 ?_
          exact wp_zret dL_law_1199 rfl (Or.inr ⟨rfl, rfl, rfl, by decide⟩) rfl (by decide) h
      · refine wp_tableIn (off := 1167) (tgt := 1200) dL_law_33 o6 (by omega) (by omega) (by rw [q7]; rfl) (by decide) ?_
        have h := h.2.2.2.2.2.2.2.2.2.2.2.2.2.2.2.2.2.2.2.2.2.2.2.2.2.2.1 q7
        refine wp_aload_n dL_law_1200 rfl (by decide) ?_
        refine wp_aload_n dL_law_1201 rfl (by decide) ?_
        refine wp_iload_n dL_law_1202 rfl ?_
        refine wp_iconst dL_law_1203 ?_
        refine wp_iadd dL_law_1204 ?_
        obtain ⟨o387, h⟩ := h
        obtain ⟨o388, h⟩ := h
        obtain ⟨o389, h⟩ := h
        refine wp_sld dL_law_1205 o387 o388 o389 ?_
        refine wp_aload_n dL_law_1206 rfl (by decide) ?_
        refine wp_iload_n dL_law_1207 rfl ?_
        refine wp_iconst dL_law_1208 ?_
        refine wp_iadd dL_law_1209 ?_
        obtain ⟨o390, h⟩ := h
        obtain ⟨o391, h⟩ := h
        obtain ⟨o392, h⟩ := h
        refine wp_sld dL_law_1210 o390 o391 o392 ?_
        refine wp_callV (e1 := 0) (as := [Iv (M 0 (x3 + 1)), Iv (M 0 (x3 + 2))]) (S := []) dL_law_1211 (cs_L_124 rfl) kd_1 rfl rfl (Nat.le_of_ble_eq_true rfl) (Nat.le_of_ble_eq_true rfl) h (fun v393 M393 q393 r393 => ?_)
        obtain ⟨z393, rfl⟩ := retV_i r393 rfl
        have h := q393
        refine wp_aload_n dL_law_1214 rfl (by decide) ?_
        refine wp_aload_n dL_law_1215 rfl (by decide) ?_
        refine wp_iload_n dL_law_1216 rfl ?_
        refine wp_iconst dL_law_1217 ?_
        refine wp_iadd dL_law_1218 ?_
        obtain ⟨o394, h⟩ := h
        refine wp_sld dL_law_1219 o387 o394 o389 ?_
        refine wp_aload_n dL_law_1220 rfl (by decide) ?_
        refine wp_iload_n dL_law_1221 rfl ?_
        refine wp_iconst dL_law_1222 ?_
        refine wp_iadd dL_law_1223 ?_
        obtain ⟨o395, h⟩ := h
        refine wp_sld dL_law_1224 o390 o395 o392 ?_
        refine wp_callV (e1 := 0) (as := [Iv (M393 0 (x3 + 1)), Iv (M393 0 (x3 + 2))]) (S := [Iv z393]) dL_law_1225 (cs_L_127 rfl) kd_88 rfl rfl (Nat.le_of_ble_eq_true rfl) (Nat.le_of_ble_eq_true rfl) h (fun v396 M396 q396 r396 => ?_)
        obtain ⟨z396, rfl⟩ := retV_i r396 rfl
        have h := q396
        obtain ⟨o397, h⟩ := h
        refine wp_icmp_eq (tgt := 1830) dL_law_1228 (by decide) o397 (fun q398 => ?_) (fun q398 => ?_)
        · have h := h.1 q398
          refine wp_iinc (L2 := [some (Rv 0), some (Rv 1), some (Rv 88), some (Iv (x3 + 6))]) dL_law_1830 rfl (Nat.le_of_ble_eq_true rfl) (Nat.le_of_ble_eq_true rfl) rfl ?_
          refine wp_goto (tgt := 18) dL_law_1833 (by decide) ?_
          exact h
        · have h := h.2 q398
          refine wp_iconst dL_law_1231 ?_
          exact wp_zret dL_law_1232 rfl (Or.inr ⟨rfl, rfl, rfl, by decide⟩) rfl (by decide) h
      · refine wp_tableIn (off := 1200) (tgt := 1233) dL_law_33 o6 (by omega) (by omega) (by rw [q7]; rfl) (by decide) ?_
        have h := h.2.2.2.2.2.2.2.2.2.2.2.2.2.2.2.2.2.2.2.2.2.2.2.2.2.2.2.1 q7
        refine wp_aload_n dL_law_1233 rfl (by decide) ?_
        refine wp_aload_n dL_law_1234 rfl (by decide) ?_
        refine wp_iload_n dL_law_1235 rfl ?_
        refine wp_iconst dL_law_1236 ?_
        refine wp_iadd dL_law_1237 ?_
        obtain ⟨o399, h⟩ := h
        obtain ⟨o400, h⟩ := h
        obtain ⟨o401, h⟩ := h
        refine wp_sld dL_law_1238 o399 o400 o401 ?_
        refine wp_aload_n dL_law_1239 rfl (by decide) ?_
        refine wp_iload_n dL_law_1240 rfl ?_
        refine wp_iconst dL_law_1241 ?_
        refine wp_iadd dL_law_1242 ?_
        obtain ⟨o402, h⟩ := h
        obtain ⟨o403, h⟩ := h
        obtain ⟨o404, h⟩ := h
        refine wp_sld dL_law_1243 o402 o403 o404 ?_
        refine wp_callV (e1 := 0) (as := [Iv (M 0 (x3 + 1)), Iv (M 0 (x3 + 2))]) (S := []) dL_law_1244 (cs_L_128 rfl) kd_1 rfl rfl (Nat.le_of_ble_eq_true rfl) (Nat.le_of_ble_eq_true rfl) h (fun v405 M405 q405 r405 => ?_)
        obtain ⟨z405, rfl⟩ := retV_i r405 rfl
        have h := q405
        refine wp_aload_n dL_law_1247 rfl (by decide) ?_
        refine wp_aload_n dL_law_1248 rfl (by decide) ?_
        refine wp_iload_n dL_law_1249 rfl ?_
        refine wp_iconst dL_law_1250 ?_
        refine wp_iadd dL_law_1251 ?_
        obtain ⟨o406, h⟩ := h
        refine wp_sld dL_law_1252 o399 o406 o401 ?_
        refine wp_aload_n dL_law_1253 rfl (by decide) ?_
        refine wp_iload_n dL_law_1254 rfl ?_
        refine wp_iconst dL_law_1255 ?_
        refine wp_iadd dL_law_1256 ?_
        obtain ⟨o407, h⟩ := h
        refine wp_sld dL_law_1257 o402 o407 o404 ?_
        refine wp_callV (e1 := 0) (as := [Iv (M405 0 (x3 + 1)), Iv (M405 0 (x3 + 2))]) (S := [Iv z405]) dL_law_1258 (cs_L_131 rfl) kd_88 rfl rfl (Nat.le_of_ble_eq_true rfl) (Nat.le_of_ble_eq_true rfl) h (fun v408 M408 q408 r408 => ?_)
        obtain ⟨z408, rfl⟩ := retV_i r408 rfl
        have h := q408
        obtain ⟨o409, h⟩ := h
        refine wp_icmp_eq (tgt := 1830) dL_law_1261 (by decide) o409 (fun q410 => ?_) (fun q410 => ?_)
        · have h := h.1 q410
          refine wp_iinc (L2 := [some (Rv 0), some (Rv 1), some (Rv 88), some (Iv (x3 + 6))]) dL_law_1830 rfl (Nat.le_of_ble_eq_true rfl) (Nat.le_of_ble_eq_true rfl) rfl ?_
          refine wp_goto (tgt := 18) dL_law_1833 (by decide) ?_
          exact h
        · have h := h.2 q410
          refine wp_iconst dL_law_1264 ?_
          exact wp_zret dL_law_1265 rfl (Or.inr ⟨rfl, rfl, rfl, by decide⟩) rfl (by decide) h
      · refine wp_tableIn (off := 1233) (tgt := 1266) dL_law_33 o6 (by omega) (by omega) (by rw [q7]; rfl) (by decide) ?_
        have h := h.2.2.2.2.2.2.2.2.2.2.2.2.2.2.2.2.2.2.2.2.2.2.2.2.2.2.2.2.1 q7
        refine wp_aload_n dL_law_1266 rfl (by decide) ?_
        refine wp_aload_n dL_law_1267 rfl (by decide) ?_
        refine wp_iload_n dL_law_1268 rfl ?_
        refine wp_iconst dL_law_1269 ?_
        refine wp_iadd dL_law_1270 ?_
        obtain ⟨o411, h⟩ := h
        obtain ⟨o412, h⟩ := h
        obtain ⟨o413, h⟩ := h
        refine wp_sld dL_law_1271 o411 o412 o413 ?_
        refine wp_aload_n dL_law_1272 rfl (by decide) ?_
        refine wp_iload_n dL_law_1273 rfl ?_
        refine wp_iconst dL_law_1274 ?_
        refine wp_iadd dL_law_1275 ?_
        obtain ⟨o414, h⟩ := h
        obtain ⟨o415, h⟩ := h
        obtain ⟨o416, h⟩ := h
        refine wp_sld dL_law_1276 o414 o415 o416 ?_
        refine wp_aload_n dL_law_1277 rfl (by decide) ?_
        refine wp_iload_n dL_law_1278 rfl ?_
        refine wp_iconst dL_law_1279 ?_
        refine wp_iadd dL_law_1280 ?_
        obtain ⟨o417, h⟩ := h
        obtain ⟨o418, h⟩ := h
        obtain ⟨o419, h⟩ := h
        refine wp_sld dL_law_1281 o417 o418 o419 ?_
        refine wp_aload_n dL_law_1282 rfl (by decide) ?_
        refine wp_iload_n dL_law_1283 rfl ?_
        refine wp_iconst dL_law_1284 ?_
        refine wp_iadd dL_law_1285 ?_
        obtain ⟨o420, h⟩ := h
        obtain ⟨o421, h⟩ := h
        obtain ⟨o422, h⟩ := h
        refine wp_sld dL_law_1286 o420 o421 o422 ?_
        refine wp_callV (e1 := 0) (as := [Iv (M 0 (x3 + 1)), Iv (M 0 (x3 + 2)), Iv (M 0 (x3 + 3)), Iv (M 0 (x3 + 4))]) (S := []) dL_law_1287 (cs_L_132 rfl) kd_1 rfl rfl (Nat.le_of_ble_eq_true rfl) (Nat.le_of_ble_eq_true rfl) h (fun v423 M423 q423 r423 => ?_)
        obtain ⟨z423, rfl⟩ := retV_i r423 rfl
        have h := q423
        refine wp_aload_n dL_law_1290 rfl (by decide) ?_
        refine wp_aload_n dL_law_1291 rfl (by decide) ?_
        refine wp_iload_n dL_law_1292 rfl ?_
        refine wp_iconst dL_law_1293 ?_
        refine wp_iadd dL_law_1294 ?_
        obtain ⟨o424, h⟩ := h
        refine wp_sld dL_law_1295 o411 o424 o413 ?_
        refine wp_aload_n dL_law_1296 rfl (by decide) ?_
        refine wp_iload_n dL_law_1297 rfl ?_
        refine wp_iconst dL_law_1298 ?_
        refine wp_iadd dL_law_1299 ?_
        obtain ⟨o425, h⟩ := h
        refine wp_sld dL_law_1300 o414 o425 o416 ?_
        refine wp_aload_n dL_law_1301 rfl (by decide) ?_
        refine wp_iload_n dL_law_1302 rfl ?_
        refine wp_iconst dL_law_1303 ?_
        refine wp_iadd dL_law_1304 ?_
        obtain ⟨o426, h⟩ := h
        refine wp_sld dL_law_1305 o417 o426 o419 ?_
        refine wp_aload_n dL_law_1306 rfl (by decide) ?_
        refine wp_iload_n dL_law_1307 rfl ?_
        refine wp_iconst dL_law_1308 ?_
        refine wp_iadd dL_law_1309 ?_
        obtain ⟨o427, h⟩ := h
        refine wp_sld dL_law_1310 o420 o427 o422 ?_
        refine wp_callV (e1 := 0) (as := [Iv (M423 0 (x3 + 1)), Iv (M423 0 (x3 + 2)), Iv (M423 0 (x3 + 3)), Iv (M423 0 (x3 + 4))]) (S := [Iv z423]) dL_law_1311 (cs_L_135 rfl) kd_88 rfl rfl (Nat.le_of_ble_eq_true rfl) (Nat.le_of_ble_eq_true rfl) h (fun v428 M428 q428 r428 => ?_)
        obtain ⟨z428, rfl⟩ := retV_i r428 rfl
        have h := q428
        obtain ⟨o429, h⟩ := h
        refine wp_icmp_eq (tgt := 1830) dL_law_1314 (by decide) o429 (fun q430 => ?_) (fun q430 => ?_)
        · have h := h.1 q430
          refine wp_iinc (L2 := [some (Rv 0), some (Rv 1), some (Rv 88), some (Iv (x3 + 6))]) dL_law_1830 rfl (Nat.le_of_ble_eq_true rfl) (Nat.le_of_ble_eq_true rfl) rfl ?_
          refine wp_goto (tgt := 18) dL_law_1833 (by decide) ?_
          exact h
        · have h := h.2 q430
          refine wp_iconst dL_law_1317 ?_
          exact wp_zret dL_law_1318 rfl (Or.inr ⟨rfl, rfl, rfl, by decide⟩) rfl (by decide) h
      · refine wp_tableIn (off := 1286) (tgt := 1319) dL_law_33 o6 (by omega) (by omega) (by rw [q7]; rfl) (by decide) ?_
        have h := h.2.2.2.2.2.2.2.2.2.2.2.2.2.2.2.2.2.2.2.2.2.2.2.2.2.2.2.2.2.1 q7
        refine wp_aload_n dL_law_1319 rfl (by decide) ?_
        refine wp_aload_n dL_law_1320 rfl (by decide) ?_
        refine wp_iload_n dL_law_1321 rfl ?_
        refine wp_iconst dL_law_1322 ?_
        refine wp_iadd dL_law_1323 ?_
        obtain ⟨o431, h⟩ := h
        obtain ⟨o432, h⟩ := h
        obtain ⟨o433, h⟩ := h
        refine wp_sld dL_law_1324 o431 o432 o433 ?_
        refine wp_callV (e1 := 0) (as := [Iv (M 0 (x3 + 1))]) (S := []) dL_law_1325 (cs_L_136 rfl) kd_1 rfl rfl (Nat.le_of_ble_eq_true rfl) (Nat.le_of_ble_eq_true rfl) h (fun v434 M434 q434 r434 => ?_)
        obtain ⟨z434, rfl⟩ := retV_i r434 rfl
        have h := q434
        refine wp_aload_n dL_law_1328 rfl (by decide) ?_
        refine wp_aload_n dL_law_1329 rfl (by decide) ?_
        refine wp_iload_n dL_law_1330 rfl ?_
        refine wp_iconst dL_law_1331 ?_
        refine wp_iadd dL_law_1332 ?_
        obtain ⟨o435, h⟩ := h
        refine wp_sld dL_law_1333 o431 o435 o433 ?_
        refine wp_callV (e1 := 0) (as := [Iv (M434 0 (x3 + 1))]) (S := [Iv z434]) dL_law_1334 (cs_L_139 rfl) kd_88 rfl rfl (Nat.le_of_ble_eq_true rfl) (Nat.le_of_ble_eq_true rfl) h (fun v436 M436 q436 r436 => ?_)
        obtain ⟨z436, rfl⟩ := retV_i r436 rfl
        have h := q436
        obtain ⟨o437, h⟩ := h
        refine wp_icmp_eq (tgt := 1830) dL_law_1337 (by decide) o437 (fun q438 => ?_) (fun q438 => ?_)
        · have h := h.1 q438
          refine wp_iinc (L2 := [some (Rv 0), some (Rv 1), some (Rv 88), some (Iv (x3 + 6))]) dL_law_1830 rfl (Nat.le_of_ble_eq_true rfl) (Nat.le_of_ble_eq_true rfl) rfl ?_
          refine wp_goto (tgt := 18) dL_law_1833 (by decide) ?_
          exact h
        · have h := h.2 q438
          refine wp_iconst dL_law_1340 ?_
          exact wp_zret dL_law_1341 rfl (Or.inr ⟨rfl, rfl, rfl, by decide⟩) rfl (by decide) h
      · refine wp_tableIn (off := 1309) (tgt := 1342) dL_law_33 o6 (by omega) (by omega) (by rw [q7]; rfl) (by decide) ?_
        have h := h.2.2.2.2.2.2.2.2.2.2.2.2.2.2.2.2.2.2.2.2.2.2.2.2.2.2.2.2.2.2.1 q7
        refine wp_aload_n dL_law_1342 rfl (by decide) ?_
        refine wp_aload_n dL_law_1343 rfl (by decide) ?_
        refine wp_iload_n dL_law_1344 rfl ?_
        refine wp_iconst dL_law_1345 ?_
        refine wp_iadd dL_law_1346 ?_
        obtain ⟨o439, h⟩ := h
        obtain ⟨o440, h⟩ := h
        obtain ⟨o441, h⟩ := h
        refine wp_sld dL_law_1347 o439 o440 o441 ?_
        refine wp_aload_n dL_law_1348 rfl (by decide) ?_
        refine wp_iload_n dL_law_1349 rfl ?_
        refine wp_iconst dL_law_1350 ?_
        refine wp_iadd dL_law_1351 ?_
        obtain ⟨o442, h⟩ := h
        obtain ⟨o443, h⟩ := h
        obtain ⟨o444, h⟩ := h
        refine wp_sld dL_law_1352 o442 o443 o444 ?_
        refine wp_callV (e1 := 0) (as := [Iv (M 0 (x3 + 1)), Iv (M 0 (x3 + 2))]) (S := []) dL_law_1353 (cs_L_140 rfl) kd_1 rfl rfl (Nat.le_of_ble_eq_true rfl) (Nat.le_of_ble_eq_true rfl) h (fun v445 M445 q445 r445 => ?_)
        obtain ⟨z445, rfl⟩ := retV_i r445 rfl
        have h := q445
        refine wp_aload_n dL_law_1356 rfl (by decide) ?_
        refine wp_aload_n dL_law_1357 rfl (by decide) ?_
        refine wp_iload_n dL_law_1358 rfl ?_
        refine wp_iconst dL_law_1359 ?_
        refine wp_iadd dL_law_1360 ?_
        obtain ⟨o446, h⟩ := h
        refine wp_sld dL_law_1361 o439 o446 o441 ?_
        refine wp_aload_n dL_law_1362 rfl (by decide) ?_
        refine wp_iload_n dL_law_1363 rfl ?_
        refine wp_iconst dL_law_1364 ?_
        refine wp_iadd dL_law_1365 ?_
        obtain ⟨o447, h⟩ := h
        refine wp_sld dL_law_1366 o442 o447 o444 ?_
        refine wp_callV (e1 := 0) (as := [Iv (M445 0 (x3 + 1)), Iv (M445 0 (x3 + 2))]) (S := [Iv z445]) dL_law_1367 (cs_L_143 rfl) kd_88 rfl rfl (Nat.le_of_ble_eq_true rfl) (Nat.le_of_ble_eq_true rfl) h (fun v448 M448 q448 r448 => ?_)
        obtain ⟨z448, rfl⟩ := retV_i r448 rfl
        have h := q448
        obtain ⟨o449, h⟩ := h
        refine wp_icmp_eq (tgt := 1830) dL_law_1370 (by decide) o449 (fun q450 => ?_) (fun q450 => ?_)
        · have h := h.1 q450
          refine wp_iinc (L2 := [some (Rv 0), some (Rv 1), some (Rv 88), some (Iv (x3 + 6))]) dL_law_1830 rfl (Nat.le_of_ble_eq_true rfl) (Nat.le_of_ble_eq_true rfl) rfl ?_
          refine wp_goto (tgt := 18) dL_law_1833 (by decide) ?_
          exact h
        · have h := h.2 q450
          refine wp_iconst dL_law_1373 ?_
          exact wp_zret dL_law_1374 rfl (Or.inr ⟨rfl, rfl, rfl, by decide⟩) rfl (by decide) h
      · refine wp_tableIn (off := 1342) (tgt := 1375) dL_law_33 o6 (by omega) (by omega) (by rw [q7]; rfl) (by decide) ?_
        have h := h.2.2.2.2.2.2.2.2.2.2.2.2.2.2.2.2.2.2.2.2.2.2.2.2.2.2.2.2.2.2.2.1 q7
        refine wp_aload_n dL_law_1375 rfl (by decide) ?_
        refine wp_aload_n dL_law_1376 rfl (by decide) ?_
        refine wp_iload_n dL_law_1377 rfl ?_
        refine wp_iconst dL_law_1378 ?_
        refine wp_iadd dL_law_1379 ?_
        obtain ⟨o451, h⟩ := h
        obtain ⟨o452, h⟩ := h
        obtain ⟨o453, h⟩ := h
        refine wp_sld dL_law_1380 o451 o452 o453 ?_
        refine wp_aload_n dL_law_1381 rfl (by decide) ?_
        refine wp_iload_n dL_law_1382 rfl ?_
        refine wp_iconst dL_law_1383 ?_
        refine wp_iadd dL_law_1384 ?_
        obtain ⟨o454, h⟩ := h
        obtain ⟨o455, h⟩ := h
        obtain ⟨o456, h⟩ := h
        refine wp_sld dL_law_1385 o454 o455 o456 ?_
        refine wp_callV (e1 := 0) (as := [Iv (M 0 (x3 + 1)), Iv (M 0 (x3 + 2))]) (S := []) dL_law_1386 (cs_L_144 rfl) kd_1 rfl rfl (Nat.le_of_ble_eq_true rfl) (Nat.le_of_ble_eq_true rfl) h (fun v457 M457 q457 r457 => ?_)
        obtain ⟨z457, rfl⟩ := retV_i r457 rfl
        have h := q457
        refine wp_aload_n dL_law_1389 rfl (by decide) ?_
        refine wp_aload_n dL_law_1390 rfl (by decide) ?_
        refine wp_iload_n dL_law_1391 rfl ?_
        refine wp_iconst dL_law_1392 ?_
        refine wp_iadd dL_law_1393 ?_
        obtain ⟨o458, h⟩ := h
        refine wp_sld dL_law_1394 o451 o458 o453 ?_
        refine wp_aload_n dL_law_1395 rfl (by decide) ?_
        refine wp_iload_n dL_law_1396 rfl ?_
        refine wp_iconst dL_law_1397 ?_
        refine wp_iadd dL_law_1398 ?_
        obtain ⟨o459, h⟩ := h
        refine wp_sld dL_law_1399 o454 o459 o456 ?_
        refine wp_callV (e1 := 0) (as := [Iv (M457 0 (x3 + 1)), Iv (M457 0 (x3 + 2))]) (S := [Iv z457]) dL_law_1400 (cs_L_147 rfl) kd_88 rfl rfl (Nat.le_of_ble_eq_true rfl) (Nat.le_of_ble_eq_true rfl) h (fun v460 M460 q460 r460 => ?_)
        obtain ⟨z460, rfl⟩ := retV_i r460 rfl
        have h := q460
        obtain ⟨o461, h⟩ := h
        refine wp_icmp_eq (tgt := 1830) dL_law_1403 (by decide) o461 (fun q462 => ?_) (fun q462 => ?_)
        · have h := h.1 q462
          refine wp_iinc (L2 := [some (Rv 0), some (Rv 1), some (Rv 88), some (Iv (x3 + 6))]) dL_law_1830 rfl (Nat.le_of_ble_eq_true rfl) (Nat.le_of_ble_eq_true rfl) rfl ?_
          refine wp_goto (tgt := 18) dL_law_1833 (by decide) ?_
          exact h
        · have h := h.2 q462
          refine wp_iconst dL_law_1406 ?_
          exact wp_zret dL_law_1407 rfl (Or.inr ⟨rfl, rfl, rfl, by decide⟩) rfl (by decide) h
      · refine wp_tableIn (off := 1375) (tgt := 1408) dL_law_33 o6 (by omega) (by omega) (by rw [q7]; rfl) (by decide) ?_
        have h := h.2.2.2.2.2.2.2.2.2.2.2.2.2.2.2.2.2.2.2.2.2.2.2.2.2.2.2.2.2.2.2.2.1 q7
        refine wp_aload_n dL_law_1408 rfl (by decide) ?_
        refine wp_aload_n dL_law_1409 rfl (by decide) ?_
        refine wp_iload_n dL_law_1410 rfl ?_
        refine wp_iconst dL_law_1411 ?_
        refine wp_iadd dL_law_1412 ?_
        obtain ⟨o463, h⟩ := h
        obtain ⟨o464, h⟩ := h
        obtain ⟨o465, h⟩ := h
        refine wp_sld dL_law_1413 o463 o464 o465 ?_
        refine wp_aload_n dL_law_1414 rfl (by decide) ?_
        refine wp_iload_n dL_law_1415 rfl ?_
        refine wp_iconst dL_law_1416 ?_
        refine wp_iadd dL_law_1417 ?_
        obtain ⟨o466, h⟩ := h
        obtain ⟨o467, h⟩ := h
        obtain ⟨o468, h⟩ := h
        refine wp_sld dL_law_1418 o466 o467 o468 ?_
        refine wp_aload_n dL_law_1419 rfl (by decide) ?_
        refine wp_iload_n dL_law_1420 rfl ?_
        refine wp_iconst dL_law_1421 ?_
        refine wp_iadd dL_law_1422 ?_
        obtain ⟨o469, h⟩ := h
        obtain ⟨o470, h⟩ := h
        obtain ⟨o471, h⟩ := h
        refine wp_sld dL_law_1423 o469 o470 o471 ?_
        refine wp_callV (e1 := 0) (as := [Iv (M 0 (x3 + 1)), Iv (M 0 (x3 + 2)), Iv (M 0 (x3 + 3))]) (S := []) dL_law_1424 (cs_L_148 rfl) kd_1 rfl rfl (Nat.le_of_ble_eq_true rfl) (Nat.le_of_ble_eq_true rfl) h (fun v472 M472 q472 r472 => ?_)
        obtain ⟨z472, rfl⟩ := retV_i r472 rfl
        have h := q472
        refine wp_aload_n dL_law_1427 rfl (by decide) ?_
        refine wp_aload_n dL_law_1428 rfl (by decide) ?_
        refine wp_iload_n dL_law_1429 rfl ?_
        refine wp_iconst dL_law_1430 ?_
        refine wp_iadd dL_law_1431 ?_
        obtain ⟨o473, h⟩ := h
        refine wp_sld dL_law_1432 o463 o473 o465 ?_
        refine wp_aload_n dL_law_1433 rfl (by decide) ?_
        refine wp_iload_n dL_law_1434 rfl ?_
        refine wp_iconst dL_law_1435 ?_
        refine wp_iadd dL_law_1436 ?_
        obtain ⟨o474, h⟩ := h
        refine wp_sld dL_law_1437 o466 o474 o468 ?_
        refine wp_aload_n dL_law_1438 rfl (by decide) ?_
        refine wp_iload_n dL_law_1439 rfl ?_
        refine wp_iconst dL_law_1440 ?_
        refine wp_iadd dL_law_1441 ?_
        obtain ⟨o475, h⟩ := h
        refine wp_sld dL_law_1442 o469 o475 o471 ?_
        refine wp_callV (e1 := 0) (as := [Iv (M472 0 (x3 + 1)), Iv (M472 0 (x3 + 2)), Iv (M472 0 (x3 + 3))]) (S := [Iv z472]) dL_law_1443 (cs_L_151 rfl) kd_88 rfl rfl (Nat.le_of_ble_eq_true rfl) (Nat.le_of_ble_eq_true rfl) h (fun v476 M476 q476 r476 => ?_)
        obtain ⟨z476, rfl⟩ := retV_i r476 rfl
        have h := q476
        obtain ⟨o477, h⟩ := h
        refine wp_icmp_eq (tgt := 1830) dL_law_1446 (by decide) o477 (fun q478 => ?_) (fun q478 => ?_)
        · have h := h.1 q478
          refine wp_iinc (L2 := [some (Rv 0), some (Rv 1), some (Rv 88), some (Iv (x3 + 6))]) dL_law_1830 rfl (Nat.le_of_ble_eq_true rfl) (Nat.le_of_ble_eq_true rfl) rfl ?_
          refine wp_goto (tgt := 18) dL_law_1833 (by decide) ?_
          exact h
        · have h := h.2 q478
          refine wp_iconst dL_law_1449 ?_
          exact wp_zret dL_law_1450 rfl (Or.inr ⟨rfl, rfl, rfl, by decide⟩) rfl (by decide) h
      · refine wp_tableIn (off := 1418) (tgt := 1451) dL_law_33 o6 (by omega) (by omega) (by rw [q7]; rfl) (by decide) ?_
        have h := h.2.2.2.2.2.2.2.2.2.2.2.2.2.2.2.2.2.2.2.2.2.2.2.2.2.2.2.2.2.2.2.2.2.1 q7
        refine wp_aload_n dL_law_1451 rfl (by decide) ?_
        refine wp_aload_n dL_law_1452 rfl (by decide) ?_
        refine wp_iload_n dL_law_1453 rfl ?_
        refine wp_iconst dL_law_1454 ?_
        refine wp_iadd dL_law_1455 ?_
        obtain ⟨o479, h⟩ := h
        obtain ⟨o480, h⟩ := h
        obtain ⟨o481, h⟩ := h
        refine wp_sld dL_law_1456 o479 o480 o481 ?_
        refine wp_aload_n dL_law_1457 rfl (by decide) ?_
        refine wp_iload_n dL_law_1458 rfl ?_
        refine wp_iconst dL_law_1459 ?_
        refine wp_iadd dL_law_1460 ?_
        obtain ⟨o482, h⟩ := h
        obtain ⟨o483, h⟩ := h
        obtain ⟨o484, h⟩ := h
        refine wp_sld dL_law_1461 o482 o483 o484 ?_
        refine wp_aload_n dL_law_1462 rfl (by decide) ?_
        refine wp_iload_n dL_law_1463 rfl ?_
        refine wp_iconst dL_law_1464 ?_
        refine wp_iadd dL_law_1465 ?_
        obtain ⟨o485, h⟩ := h
        obtain ⟨o486, h⟩ := h
        obtain ⟨o487, h⟩ := h
        refine wp_sld dL_law_1466 o485 o486 o487 ?_
        refine wp_callV (e1 := 0) (as := [Iv (M 0 (x3 + 1)), Iv (M 0 (x3 + 2)), Iv (M 0 (x3 + 3))]) (S := []) dL_law_1467 (cs_L_152 rfl) kd_1 rfl rfl (Nat.le_of_ble_eq_true rfl) (Nat.le_of_ble_eq_true rfl) h (fun v488 M488 q488 r488 => ?_)
        obtain ⟨z488, rfl⟩ := retV_i r488 rfl
        have h := q488
        refine wp_aload_n dL_law_1470 rfl (by decide) ?_
        refine wp_aload_n dL_law_1471 rfl (by decide) ?_
        refine wp_iload_n dL_law_1472 rfl ?_
        refine wp_iconst dL_law_1473 ?_
        refine wp_iadd dL_law_1474 ?_
        obtain ⟨o489, h⟩ := h
        refine wp_sld dL_law_1475 o479 o489 o481 ?_
        refine wp_aload_n dL_law_1476 rfl (by decide) ?_
        refine wp_iload_n dL_law_1477 rfl ?_
        refine wp_iconst dL_law_1478 ?_
        refine wp_iadd dL_law_1479 ?_
        obtain ⟨o490, h⟩ := h
        refine wp_sld dL_law_1480 o482 o490 o484 ?_
        refine wp_aload_n dL_law_1481 rfl (by decide) ?_
        refine wp_iload_n dL_law_1482 rfl ?_
        refine wp_iconst dL_law_1483 ?_
        refine wp_iadd dL_law_1484 ?_
        obtain ⟨o491, h⟩ := h
        refine wp_sld dL_law_1485 o485 o491 o487 ?_
        refine wp_callV (e1 := 0) (as := [Iv (M488 0 (x3 + 1)), Iv (M488 0 (x3 + 2)), Iv (M488 0 (x3 + 3))]) (S := [Iv z488]) dL_law_1486 (cs_L_155 rfl) kd_88 rfl rfl (Nat.le_of_ble_eq_true rfl) (Nat.le_of_ble_eq_true rfl) h (fun v492 M492 q492 r492 => ?_)
        obtain ⟨z492, rfl⟩ := retV_i r492 rfl
        have h := q492
        obtain ⟨o493, h⟩ := h
        refine wp_icmp_eq (tgt := 1830) dL_law_1489 (by decide) o493 (fun q494 => ?_) (fun q494 => ?_)
        · have h := h.1 q494
          refine wp_iinc (L2 := [some (Rv 0), some (Rv 1), some (Rv 88), some (Iv (x3 + 6))]) dL_law_1830 rfl (Nat.le_of_ble_eq_true rfl) (Nat.le_of_ble_eq_true rfl) rfl ?_
          refine wp_goto (tgt := 18) dL_law_1833 (by decide) ?_
          exact h
        · have h := h.2 q494
          refine wp_iconst dL_law_1492 ?_
          exact wp_zret dL_law_1493 rfl (Or.inr ⟨rfl, rfl, rfl, by decide⟩) rfl (by decide) h
      · refine wp_tableIn (off := 1461) (tgt := 1494) dL_law_33 o6 (by omega) (by omega) (by rw [q7]; rfl) (by decide) ?_
        have h := h.2.2.2.2.2.2.2.2.2.2.2.2.2.2.2.2.2.2.2.2.2.2.2.2.2.2.2.2.2.2.2.2.2.2.1 q7
        refine wp_aload_n dL_law_1494 rfl (by decide) ?_
        refine wp_aload_n dL_law_1495 rfl (by decide) ?_
        refine wp_iload_n dL_law_1496 rfl ?_
        refine wp_iconst dL_law_1497 ?_
        refine wp_iadd dL_law_1498 ?_
        obtain ⟨o495, h⟩ := h
        obtain ⟨o496, h⟩ := h
        obtain ⟨o497, h⟩ := h
        refine wp_sld dL_law_1499 o495 o496 o497 ?_
        refine wp_aload_n dL_law_1500 rfl (by decide) ?_
        refine wp_iload_n dL_law_1501 rfl ?_
        refine wp_iconst dL_law_1502 ?_
        refine wp_iadd dL_law_1503 ?_
        obtain ⟨o498, h⟩ := h
        obtain ⟨o499, h⟩ := h
        obtain ⟨o500, h⟩ := h
        refine wp_sld dL_law_1504 o498 o499 o500 ?_
        refine wp_callV (e1 := 0) (as := [Iv (M 0 (x3 + 1)), Iv (M 0 (x3 + 2))]) (S := []) dL_law_1505 (cs_L_156 rfl) kd_1 rfl rfl (Nat.le_of_ble_eq_true rfl) (Nat.le_of_ble_eq_true rfl) h (fun v501 M501 q501 r501 => ?_)
        obtain ⟨z501, rfl⟩ := retV_i r501 rfl
        have h := q501
        refine wp_aload_n dL_law_1508 rfl (by decide) ?_
        refine wp_aload_n dL_law_1509 rfl (by decide) ?_
        refine wp_iload_n dL_law_1510 rfl ?_
        refine wp_iconst dL_law_1511 ?_
        refine wp_iadd dL_law_1512 ?_
        obtain ⟨o502, h⟩ := h
        refine wp_sld dL_law_1513 o495 o502 o497 ?_
        refine wp_aload_n dL_law_1514 rfl (by decide) ?_
        refine wp_iload_n dL_law_1515 rfl ?_
        refine wp_iconst dL_law_1516 ?_
        refine wp_iadd dL_law_1517 ?_
        obtain ⟨o503, h⟩ := h
        refine wp_sld dL_law_1518 o498 o503 o500 ?_
        refine wp_callV (e1 := 0) (as := [Iv (M501 0 (x3 + 1)), Iv (M501 0 (x3 + 2))]) (S := [Iv z501]) dL_law_1519 (cs_L_159 rfl) kd_88 rfl rfl (Nat.le_of_ble_eq_true rfl) (Nat.le_of_ble_eq_true rfl) h (fun v504 M504 q504 r504 => ?_)
        obtain ⟨z504, rfl⟩ := retV_i r504 rfl
        have h := q504
        obtain ⟨o505, h⟩ := h
        refine wp_icmp_eq (tgt := 1830) dL_law_1522 (by decide) o505 (fun q506 => ?_) (fun q506 => ?_)
        · have h := h.1 q506
          refine wp_iinc (L2 := [some (Rv 0), some (Rv 1), some (Rv 88), some (Iv (x3 + 6))]) dL_law_1830 rfl (Nat.le_of_ble_eq_true rfl) (Nat.le_of_ble_eq_true rfl) rfl ?_
          refine wp_goto (tgt := 18) dL_law_1833 (by decide) ?_
          exact h
        · have h := h.2 q506
          refine wp_iconst dL_law_1525 ?_
          exact wp_zret dL_law_1526 rfl (Or.inr ⟨rfl, rfl, rfl, by decide⟩) rfl (by decide) h
      · refine wp_tableIn (off := 1494) (tgt := 1527) dL_law_33 o6 (by omega) (by omega) (by rw [q7]; rfl) (by decide) ?_
        have h := h.2.2.2.2.2.2.2.2.2.2.2.2.2.2.2.2.2.2.2.2.2.2.2.2.2.2.2.2.2.2.2.2.2.2.2.1 q7
        refine wp_aload_n dL_law_1527 rfl (by decide) ?_
        refine wp_aload_n dL_law_1528 rfl (by decide) ?_
        refine wp_iload_n dL_law_1529 rfl ?_
        refine wp_iconst dL_law_1530 ?_
        refine wp_iadd dL_law_1531 ?_
        obtain ⟨o507, h⟩ := h
        obtain ⟨o508, h⟩ := h
        obtain ⟨o509, h⟩ := h
        refine wp_sld dL_law_1532 o507 o508 o509 ?_
        refine wp_aload_n dL_law_1533 rfl (by decide) ?_
        refine wp_iload_n dL_law_1534 rfl ?_
        refine wp_iconst dL_law_1535 ?_
        refine wp_iadd dL_law_1536 ?_
        obtain ⟨o510, h⟩ := h
        obtain ⟨o511, h⟩ := h
        obtain ⟨o512, h⟩ := h
        refine wp_sld dL_law_1537 o510 o511 o512 ?_
        refine wp_callV (e1 := 0) (as := [Iv (M 0 (x3 + 1)), Iv (M 0 (x3 + 2))]) (S := []) dL_law_1538 (cs_L_160 rfl) kd_1 rfl rfl (Nat.le_of_ble_eq_true rfl) (Nat.le_of_ble_eq_true rfl) h (fun v513 M513 q513 r513 => ?_)
        obtain ⟨z513, rfl⟩ := retV_i r513 rfl
        have h := q513
        refine wp_aload_n dL_law_1541 rfl (by decide) ?_
        refine wp_aload_n dL_law_1542 rfl (by decide) ?_
        refine wp_iload_n dL_law_1543 rfl ?_
        refine wp_iconst dL_law_1544 ?_
        refine wp_iadd dL_law_1545 ?_
        obtain ⟨o514, h⟩ := h
        refine wp_sld dL_law_1546 o507 o514 o509 ?_
        refine wp_aload_n dL_law_1547 rfl (by decide) ?_
        refine wp_iload_n dL_law_1548 rfl ?_
        refine wp_iconst dL_law_1549 ?_
        refine wp_iadd dL_law_1550 ?_
        obtain ⟨o515, h⟩ := h
        refine wp_sld dL_law_1551 o510 o515 o512 ?_
        refine wp_callV (e1 := 0) (as := [Iv (M513 0 (x3 + 1)), Iv (M513 0 (x3 + 2))]) (S := [Iv z513]) dL_law_1552 (cs_L_163 rfl) kd_88 rfl rfl (Nat.le_of_ble_eq_true rfl) (Nat.le_of_ble_eq_true rfl) h (fun v516 M516 q516 r516 => ?_)
        obtain ⟨z516, rfl⟩ := retV_i r516 rfl
        have h := q516
        obtain ⟨o517, h⟩ := h
        refine wp_icmp_eq (tgt := 1830) dL_law_1555 (by decide) o517 (fun q518 => ?_) (fun q518 => ?_)
        · have h := h.1 q518
          refine wp_iinc (L2 := [some (Rv 0), some (Rv 1), some (Rv 88), some (Iv (x3 + 6))]) dL_law_1830 rfl (Nat.le_of_ble_eq_true rfl) (Nat.le_of_ble_eq_true rfl) rfl ?_
          refine wp_goto (tgt := 18) dL_law_1833 (by decide) ?_
          exact h
        · have h := h.2 q518
          refine wp_iconst dL_law_1558 ?_
          exact wp_zret dL_law_1559 rfl (Or.inr ⟨rfl, rfl, rfl, by decide⟩) rfl (by decide) h
      · refine wp_tableIn (off := 1527) (tgt := 1560) dL_law_33 o6 (by omega) (by omega) (by rw [q7]; rfl) (by decide) ?_
        have h := h.2.2.2.2.2.2.2.2.2.2.2.2.2.2.2.2.2.2.2.2.2.2.2.2.2.2.2.2.2.2.2.2.2.2.2.2.1 q7
        refine wp_aload_n dL_law_1560 rfl (by decide) ?_
        refine wp_aload_n dL_law_1561 rfl (by decide) ?_
        refine wp_iload_n dL_law_1562 rfl ?_
        refine wp_iconst dL_law_1563 ?_
        refine wp_iadd dL_law_1564 ?_
        obtain ⟨o519, h⟩ := h
        obtain ⟨o520, h⟩ := h
        obtain ⟨o521, h⟩ := h
        refine wp_sld dL_law_1565 o519 o520 o521 ?_
        refine wp_aload_n dL_law_1566 rfl (by decide) ?_
        refine wp_iload_n dL_law_1567 rfl ?_
        refine wp_iconst dL_law_1568 ?_
        refine wp_iadd dL_law_1569 ?_
        obtain ⟨o522, h⟩ := h
        obtain ⟨o523, h⟩ := h
        obtain ⟨o524, h⟩ := h
        refine wp_sld dL_law_1570 o522 o523 o524 ?_
        refine wp_callV (e1 := 0) (as := [Iv (M 0 (x3 + 1)), Iv (M 0 (x3 + 2))]) (S := []) dL_law_1571 (cs_L_164 rfl) kd_1 rfl rfl (Nat.le_of_ble_eq_true rfl) (Nat.le_of_ble_eq_true rfl) h (fun v525 M525 q525 r525 => ?_)
        obtain ⟨z525, rfl⟩ := retV_i r525 rfl
        have h := q525
        refine wp_aload_n dL_law_1574 rfl (by decide) ?_
        refine wp_aload_n dL_law_1575 rfl (by decide) ?_
        refine wp_iload_n dL_law_1576 rfl ?_
        refine wp_iconst dL_law_1577 ?_
        refine wp_iadd dL_law_1578 ?_
        obtain ⟨o526, h⟩ := h
        refine wp_sld dL_law_1579 o519 o526 o521 ?_
        refine wp_aload_n dL_law_1580 rfl (by decide) ?_
        refine wp_iload_n dL_law_1581 rfl ?_
        refine wp_iconst dL_law_1582 ?_
        refine wp_iadd dL_law_1583 ?_
        obtain ⟨o527, h⟩ := h
        refine wp_sld dL_law_1584 o522 o527 o524 ?_
        refine wp_callV (e1 := 0) (as := [Iv (M525 0 (x3 + 1)), Iv (M525 0 (x3 + 2))]) (S := [Iv z525]) dL_law_1585 (cs_L_167 rfl) kd_88 rfl rfl (Nat.le_of_ble_eq_true rfl) (Nat.le_of_ble_eq_true rfl) h (fun v528 M528 q528 r528 => ?_)
        obtain ⟨z528, rfl⟩ := retV_i r528 rfl
        have h := q528
        obtain ⟨o529, h⟩ := h
        refine wp_icmp_eq (tgt := 1830) dL_law_1588 (by decide) o529 (fun q530 => ?_) (fun q530 => ?_)
        · have h := h.1 q530
          refine wp_iinc (L2 := [some (Rv 0), some (Rv 1), some (Rv 88), some (Iv (x3 + 6))]) dL_law_1830 rfl (Nat.le_of_ble_eq_true rfl) (Nat.le_of_ble_eq_true rfl) rfl ?_
          refine wp_goto (tgt := 18) dL_law_1833 (by decide) ?_
          exact h
        · have h := h.2 q530
          refine wp_iconst dL_law_1591 ?_
          exact wp_zret dL_law_1592 rfl (Or.inr ⟨rfl, rfl, rfl, by decide⟩) rfl (by decide) h
      · refine wp_tableIn (off := 1560) (tgt := 1593) dL_law_33 o6 (by omega) (by omega) (by rw [q7]; rfl) (by decide) ?_
        have h := h.2.2.2.2.2.2.2.2.2.2.2.2.2.2.2.2.2.2.2.2.2.2.2.2.2.2.2.2.2.2.2.2.2.2.2.2.2.1 q7
        refine wp_aload_n dL_law_1593 rfl (by decide) ?_
        refine wp_aload_n dL_law_1594 rfl (by decide) ?_
        refine wp_iload_n dL_law_1595 rfl ?_
        refine wp_iconst dL_law_1596 ?_
        refine wp_iadd dL_law_1597 ?_
        obtain ⟨o531, h⟩ := h
        obtain ⟨o532, h⟩ := h
        obtain ⟨o533, h⟩ := h
        refine wp_sld dL_law_1598 o531 o532 o533 ?_
        refine wp_aload_n dL_law_1599 rfl (by decide) ?_
        refine wp_iload_n dL_law_1600 rfl ?_
        refine wp_iconst dL_law_1601 ?_
        refine wp_iadd dL_law_1602 ?_
        obtain ⟨o534, h⟩ := h
        obtain ⟨o535, h⟩ := h
        obtain ⟨o536, h⟩ := h
        refine wp_sld dL_law_1603 o534 o535 o536 ?_
        refine wp_aload_n dL_law_1604 rfl (by decide) ?_
        refine wp_iload_n dL_law_1605 rfl ?_
        refine wp_iconst dL_law_1606 ?_
        refine wp_iadd dL_law_1607 ?_
        obtain ⟨o537, h⟩ := h
        obtain ⟨o538, h⟩ := h
        obtain ⟨o539, h⟩ := h
        refine wp_sld dL_law_1608 o537 o538 o539 ?_
        refine wp_callV (e1 := 0) (as := [Iv (M 0 (x3 + 1)), Iv (M 0 (x3 + 2)), Iv (M 0 (x3 + 3))]) (S := []) dL_law_1609 (cs_L_168 rfl) kd_1 rfl rfl (Nat.le_of_ble_eq_true rfl) (Nat.le_of_ble_eq_true rfl) h (fun v540 M540 q540 r540 => ?_)
        obtain ⟨z540, rfl⟩ := retV_i r540 rfl
        have h := q540
        refine wp_aload_n dL_law_1612 rfl (by decide) ?_
        refine wp_aload_n dL_law_1613 rfl (by decide) ?_
        refine wp_iload_n dL_law_1614 rfl ?_
        refine wp_iconst dL_law_1615 ?_
        refine wp_iadd dL_law_1616 ?_
        obtain ⟨o541, h⟩ := h
        refine wp_sld dL_law_1617 o531 o541 o533 ?_
        refine wp_aload_n dL_law_1618 rfl (by decide) ?_
        refine wp_iload_n dL_law_1619 rfl ?_
        refine wp_iconst dL_law_1620 ?_
        refine wp_iadd dL_law_1621 ?_
        obtain ⟨o542, h⟩ := h
        refine wp_sld dL_law_1622 o534 o542 o536 ?_
        refine wp_aload_n dL_law_1623 rfl (by decide) ?_
        refine wp_iload_n dL_law_1624 rfl ?_
        refine wp_iconst dL_law_1625 ?_
        refine wp_iadd dL_law_1626 ?_
        obtain ⟨o543, h⟩ := h
        refine wp_sld dL_law_1627 o537 o543 o539 ?_
        refine wp_callV (e1 := 0) (as := [Iv (M540 0 (x3 + 1)), Iv (M540 0 (x3 + 2)), Iv (M540 0 (x3 + 3))]) (S := [Iv z540]) dL_law_1628 (cs_L_171 rfl) kd_88 rfl rfl (Nat.le_of_ble_eq_true rfl) (Nat.le_of_ble_eq_true rfl) h (fun v544 M544 q544 r544 => ?_)
        obtain ⟨z544, rfl⟩ := retV_i r544 rfl
        have h := q544
        obtain ⟨o545, h⟩ := h
        refine wp_icmp_eq (tgt := 1830) dL_law_1631 (by decide) o545 (fun q546 => ?_) (fun q546 => ?_)
        · have h := h.1 q546
          refine wp_iinc (L2 := [some (Rv 0), some (Rv 1), some (Rv 88), some (Iv (x3 + 6))]) dL_law_1830 rfl (Nat.le_of_ble_eq_true rfl) (Nat.le_of_ble_eq_true rfl) rfl ?_
          refine wp_goto (tgt := 18) dL_law_1833 (by decide) ?_
          exact h
        · have h := h.2 q546
          refine wp_iconst dL_law_1634 ?_
          exact wp_zret dL_law_1635 rfl (Or.inr ⟨rfl, rfl, rfl, by decide⟩) rfl (by decide) h
      · refine wp_tableIn (off := 1603) (tgt := 1636) dL_law_33 o6 (by omega) (by omega) (by rw [q7]; rfl) (by decide) ?_
        have h := h.2.2.2.2.2.2.2.2.2.2.2.2.2.2.2.2.2.2.2.2.2.2.2.2.2.2.2.2.2.2.2.2.2.2.2.2.2.2.1 q7
        refine wp_aload_n dL_law_1636 rfl (by decide) ?_
        refine wp_aload_n dL_law_1637 rfl (by decide) ?_
        refine wp_iload_n dL_law_1638 rfl ?_
        refine wp_iconst dL_law_1639 ?_
        refine wp_iadd dL_law_1640 ?_
        obtain ⟨o547, h⟩ := h
        obtain ⟨o548, h⟩ := h
        obtain ⟨o549, h⟩ := h
        refine wp_sld dL_law_1641 o547 o548 o549 ?_
        refine wp_aload_n dL_law_1642 rfl (by decide) ?_
        refine wp_iload_n dL_law_1643 rfl ?_
        refine wp_iconst dL_law_1644 ?_
        refine wp_iadd dL_law_1645 ?_
        obtain ⟨o550, h⟩ := h
        obtain ⟨o551, h⟩ := h
        obtain ⟨o552, h⟩ := h
        refine wp_sld dL_law_1646 o550 o551 o552 ?_
        refine wp_callV (e1 := 0) (as := [Iv (M 0 (x3 + 1)), Iv (M 0 (x3 + 2))]) (S := []) dL_law_1647 (cs_L_172 rfl) kd_1 rfl rfl (Nat.le_of_ble_eq_true rfl) (Nat.le_of_ble_eq_true rfl) h (fun v553 M553 q553 r553 => ?_)
        obtain ⟨z553, rfl⟩ := retV_i r553 rfl
        have h := q553
        refine wp_aload_n dL_law_1650 rfl (by decide) ?_
        refine wp_aload_n dL_law_1651 rfl (by decide) ?_
        refine wp_iload_n dL_law_1652 rfl ?_
        refine wp_iconst dL_law_1653 ?_
        refine wp_iadd dL_law_1654 ?_
        obtain ⟨o554, h⟩ := h
        refine wp_sld dL_law_1655 o547 o554 o549 ?_
        refine wp_aload_n dL_law_1656 rfl (by decide) ?_
        refine wp_iload_n dL_law_1657 rfl ?_
        refine wp_iconst dL_law_1658 ?_
        refine wp_iadd dL_law_1659 ?_
        obtain ⟨o555, h⟩ := h
        refine wp_sld dL_law_1660 o550 o555 o552 ?_
        refine wp_callV (e1 := 0) (as := [Iv (M553 0 (x3 + 1)), Iv (M553 0 (x3 + 2))]) (S := [Iv z553]) dL_law_1661 (cs_L_175 rfl) kd_88 rfl rfl (Nat.le_of_ble_eq_true rfl) (Nat.le_of_ble_eq_true rfl) h (fun v556 M556 q556 r556 => ?_)
        obtain ⟨z556, rfl⟩ := retV_i r556 rfl
        have h := q556
        obtain ⟨o557, h⟩ := h
        refine wp_icmp_eq (tgt := 1830) dL_law_1664 (by decide) o557 (fun q558 => ?_) (fun q558 => ?_)
        · have h := h.1 q558
          refine wp_iinc (L2 := [some (Rv 0), some (Rv 1), some (Rv 88), some (Iv (x3 + 6))]) dL_law_1830 rfl (Nat.le_of_ble_eq_true rfl) (Nat.le_of_ble_eq_true rfl) rfl ?_
          refine wp_goto (tgt := 18) dL_law_1833 (by decide) ?_
          exact h
        · have h := h.2 q558
          refine wp_iconst dL_law_1667 ?_
          exact wp_zret dL_law_1668 rfl (Or.inr ⟨rfl, rfl, rfl, by decide⟩) rfl (by decide) h
      · refine wp_tableIn (off := 1636) (tgt := 1669) dL_law_33 o6 (by omega) (by omega) (by rw [q7]; rfl) (by decide) ?_
        have h := h.2.2.2.2.2.2.2.2.2.2.2.2.2.2.2.2.2.2.2.2.2.2.2.2.2.2.2.2.2.2.2.2.2.2.2.2.2.2.2.1 q7
        refine wp_aload_n dL_law_1669 rfl (by decide) ?_
        refine wp_aload_n dL_law_1670 rfl (by decide) ?_
        refine wp_iload_n dL_law_1671 rfl ?_
        refine wp_iconst dL_law_1672 ?_
        refine wp_iadd dL_law_1673 ?_
        obtain ⟨o559, h⟩ := h
        obtain ⟨o560, h⟩ := h
        obtain ⟨o561, h⟩ := h
        refine wp_sld dL_law_1674 o559 o560 o561 ?_
        refine wp_aload_n dL_law_1675 rfl (by decide) ?_
        refine wp_iload_n dL_law_1676 rfl ?_
        refine wp_iconst dL_law_1677 ?_
        refine wp_iadd dL_law_1678 ?_
        obtain ⟨o562, h⟩ := h
        obtain ⟨o563, h⟩ := h
        obtain ⟨o564, h⟩ := h
        refine wp_sld dL_law_1679 o562 o563 o564 ?_
        refine wp_callV (e1 := 0) (as := [Iv (M 0 (x3 + 1)), Iv (M 0 (x3 + 2))]) (S := []) dL_law_1680 (cs_L_176 rfl) kd_1 rfl rfl (Nat.le_of_ble_eq_true rfl) (Nat.le_of_ble_eq_true rfl) h (fun v565 M565 q565 r565 => ?_)
        obtain ⟨z565, rfl⟩ := retV_i r565 rfl
        have h := q565
        refine wp_aload_n dL_law_1683 rfl (by decide) ?_
        refine wp_aload_n dL_law_1684 rfl (by decide) ?_
        refine wp_iload_n dL_law_1685 rfl ?_
        refine wp_iconst dL_law_1686 ?_
        refine wp_iadd dL_law_1687 ?_
        obtain ⟨o566, h⟩ := h
        refine wp_sld dL_law_1688 o559 o566 o561 ?_
        refine wp_aload_n dL_law_1689 rfl (by decide) ?_
        refine wp_iload_n dL_law_1690 rfl ?_
        refine wp_iconst dL_law_1691 ?_
        refine wp_iadd dL_law_1692 ?_
        obtain ⟨o567, h⟩ := h
        refine wp_sld dL_law_1693 o562 o567 o564 ?_
        refine wp_callV (e1 := 0) (as := [Iv (M565 0 (x3 + 1)), Iv (M565 0 (x3 + 2))]) (S := [Iv z565]) dL_law_1694 (cs_L_179 rfl) kd_88 rfl rfl (Nat.le_of_ble_eq_true rfl) (Nat.le_of_ble_eq_true rfl) h (fun v568 M568 q568 r568 => ?_)
        obtain ⟨z568, rfl⟩ := retV_i r568 rfl
        have h := q568
        obtain ⟨o569, h⟩ := h
        refine wp_icmp_eq (tgt := 1830) dL_law_1697 (by decide) o569 (fun q570 => ?_) (fun q570 => ?_)
        · have h := h.1 q570
          refine wp_iinc (L2 := [some (Rv 0), some (Rv 1), some (Rv 88), some (Iv (x3 + 6))]) dL_law_1830 rfl (Nat.le_of_ble_eq_true rfl) (Nat.le_of_ble_eq_true rfl) rfl ?_
          refine wp_goto (tgt := 18) dL_law_1833 (by decide) ?_
          exact h
        · have h := h.2 q570
          refine wp_iconst dL_law_1700 ?_
          exact wp_zret dL_law_1701 rfl (Or.inr ⟨rfl, rfl, rfl, by decide⟩) rfl (by decide) h
      · refine wp_tableIn (off := 1669) (tgt := 1702) dL_law_33 o6 (by omega) (by omega) (by rw [q7]; rfl) (by decide) ?_
        have h := h.2.2.2.2.2.2.2.2.2.2.2.2.2.2.2.2.2.2.2.2.2.2.2.2.2.2.2.2.2.2.2.2.2.2.2.2.2.2.2.2.1 q7
        refine wp_aload_n dL_law_1702 rfl (by decide) ?_
        refine wp_callV (e1 := 0) (as := []) (S := []) dL_law_1703 (cs_L_180 rfl) kd_1 rfl rfl (Nat.le_of_ble_eq_true rfl) (Nat.le_of_ble_eq_true rfl) h (fun v571 M571 q571 r571 => ?_)
        obtain ⟨z571, rfl⟩ := retV_i r571 rfl
        have h := q571
        refine wp_aload_n dL_law_1706 rfl (by decide) ?_
        refine wp_callV (e1 := 0) (as := []) (S := [Iv z571]) dL_law_1707 (cs_L_184 rfl) kd_88 rfl rfl (Nat.le_of_ble_eq_true rfl) (Nat.le_of_ble_eq_true rfl) h (fun v572 M572 q572 r572 => ?_)
        obtain ⟨z572, rfl⟩ := retV_i r572 rfl
        have h := q572
        obtain ⟨o573, h⟩ := h
        refine wp_icmp_eq (tgt := 1830) dL_law_1710 (by decide) o573 (fun q574 => ?_) (fun q574 => ?_)
        · have h := h.1 q574
          refine wp_iinc (L2 := [some (Rv 0), some (Rv 1), some (Rv 88), some (Iv (x3 + 6))]) dL_law_1830 rfl (Nat.le_of_ble_eq_true rfl) (Nat.le_of_ble_eq_true rfl) rfl ?_
          refine wp_goto (tgt := 18) dL_law_1833 (by decide) ?_
          exact h
        · have h := h.2 q574
          refine wp_iconst dL_law_1713 ?_
          exact wp_zret dL_law_1714 rfl (Or.inr ⟨rfl, rfl, rfl, by decide⟩) rfl (by decide) h
      · refine wp_tableIn (off := 1682) (tgt := 1715) dL_law_33 o6 (by omega) (by omega) (by rw [q7]; rfl) (by decide) ?_
        have h := h.2.2.2.2.2.2.2.2.2.2.2.2.2.2.2.2.2.2.2.2.2.2.2.2.2.2.2.2.2.2.2.2.2.2.2.2.2.2.2.2.2.1 q7
        refine wp_aload_n dL_law_1715 rfl (by decide) ?_
        refine wp_callV (e1 := 0) (as := []) (S := []) dL_law_1716 (cs_L_185 rfl) kd_1 rfl rfl (Nat.le_of_ble_eq_true rfl) (Nat.le_of_ble_eq_true rfl) h (fun v575 M575 q575 r575 => ?_)
        obtain ⟨z575, rfl⟩ := retV_j r575 rfl
        have h := q575
        refine wp_aload_n dL_law_1719 rfl (by decide) ?_
        refine wp_callV (e1 := 0) (as := []) (S := [Jv z575]) dL_law_1720 (cs_L_189 rfl) kd_88 rfl rfl (Nat.le_of_ble_eq_true rfl) (Nat.le_of_ble_eq_true rfl) h (fun v576 M576 q576 r576 => ?_)
        obtain ⟨z576, rfl⟩ := retV_j r576 rfl
        have h := q576
        obtain ⟨o577, h⟩ := h
        refine wp_lcmp dL_law_1723 o577 ?_
        refine wp_if_eq (tgt := 1830) dL_law_1724 (by decide) lc_inr (fun q578 => ?_) (fun q578 => ?_)
        · have q578 := lc_eq.mp q578
          have h := h.1 q578
          refine wp_iinc (L2 := [some (Rv 0), some (Rv 1), some (Rv 88), some (Iv (x3 + 6))]) dL_law_1830 rfl (Nat.le_of_ble_eq_true rfl) (Nat.le_of_ble_eq_true rfl) rfl ?_
          refine wp_goto (tgt := 18) dL_law_1833 (by decide) ?_
          exact h
        · have q578 := lc_ne.mp q578
          have h := h.2 q578
          refine wp_iconst dL_law_1727 ?_
          exact wp_zret dL_law_1728 rfl (Or.inr ⟨rfl, rfl, rfl, by decide⟩) rfl (by decide) h
      · refine wp_tableIn (off := 1696) (tgt := 1729) dL_law_33 o6 (by omega) (by omega) (by rw [q7]; rfl) (by decide) ?_
        have h := h.2.2.2.2.2.2.2.2.2.2.2.2.2.2.2.2.2.2.2.2.2.2.2.2.2.2.2.2.2.2.2.2.2.2.2.2.2.2.2.2.2.2.1 q7
        refine wp_aload_n dL_law_1729 rfl (by decide) ?_
        refine wp_callV (e1 := 0) (as := []) (S := []) dL_law_1730 (cs_L_190 rfl) kd_1 rfl rfl (Nat.le_of_ble_eq_true rfl) (Nat.le_of_ble_eq_true rfl) h (fun v579 M579 q579 r579 => ?_)
        obtain ⟨z579, rfl⟩ := retV_j r579 rfl
        have h := q579
        refine wp_aload_n dL_law_1733 rfl (by decide) ?_
        refine wp_callV (e1 := 0) (as := []) (S := [Jv z579]) dL_law_1734 (cs_L_193 rfl) kd_88 rfl rfl (Nat.le_of_ble_eq_true rfl) (Nat.le_of_ble_eq_true rfl) h (fun v580 M580 q580 r580 => ?_)
        obtain ⟨z580, rfl⟩ := retV_j r580 rfl
        have h := q580
        obtain ⟨o581, h⟩ := h
        refine wp_lcmp dL_law_1737 o581 ?_
        refine wp_if_eq (tgt := 1830) dL_law_1738 (by decide) lc_inr (fun q582 => ?_) (fun q582 => ?_)
        · have q582 := lc_eq.mp q582
          have h := h.1 q582
          refine wp_iinc (L2 := [some (Rv 0), some (Rv 1), some (Rv 88), some (Iv (x3 + 6))]) dL_law_1830 rfl (Nat.le_of_ble_eq_true rfl) (Nat.le_of_ble_eq_true rfl) rfl ?_
          refine wp_goto (tgt := 18) dL_law_1833 (by decide) ?_
          exact h
        · have q582 := lc_ne.mp q582
          have h := h.2 q582
          refine wp_iconst dL_law_1741 ?_
          exact wp_zret dL_law_1742 rfl (Or.inr ⟨rfl, rfl, rfl, by decide⟩) rfl (by decide) h
      · refine wp_tableIn (off := 1710) (tgt := 1743) dL_law_33 o6 (by omega) (by omega) (by rw [q7]; rfl) (by decide) ?_
        have h := h.2.2.2.2.2.2.2.2.2.2.2.2.2.2.2.2.2.2.2.2.2.2.2.2.2.2.2.2.2.2.2.2.2.2.2.2.2.2.2.2.2.2.2.1 q7
        refine wp_aload_n dL_law_1743 rfl (by decide) ?_
        refine wp_callV (e1 := 0) (as := []) (S := []) dL_law_1744 (cs_L_194 rfl) kd_1 rfl rfl (Nat.le_of_ble_eq_true rfl) (Nat.le_of_ble_eq_true rfl) h (fun v583 M583 q583 r583 => ?_)
        obtain ⟨z583, rfl⟩ := retV_j r583 rfl
        have h := q583
        refine wp_aload_n dL_law_1747 rfl (by decide) ?_
        refine wp_callV (e1 := 0) (as := []) (S := [Jv z583]) dL_law_1748 (cs_L_197 rfl) kd_88 rfl rfl (Nat.le_of_ble_eq_true rfl) (Nat.le_of_ble_eq_true rfl) h (fun v584 M584 q584 r584 => ?_)
        obtain ⟨z584, rfl⟩ := retV_j r584 rfl
        have h := q584
        obtain ⟨o585, h⟩ := h
        refine wp_lcmp dL_law_1751 o585 ?_
        refine wp_if_eq (tgt := 1830) dL_law_1752 (by decide) lc_inr (fun q586 => ?_) (fun q586 => ?_)
        · have q586 := lc_eq.mp q586
          have h := h.1 q586
          refine wp_iinc (L2 := [some (Rv 0), some (Rv 1), some (Rv 88), some (Iv (x3 + 6))]) dL_law_1830 rfl (Nat.le_of_ble_eq_true rfl) (Nat.le_of_ble_eq_true rfl) rfl ?_
          refine wp_goto (tgt := 18) dL_law_1833 (by decide) ?_
          exact h
        · have q586 := lc_ne.mp q586
          have h := h.2 q586
          refine wp_iconst dL_law_1755 ?_
          exact wp_zret dL_law_1756 rfl (Or.inr ⟨rfl, rfl, rfl, by decide⟩) rfl (by decide) h
      · refine wp_tableIn (off := 1724) (tgt := 1757) dL_law_33 o6 (by omega) (by omega) (by rw [q7]; rfl) (by decide) ?_
        have h := h.2.2.2.2.2.2.2.2.2.2.2.2.2.2.2.2.2.2.2.2.2.2.2.2.2.2.2.2.2.2.2.2.2.2.2.2.2.2.2.2.2.2.2.2.1 q7
        refine wp_aload_n dL_law_1757 rfl (by decide) ?_
        refine wp_aload_n dL_law_1758 rfl (by decide) ?_
        refine wp_iload_n dL_law_1759 rfl ?_
        refine wp_iconst dL_law_1760 ?_
        refine wp_iadd dL_law_1761 ?_
        obtain ⟨o587, h⟩ := h
        obtain ⟨o588, h⟩ := h
        obtain ⟨o589, h⟩ := h
        refine wp_sld dL_law_1762 o587 o588 o589 ?_
        refine wp_callV (e1 := 0) (as := [Iv (M 0 (x3 + 1))]) (S := []) dL_law_1763 (cs_L_198 rfl) kd_1 rfl rfl (Nat.le_of_ble_eq_true rfl) (Nat.le_of_ble_eq_true rfl) h (fun v590 M590 q590 r590 => ?_)
        obtain ⟨z590, rfl⟩ := retV_i r590 rfl
        have h := q590
        refine wp_aload_n dL_law_1766 rfl (by decide) ?_
        refine wp_aload_n dL_law_1767 rfl (by decide) ?_
        refine wp_iload_n dL_law_1768 rfl ?_
        refine wp_iconst dL_law_1769 ?_
        refine wp_iadd dL_law_1770 ?_
        obtain ⟨o591, h⟩ := h
        refine wp_sld dL_law_1771 o587 o591 o589 ?_
        refine wp_callV (e1 := 0) (as := [Iv (M590 0 (x3 + 1))]) (S := [Iv z590]) dL_law_1772 (cs_L_201 rfl) kd_88 rfl rfl (Nat.le_of_ble_eq_true rfl) (Nat.le_of_ble_eq_true rfl) h (fun v592 M592 q592 r592 => ?_)
        obtain ⟨z592, rfl⟩ := retV_i r592 rfl
        have h := q592
        obtain ⟨o593, h⟩ := h
        refine wp_icmp_eq (tgt := 1830) dL_law_1775 (by decide) o593 (fun q594 => ?_) (fun q594 => ?_)
        · have h := h.1 q594
          refine wp_iinc (L2 := [some (Rv 0), some (Rv 1), some (Rv 88), some (Iv (x3 + 6))]) dL_law_1830 rfl (Nat.le_of_ble_eq_true rfl) (Nat.le_of_ble_eq_true rfl) rfl ?_
          refine wp_goto (tgt := 18) dL_law_1833 (by decide) ?_
          exact h
        · have h := h.2 q594
          refine wp_iconst dL_law_1778 ?_
          exact wp_zret dL_law_1779 rfl (Or.inr ⟨rfl, rfl, rfl, by decide⟩) rfl (by decide) h
      · refine wp_tableIn (off := 1747) (tgt := 1780) dL_law_33 o6 (by omega) (by omega) (by rw [q7]; rfl) (by decide) ?_
        have h := h.2.2.2.2.2.2.2.2.2.2.2.2.2.2.2.2.2.2.2.2.2.2.2.2.2.2.2.2.2.2.2.2.2.2.2.2.2.2.2.2.2.2.2.2.2.1 q7
        refine wp_aload_n dL_law_1780 rfl (by decide) ?_
        refine wp_callV (e1 := 0) (as := []) (S := []) dL_law_1781 (cs_L_202 rfl) kd_1 rfl rfl (Nat.le_of_ble_eq_true rfl) (Nat.le_of_ble_eq_true rfl) h (fun v595 M595 q595 r595 => ?_)
        obtain ⟨z595, rfl⟩ := retV_i r595 rfl
        have h := q595
        refine wp_aload_n dL_law_1784 rfl (by decide) ?_
        refine wp_callV (e1 := 0) (as := []) (S := [Iv z595]) dL_law_1785 (cs_L_205 rfl) kd_88 rfl rfl (Nat.le_of_ble_eq_true rfl) (Nat.le_of_ble_eq_true rfl) h (fun v596 M596 q596 r596 => ?_)
        obtain ⟨z596, rfl⟩ := retV_i r596 rfl
        have h := q596
        obtain ⟨o597, h⟩ := h
        refine wp_icmp_eq (tgt := 1830) dL_law_1788 (by decide) o597 (fun q598 => ?_) (fun q598 => ?_)
        · have h := h.1 q598
          refine wp_iinc (L2 := [some (Rv 0), some (Rv 1), some (Rv 88), some (Iv (x3 + 6))]) dL_law_1830 rfl (Nat.le_of_ble_eq_true rfl) (Nat.le_of_ble_eq_true rfl) rfl ?_
          refine wp_goto (tgt := 18) dL_law_1833 (by decide) ?_
          exact h
        · have h := h.2 q598
          refine wp_iconst dL_law_1791 ?_
          exact wp_zret dL_law_1792 rfl (Or.inr ⟨rfl, rfl, rfl, by decide⟩) rfl (by decide) h
      · refine wp_tableIn (off := 1760) (tgt := 1793) dL_law_33 o6 (by omega) (by omega) (by rw [q7]; rfl) (by decide) ?_
        have h := h.2.2.2.2.2.2.2.2.2.2.2.2.2.2.2.2.2.2.2.2.2.2.2.2.2.2.2.2.2.2.2.2.2.2.2.2.2.2.2.2.2.2.2.2.2.2.1 q7
        refine wp_aload_n dL_law_1793 rfl (by decide) ?_
        refine wp_aload_n dL_law_1794 rfl (by decide) ?_
        refine wp_iload_n dL_law_1795 rfl ?_
        refine wp_iconst dL_law_1796 ?_
        refine wp_iadd dL_law_1797 ?_
        obtain ⟨o599, h⟩ := h
        obtain ⟨o600, h⟩ := h
        obtain ⟨o601, h⟩ := h
        refine wp_sld dL_law_1798 o599 o600 o601 ?_
        refine wp_callV (e1 := 0) (as := [Iv (M 0 (x3 + 1))]) (S := []) dL_law_1799 (cs_L_206 rfl) kd_1 rfl rfl (Nat.le_of_ble_eq_true rfl) (Nat.le_of_ble_eq_true rfl) h (fun v602 M602 q602 r602 => ?_)
        obtain ⟨z602, rfl⟩ := retV_i r602 rfl
        have h := q602
        refine wp_aload_n dL_law_1802 rfl (by decide) ?_
        refine wp_aload_n dL_law_1803 rfl (by decide) ?_
        refine wp_iload_n dL_law_1804 rfl ?_
        refine wp_iconst dL_law_1805 ?_
        refine wp_iadd dL_law_1806 ?_
        obtain ⟨o603, h⟩ := h
        refine wp_sld dL_law_1807 o599 o603 o601 ?_
        refine wp_callV (e1 := 0) (as := [Iv (M602 0 (x3 + 1))]) (S := [Iv z602]) dL_law_1808 (cs_L_209 rfl) kd_88 rfl rfl (Nat.le_of_ble_eq_true rfl) (Nat.le_of_ble_eq_true rfl) h (fun v604 M604 q604 r604 => ?_)
        obtain ⟨z604, rfl⟩ := retV_i r604 rfl
        have h := q604
        obtain ⟨o605, h⟩ := h
        refine wp_icmp_eq (tgt := 1830) dL_law_1811 (by decide) o605 (fun q606 => ?_) (fun q606 => ?_)
        · have h := h.1 q606
          refine wp_iinc (L2 := [some (Rv 0), some (Rv 1), some (Rv 88), some (Iv (x3 + 6))]) dL_law_1830 rfl (Nat.le_of_ble_eq_true rfl) (Nat.le_of_ble_eq_true rfl) rfl ?_
          refine wp_goto (tgt := 18) dL_law_1833 (by decide) ?_
          exact h
        · have h := h.2 q606
          refine wp_iconst dL_law_1814 ?_
          exact wp_zret dL_law_1815 rfl (Or.inr ⟨rfl, rfl, rfl, by decide⟩) rfl (by decide) h
      · refine wp_tableIn (off := 1783) (tgt := 1816) dL_law_33 o6 (by omega) (by omega) (by rw [q7]; rfl) (by decide) ?_
        have h := h.2.2.2.2.2.2.2.2.2.2.2.2.2.2.2.2.2.2.2.2.2.2.2.2.2.2.2.2.2.2.2.2.2.2.2.2.2.2.2.2.2.2.2.2.2.2.2 q7
        refine wp_aload_n dL_law_1816 rfl (by decide) ?_
        refine wp_callV (e1 := 0) (as := []) (S := []) dL_law_1817 (cs_L_210 rfl) kd_1 rfl rfl (Nat.le_of_ble_eq_true rfl) (Nat.le_of_ble_eq_true rfl) h (fun v607 M607 q607 r607 => ?_)
        obtain ⟨z607, rfl⟩ := retV_j r607 rfl
        have h := q607
        refine wp_aload_n dL_law_1820 rfl (by decide) ?_
        refine wp_callV (e1 := 0) (as := []) (S := [Jv z607]) dL_law_1821 (cs_L_213 rfl) kd_88 rfl rfl (Nat.le_of_ble_eq_true rfl) (Nat.le_of_ble_eq_true rfl) h (fun v608 M608 q608 r608 => ?_)
        obtain ⟨z608, rfl⟩ := retV_j r608 rfl
        have h := q608
        obtain ⟨o609, h⟩ := h
        refine wp_lcmp dL_law_1824 o609 ?_
        refine wp_if_eq (tgt := 1830) dL_law_1825 (by decide) lc_inr (fun q610 => ?_) (fun q610 => ?_)
        · have q610 := lc_eq.mp q610
          have h := h.1 q610
          refine wp_iinc (L2 := [some (Rv 0), some (Rv 1), some (Rv 88), some (Iv (x3 + 6))]) dL_law_1830 rfl (Nat.le_of_ble_eq_true rfl) (Nat.le_of_ble_eq_true rfl) rfl ?_
          refine wp_goto (tgt := 18) dL_law_1833 (by decide) ?_
          exact h
        · have q610 := lc_ne.mp q610
          have h := h.2 q610
          refine wp_iconst dL_law_1828 ?_
          exact wp_zret dL_law_1829 rfl (Or.inr ⟨rfl, rfl, rfl, by decide⟩) rfl (by decide) h
