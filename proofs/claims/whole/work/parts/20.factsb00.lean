/-- an instruction's length, and its place among the locals -/
def nc_lok (n : Nat) (i : Instr) (len : Nat) : Bool := match i with
  | .tableswitch _ _ _ _ => true
  | .istore_n k => Nat.beq len 1 && Nat.blt k.val n
  | .astore_n k => Nat.beq len 1 && Nat.blt k.val n
  | .lstore_n k => Nat.beq len 1 && Nat.blt (k.val + 1) n
  | .istore k => Nat.beq len 2 && Nat.blt k n
  | .astore k => Nat.beq len 2 && Nat.blt k n
  | .lstore k => Nat.beq len 2 && Nat.blt (k + 1) n
  | .iinc k _ => Nat.beq len 3 && Nat.blt k n
  | .bipush _ => Nat.beq len 2
  | .ldc _ => Nat.beq len 2
  | .iload _ => Nat.beq len 2
  | .lload _ => Nat.beq len 2
  | .aload _ => Nat.beq len 2
  | .sipush _ => Nat.beq len 3
  | .ldc_w _ => Nat.beq len 3
  | .ldc2_w _ => Nat.beq len 3
  | .goto _ => Nat.beq len 3
  | .ifCond _ _ => Nat.beq len 3
  | .if_icmp _ _ => Nat.beq len 3
  | .ifnull _ => Nat.beq len 3
  | .ifnonnull _ => Nat.beq len 3
  | .getfield _ => Nat.beq len 3
  | .putfield _ => Nat.beq len 3
  | .invokestatic _ => Nat.beq len 3
  | .invokevirtual _ => Nat.beq len 3
  | .invokespecial _ => true
  | .new _ => true
  | .newarray _ => true
  | .anewarray _ => true
  | _ => Nat.beq len 1
/-- a jump goes to a place -/
def nc_jok (pc : Nat) (i : Instr) : Bool := match i with
  | .goto o => decide (0 ≤ (pc : Int) + o)
  | .ifCond _ o => decide (0 ≤ (pc : Int) + o)
  | .if_icmp _ o => decide (0 ≤ (pc : Int) + o)
  | _ => true
def nc_dchk (b : ByteArray) (n : Nat) (l : List (Nat × Instr × Nat)) : Bool := l.all (fun q => decide (decode b q.1 = .ok (q.2.1, q.2.2)) && (nc_lok n q.2.1 q.2.2 && nc_jok q.1 q.2.1))
theorem nc_dk_X1_setAfter : nc_dchk cX1_setAfter 2 nc_c_X1_setAfter = true := by decide +kernel
theorem nc_dk_X1_countNews : nc_dchk cX1_countNews 3 nc_c_X1_countNews = true := by decide +kernel
theorem nc_dk_X2_isLie : nc_dchk cX2_isLie 2 nc_c_X2_isLie = true := by decide +kernel
theorem nc_dk_X2_allCows : nc_dchk cX2_allCows 1 nc_c_X2_allCows = true := by decide +kernel
theorem nc_dk_X2_allNews : nc_dchk cX2_allNews 1 nc_c_X2_allNews = true := by decide +kernel
theorem nc_dk_X2_slotOf : nc_dchk cX2_slotOf 4 nc_c_X2_slotOf = true := by decide +kernel
theorem nc_dk_X2_hedgesOf : nc_dchk cX2_hedgesOf 4 nc_c_X2_hedgesOf = true := by decide +kernel
theorem nc_dk_X2_comesTo : nc_dchk cX2_comesTo 8 nc_c_X2_comesTo = true := by decide +kernel
theorem nc_dk_X4_draw : nc_dchk cX4_draw 2 nc_c_X4_draw = true := by decide +kernel
theorem nc_dk_X5_clear : nc_dchk cX5_clear 1 nc_c_X5_clear = true := by decide +kernel
theorem nc_dk_X7_isDry : nc_dchk cX7_isDry 2 nc_c_X7_isDry = true := by decide +kernel
theorem nc_dk_X7_isCurdled : nc_dchk cX7_isCurdled 2 nc_c_X7_isCurdled = true := by decide +kernel
theorem nc_dk_X7_comes : nc_dchk cX7_comes 3 nc_c_X7_comes = true := by decide +kernel
theorem nc_dk_X7_addedBy : nc_dchk cX7_addedBy 5 nc_c_X7_addedBy = true := by decide +kernel
theorem nc_dk_X7_heardByOthers : nc_dchk cX7_heardByOthers 4 nc_c_X7_heardByOthers = true := by decide +kernel
theorem nc_dk_X7_talking : nc_dchk cX7_talking 4 nc_c_X7_talking = true := by decide +kernel
theorem nc_dk_X7_forget : nc_dchk cX7_forget 3 nc_c_X7_forget = true := by decide +kernel
theorem nc_dk_X7_allPails : nc_dchk cX7_allPails 3 nc_c_X7_allPails = true := by decide +kernel
theorem nc_dk_X7_pailsOn : nc_dchk cX7_pailsOn 3 nc_c_X7_pailsOn = true := by decide +kernel
theorem nc_dk_X9_clear : nc_dchk cX9_clear 1 nc_c_X9_clear = true := by decide +kernel
theorem nc_dk_X9_put : nc_dchk cX9_put 4 nc_c_X9_put = true := by decide +kernel
theorem nc_dk_X9_compares : nc_dchk cX9_compares 3 nc_c_X9_compares = true := by decide +kernel
theorem nc_dk_X10_withLetter : nc_dchk cX10_withLetter 3 nc_c_X10_withLetter = true := by decide +kernel
theorem nc_dk_X10_isLetter : nc_dchk cX10_isLetter 1 nc_c_X10_isLetter = true := by decide +kernel
theorem nc_dk_X10_isDigit : nc_dchk cX10_isDigit 1 nc_c_X10_isDigit = true := by decide +kernel
theorem nc_dk_X10_append : nc_dchk cX10_append 3 nc_c_X10_append = true := by decide +kernel
theorem nc_dk_X10_at : nc_dchk cX10_at 2 nc_c_X10_at = true := by decide +kernel
theorem nc_dk_X10_toldWord : nc_dchk cX10_toldWord 4 nc_c_X10_toldWord = true := by decide +kernel
theorem nc_dk_X10_add : nc_dchk cX10_add 6 nc_c_X10_add = true := by decide +kernel
theorem nc_dk_X10_next : nc_dchk cX10_next 1 nc_c_X10_next = true := by decide +kernel
theorem nc_dk_X10_fail : nc_dchk cX10_fail 2 nc_c_X10_fail = true := by decide +kernel
theorem nc_dk_X10_word : nc_dchk cX10_word 1 nc_c_X10_word = true := by decide +kernel
theorem nc_dk_X10_isSign : nc_dchk cX10_isSign 2 nc_c_X10_isSign = true := by decide +kernel
theorem nc_dk_X11_end : nc_dchk cX11_end 2 nc_c_X11_end = true := by decide +kernel
theorem nc_dk_X11_fault : nc_dchk cX11_fault 1 nc_c_X11_fault = true := by decide +kernel
theorem nc_dk_X11_told : nc_dchk cX11_told 1 nc_c_X11_told = true := by decide +kernel
theorem nc_dk_X11_planAt : nc_dchk cX11_planAt 2 nc_c_X11_planAt = true := by decide +kernel
theorem nc_dk_X11_parted : nc_dchk cX11_parted 1 nc_c_X11_parted = true := by decide +kernel
theorem nc_dk_X11_surely : nc_dchk cX11_surely 1 nc_c_X11_surely = true := by decide +kernel
theorem nc_dk_X11_ask : nc_dchk cX11_ask 1 nc_c_X11_ask = true := by decide +kernel
theorem nc_dk_X11_written : nc_dchk cX11_written 2 nc_c_X11_written = true := by decide +kernel
theorem nc_dk_X11_count : nc_dchk cX11_count 2 nc_c_X11_count = true := by decide +kernel
theorem nc_dk_X11_isFarm : nc_dchk cX11_isFarm 2 nc_c_X11_isFarm = true := by decide +kernel
theorem nc_dk_X11_isCow : nc_dchk cX11_isCow 2 nc_c_X11_isCow = true := by decide +kernel
theorem nc_dk_X11_isNews : nc_dchk cX11_isNews 2 nc_c_X11_isNews = true := by decide +kernel
theorem nc_dk_X11_cowsWith : nc_dchk cX11_cowsWith 5 nc_c_X11_cowsWith = true := by decide +kernel
theorem nc_dk_X12_thrown : nc_dchk cX12_thrown 1 nc_c_X12_thrown = true := by decide +kernel
