def RXs (ci : Nat) : String := match ci with | 0 => RX0 | 1 => RX1 | 2 => RX2 | 3 => RX3 | 4 => RX4 | 5 => RX5 | 6 => RX6 | 7 => RX7 | 8 => RX8 | 9 => RX9 | _ => ""
def TXs (ci : Nat) : u_T := match ci with | 0 => TX0 | 1 => TX1 | 2 => TX2 | 3 => TX3 | 4 => TX4 | 5 => TX5 | 6 => TX6 | 7 => TX7 | 8 => TX8 | 9 => TX9 | _ => TX0
def pIni (ci : Nat) : Nat := match ci with | 0 => 71 | 1 => 72 | 2 => 73 | 3 => 69 | 4 => 76 | 5 => 79 | 6 => 75 | 7 => 74 | 8 => 68 | 9 => 77 | _ => 0
def pIns (ci : Nat) : Nat := match ci with | 0 => 107 | 1 => 193 | 2 => 221 | 3 => 95 | 4 => 294 | 5 => 651 | 6 => 265 | 7 => 252 | 8 => 87 | 9 => 920 | _ => 0
def am_comp (kd : Nat) : String := match kd with | 1 => RX0 | 2 => RX5 | _ => RX4
def pOver (kd : Nat) : Nat := match kd with | 1 => 101 | 2 => 103 | _ => 293
def pArr : Nat := 156
def sC (c : Nat) : String := match c with | 0 => "WindPrice" | 1 => "WindPrice$Boat" | _ => "WindPrice$Voices"
def sNm (c : Nat) : String := match c with | 0 => "KIND_ABOVE" | 1 => "MOST" | _ => "BODIES"
def sIdx (c : Nat) : Nat := match c with | 0 => 18 | 1 => 38 | 2 => 40 | 3 => 106 | 4 => 108 | 5 => 110 | 6 => 112 | 7 => 114 | _ => 0
def sTx (c : Nat) : String := match c with | 0 => "" | 1 => "bhm" | 2 => "tpk" | 3 => "|" | 4 => "&" | 5 => "<=>" | 6 => "+-" | 7 => "*/%" | _ => ""
def pObj : Nat := 92
def pObjC : Nat := 93
def pAcN : Nat := 526
def pAcS : Nat := 525
def pAcI : Nat := 80
def pClN : Nat := 657
def pClI : Nat := 658
def pClM : Nat := 656
def pClS : Nat := 659
def pClC : Nat := 660
