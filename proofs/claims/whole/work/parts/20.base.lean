/-! THE PURE PART: the heap's form while the law runs. The cells that the constructors make keep their shapes; of references only those of rho change: tariff, spare, costs, next, read, rule, otherRule. -/
def pS (a : Nat) : Nat × Nat := bif Nat.blt a 162 then (bif Nat.blt a 81 then (bif Nat.blt a 40 then (bif Nat.blt a 20 then (bif Nat.blt a 10 then (bif Nat.blt a 5 then (bif Nat.blt a 2 then (bif Nat.blt a 1 then ((10, 0)) else ((9, 0))) else (bif Nat.blt a 3 then ((100, 80)) else (bif Nat.blt a 4 then ((6, 0)) else ((103, 12))))) else (bif Nat.blt a 7 then (bif Nat.blt a 6 then ((3, 0)) else ((100, 10))) else (bif Nat.blt a 8 then ((100, 10)) else (bif Nat.blt a 9 then ((100, 10)) else ((100, 60)))))) else (bif Nat.blt a 15 then (bif Nat.blt a 12 then (bif Nat.blt a 11 then ((100, 50)) else ((100, 10))) else (bif Nat.blt a 13 then ((100, 7)) else (bif Nat.blt a 14 then ((2, 0)) else ((100, 8))))) else (bif Nat.blt a 17 then (bif Nat.blt a 16 then ((100, 8)) else ((100, 8))) else (bif Nat.blt a 18 then ((100, 8)) else (bif Nat.blt a 19 then ((100, 8)) else ((7, 0))))))) else (bif Nat.blt a 30 then (bif Nat.blt a 25 then (bif Nat.blt a 22 then (bif Nat.blt a 21 then ((100, 4)) else ((100, 4))) else (bif Nat.blt a 23 then ((100, 4)) else (bif Nat.blt a 24 then ((100, 30)) else ((4, 0))))) else (bif Nat.blt a 27 then (bif Nat.blt a 26 then ((104, 13)) else ((7, 0))) else (bif Nat.blt a 28 then ((100, 4)) else (bif Nat.blt a 29 then ((100, 4)) else ((100, 4)))))) else (bif Nat.blt a 35 then (bif Nat.blt a 32 then (bif Nat.blt a 31 then ((100, 30)) else ((7, 0))) else (bif Nat.blt a 33 then ((100, 4)) else (bif Nat.blt a 34 then ((100, 4)) else ((100, 4))))) else (bif Nat.blt a 37 then (bif Nat.blt a 36 then ((100, 30)) else ((7, 0))) else (bif Nat.blt a 38 then ((100, 4)) else (bif Nat.blt a 39 then ((100, 4)) else ((100, 4)))))))) else (bif Nat.blt a 60 then (bif Nat.blt a 50 then (bif Nat.blt a 45 then (bif Nat.blt a 42 then (bif Nat.blt a 41 then ((100, 30)) else ((7, 0))) else (bif Nat.blt a 43 then ((100, 4)) else (bif Nat.blt a 44 then ((100, 4)) else ((100, 4))))) else (bif Nat.blt a 47 then (bif Nat.blt a 46 then ((100, 30)) else ((7, 0))) else (bif Nat.blt a 48 then ((100, 4)) else (bif Nat.blt a 49 then ((100, 4)) else ((100, 4)))))) else (bif Nat.blt a 55 then (bif Nat.blt a 52 then (bif Nat.blt a 51 then ((100, 30)) else ((7, 0))) else (bif Nat.blt a 53 then ((100, 4)) else (bif Nat.blt a 54 then ((100, 4)) else ((100, 4))))) else (bif Nat.blt a 57 then (bif Nat.blt a 56 then ((100, 30)) else ((7, 0))) else (bif Nat.blt a 58 then ((100, 4)) else (bif Nat.blt a 59 then ((100, 4)) else ((100, 4))))))) else (bif Nat.blt a 70 then (bif Nat.blt a 65 then (bif Nat.blt a 62 then (bif Nat.blt a 61 then ((100, 30)) else ((7, 0))) else (bif Nat.blt a 63 then ((100, 4)) else (bif Nat.blt a 64 then ((100, 4)) else ((100, 4))))) else (bif Nat.blt a 67 then (bif Nat.blt a 66 then ((100, 30)) else ((7, 0))) else (bif Nat.blt a 68 then ((100, 4)) else (bif Nat.blt a 69 then ((100, 4)) else ((100, 4)))))) else (bif Nat.blt a 75 then (bif Nat.blt a 72 then (bif Nat.blt a 71 then ((100, 30)) else ((7, 0))) else (bif Nat.blt a 73 then ((100, 4)) else (bif Nat.blt a 74 then ((100, 4)) else ((100, 4))))) else (bif Nat.blt a 78 then (bif Nat.blt a 76 then ((100, 30)) else (bif Nat.blt a 77 then ((7, 0)) else ((100, 4)))) else (bif Nat.blt a 79 then ((100, 4)) else (bif Nat.blt a 80 then ((100, 4)) else ((100, 30))))))))) else (bif Nat.blt a 121 then (bif Nat.blt a 101 then (bif Nat.blt a 91 then (bif Nat.blt a 86 then (bif Nat.blt a 83 then (bif Nat.blt a 82 then ((7, 0)) else ((100, 4))) else (bif Nat.blt a 84 then ((100, 4)) else (bif Nat.blt a 85 then ((100, 4)) else ((100, 30))))) else (bif Nat.blt a 88 then (bif Nat.blt a 87 then ((7, 0)) else ((100, 4))) else (bif Nat.blt a 89 then ((100, 4)) else (bif Nat.blt a 90 then ((100, 4)) else ((100, 30)))))) else (bif Nat.blt a 96 then (bif Nat.blt a 93 then (bif Nat.blt a 92 then ((104, 2)) else ((7, 0))) else (bif Nat.blt a 94 then ((100, 4)) else (bif Nat.blt a 95 then ((100, 4)) else ((100, 4))))) else (bif Nat.blt a 98 then (bif Nat.blt a 97 then ((100, 30)) else ((7, 0))) else (bif Nat.blt a 99 then ((100, 4)) else (bif Nat.blt a 100 then ((100, 4)) else ((100, 4))))))) else (bif Nat.blt a 111 then (bif Nat.blt a 106 then (bif Nat.blt a 103 then (bif Nat.blt a 102 then ((100, 30)) else ((102, 2))) else (bif Nat.blt a 104 then ((0, 0)) else (bif Nat.blt a 105 then ((100, 6)) else ((100, 6))))) else (bif Nat.blt a 108 then (bif Nat.blt a 107 then ((100, 7)) else ((100, 10))) else (bif Nat.blt a 109 then ((5, 0)) else (bif Nat.blt a 110 then ((100, 12)) else ((100, 12)))))) else (bif Nat.blt a 116 then (bif Nat.blt a 113 then (bif Nat.blt a 112 then ((100, 13)) else ((100, 1536))) else (bif Nat.blt a 114 then ((100, 1536)) else (bif Nat.blt a 115 then ((100, 21)) else ((100, 10))))) else (bif Nat.blt a 118 then (bif Nat.blt a 117 then ((100, 10)) else ((100, 5))) else (bif Nat.blt a 119 then ((100, 4)) else (bif Nat.blt a 120 then ((8, 0)) else ((100, 5)))))))) else (bif Nat.blt a 141 then (bif Nat.blt a 131 then (bif Nat.blt a 126 then (bif Nat.blt a 123 then (bif Nat.blt a 122 then ((100, 40)) else ((100, 40))) else (bif Nat.blt a 124 then ((100, 7)) else (bif Nat.blt a 125 then ((8, 0)) else ((100, 5))))) else (bif Nat.blt a 128 then (bif Nat.blt a 127 then ((100, 40)) else ((100, 40))) else (bif Nat.blt a 129 then ((100, 7)) else (bif Nat.blt a 130 then ((11, 0)) else ((100, 44)))))) else (bif Nat.blt a 136 then (bif Nat.blt a 133 then (bif Nat.blt a 132 then ((101, 60)) else ((100, 10))) else (bif Nat.blt a 134 then ((100, 20)) else (bif Nat.blt a 135 then ((100, 32)) else ((101, 80))))) else (bif Nat.blt a 138 then (bif Nat.blt a 137 then ((103, 20)) else ((101, 60))) else (bif Nat.blt a 139 then ((100, 10)) else (bif Nat.blt a 140 then ((100, 40)) else ((101, 40))))))) else (bif Nat.blt a 151 then (bif Nat.blt a 146 then (bif Nat.blt a 143 then (bif Nat.blt a 142 then ((101, 40)) else ((100, 7))) else (bif Nat.blt a 144 then ((100, 5)) else (bif Nat.blt a 145 then ((100, 528)) else ((100, 44))))) else (bif Nat.blt a 148 then (bif Nat.blt a 147 then ((100, 240)) else ((100, 13))) else (bif Nat.blt a 149 then ((100, 6)) else (bif Nat.blt a 150 then ((100, 6)) else ((100, 49)))))) else (bif Nat.blt a 156 then (bif Nat.blt a 153 then (bif Nat.blt a 152 then ((100, 1536)) else ((100, 1536))) else (bif Nat.blt a 154 then ((100, 10)) else (bif Nat.blt a 155 then ((100, 5)) else ((100, 4))))) else (bif Nat.blt a 159 then (bif Nat.blt a 157 then ((100, 4)) else (bif Nat.blt a 158 then ((100, 44)) else ((100, 88)))) else (bif Nat.blt a 160 then ((102, 2)) else (bif Nat.blt a 161 then ((100, 2)) else ((103, 1)))))))))) else (998, 0)
abbrev pQ : Type := (Nat × Nat) × (Nat → Nat × Nat)
abbrev pP : Type := (Nat × Nat) × (Nat × Nat) × (Option Nat) × (Nat × Nat)
def pR (ρ : pP) (a k : Nat) : Option Nat := bif Nat.blt a 162 then (bif Nat.blt a 81 then (bif Nat.blt a 40 then (bif Nat.blt a 20 then (bif Nat.blt a 10 then (bif Nat.blt a 5 then (bif Nat.blt a 2 then (bif Nat.blt a 1 then (bif Nat.beq k 0 then some 1 else bif Nat.beq k 1 then some 3 else bif Nat.beq k 2 then some 5 else bif Nat.beq k 3 then some 13 else bif Nat.beq k 4 then some 19 else bif Nat.beq k 5 then some 24 else bif Nat.beq k 6 then some 91 else bif Nat.beq k 7 then some 102 else bif Nat.beq k 8 then some 103 else bif Nat.beq k 9 then some 108 else bif Nat.beq k 10 then some 114 else bif Nat.beq k 11 then some 115 else bif Nat.beq k 12 then some 116 else bif Nat.beq k 13 then some 117 else bif Nat.beq k 14 then some 118 else bif Nat.beq k 15 then some ρ.1.1 else bif Nat.beq k 16 then some ρ.1.2 else none) else (bif Nat.beq k 0 then some 2 else none)) else (bif Nat.blt a 3 then (none) else (bif Nat.blt a 4 then (bif Nat.beq k 0 then some 4 else none) else (none)))) else (bif Nat.blt a 7 then (bif Nat.blt a 6 then (bif Nat.beq k 1 then some 6 else bif Nat.beq k 2 then some 7 else bif Nat.beq k 3 then some 8 else bif Nat.beq k 4 then some 9 else bif Nat.beq k 5 then some 10 else bif Nat.beq k 6 then some 11 else bif Nat.beq k 7 then some 12 else none) else (none)) else (bif Nat.blt a 8 then (none) else (bif Nat.blt a 9 then (none) else (none))))) else (bif Nat.blt a 15 then (bif Nat.blt a 12 then (bif Nat.blt a 11 then (none) else (none)) else (bif Nat.blt a 13 then (none) else (bif Nat.blt a 14 then (bif Nat.beq k 1 then some 14 else bif Nat.beq k 2 then some 15 else bif Nat.beq k 3 then some 16 else bif Nat.beq k 4 then some 17 else bif Nat.beq k 5 then some 18 else none) else (none)))) else (bif Nat.blt a 17 then (bif Nat.blt a 16 then (none) else (none)) else (bif Nat.blt a 18 then (none) else (bif Nat.blt a 19 then (none) else (bif Nat.beq k 2 then some 20 else bif Nat.beq k 3 then some 21 else bif Nat.beq k 4 then some 22 else bif Nat.beq k 5 then some 23 else none)))))) else (bif Nat.blt a 30 then (bif Nat.blt a 25 then (bif Nat.blt a 22 then (bif Nat.blt a 21 then (none) else (none)) else (bif Nat.blt a 23 then (none) else (bif Nat.blt a 24 then (none) else (bif Nat.beq k 0 then some 25 else none)))) else (bif Nat.blt a 27 then (bif Nat.blt a 26 then (bif Nat.beq k 0 then some 26 else bif Nat.beq k 1 then some 31 else bif Nat.beq k 2 then some 36 else bif Nat.beq k 3 then some 41 else bif Nat.beq k 4 then some 46 else bif Nat.beq k 5 then some 51 else bif Nat.beq k 6 then some 56 else bif Nat.beq k 7 then some 61 else bif Nat.beq k 8 then some 66 else bif Nat.beq k 9 then some 71 else bif Nat.beq k 10 then some 76 else bif Nat.beq k 11 then some 81 else bif Nat.beq k 12 then some 86 else none) else (bif Nat.beq k 2 then some 27 else bif Nat.beq k 3 then some 28 else bif Nat.beq k 4 then some 29 else bif Nat.beq k 5 then some 30 else none)) else (bif Nat.blt a 28 then (none) else (bif Nat.blt a 29 then (none) else (none))))) else (bif Nat.blt a 35 then (bif Nat.blt a 32 then (bif Nat.blt a 31 then (none) else (bif Nat.beq k 2 then some 32 else bif Nat.beq k 3 then some 33 else bif Nat.beq k 4 then some 34 else bif Nat.beq k 5 then some 35 else none)) else (bif Nat.blt a 33 then (none) else (bif Nat.blt a 34 then (none) else (none)))) else (bif Nat.blt a 37 then (bif Nat.blt a 36 then (none) else (bif Nat.beq k 2 then some 37 else bif Nat.beq k 3 then some 38 else bif Nat.beq k 4 then some 39 else bif Nat.beq k 5 then some 40 else none)) else (bif Nat.blt a 38 then (none) else (bif Nat.blt a 39 then (none) else (none))))))) else (bif Nat.blt a 60 then (bif Nat.blt a 50 then (bif Nat.blt a 45 then (bif Nat.blt a 42 then (bif Nat.blt a 41 then (none) else (bif Nat.beq k 2 then some 42 else bif Nat.beq k 3 then some 43 else bif Nat.beq k 4 then some 44 else bif Nat.beq k 5 then some 45 else none)) else (bif Nat.blt a 43 then (none) else (bif Nat.blt a 44 then (none) else (none)))) else (bif Nat.blt a 47 then (bif Nat.blt a 46 then (none) else (bif Nat.beq k 2 then some 47 else bif Nat.beq k 3 then some 48 else bif Nat.beq k 4 then some 49 else bif Nat.beq k 5 then some 50 else none)) else (bif Nat.blt a 48 then (none) else (bif Nat.blt a 49 then (none) else (none))))) else (bif Nat.blt a 55 then (bif Nat.blt a 52 then (bif Nat.blt a 51 then (none) else (bif Nat.beq k 2 then some 52 else bif Nat.beq k 3 then some 53 else bif Nat.beq k 4 then some 54 else bif Nat.beq k 5 then some 55 else none)) else (bif Nat.blt a 53 then (none) else (bif Nat.blt a 54 then (none) else (none)))) else (bif Nat.blt a 57 then (bif Nat.blt a 56 then (none) else (bif Nat.beq k 2 then some 57 else bif Nat.beq k 3 then some 58 else bif Nat.beq k 4 then some 59 else bif Nat.beq k 5 then some 60 else none)) else (bif Nat.blt a 58 then (none) else (bif Nat.blt a 59 then (none) else (none)))))) else (bif Nat.blt a 70 then (bif Nat.blt a 65 then (bif Nat.blt a 62 then (bif Nat.blt a 61 then (none) else (bif Nat.beq k 2 then some 62 else bif Nat.beq k 3 then some 63 else bif Nat.beq k 4 then some 64 else bif Nat.beq k 5 then some 65 else none)) else (bif Nat.blt a 63 then (none) else (bif Nat.blt a 64 then (none) else (none)))) else (bif Nat.blt a 67 then (bif Nat.blt a 66 then (none) else (bif Nat.beq k 2 then some 67 else bif Nat.beq k 3 then some 68 else bif Nat.beq k 4 then some 69 else bif Nat.beq k 5 then some 70 else none)) else (bif Nat.blt a 68 then (none) else (bif Nat.blt a 69 then (none) else (none))))) else (bif Nat.blt a 75 then (bif Nat.blt a 72 then (bif Nat.blt a 71 then (none) else (bif Nat.beq k 2 then some 72 else bif Nat.beq k 3 then some 73 else bif Nat.beq k 4 then some 74 else bif Nat.beq k 5 then some 75 else none)) else (bif Nat.blt a 73 then (none) else (bif Nat.blt a 74 then (none) else (none)))) else (bif Nat.blt a 78 then (bif Nat.blt a 76 then (none) else (bif Nat.blt a 77 then (bif Nat.beq k 2 then some 77 else bif Nat.beq k 3 then some 78 else bif Nat.beq k 4 then some 79 else bif Nat.beq k 5 then some 80 else none) else (none))) else (bif Nat.blt a 79 then (none) else (bif Nat.blt a 80 then (none) else (none)))))))) else (bif Nat.blt a 121 then (bif Nat.blt a 101 then (bif Nat.blt a 91 then (bif Nat.blt a 86 then (bif Nat.blt a 83 then (bif Nat.blt a 82 then (bif Nat.beq k 2 then some 82 else bif Nat.beq k 3 then some 83 else bif Nat.beq k 4 then some 84 else bif Nat.beq k 5 then some 85 else none) else (none)) else (bif Nat.blt a 84 then (none) else (bif Nat.blt a 85 then (none) else (none)))) else (bif Nat.blt a 88 then (bif Nat.blt a 87 then (bif Nat.beq k 2 then some 87 else bif Nat.beq k 3 then some 88 else bif Nat.beq k 4 then some 89 else bif Nat.beq k 5 then some 90 else none) else (none)) else (bif Nat.blt a 89 then (none) else (bif Nat.blt a 90 then (none) else (none))))) else (bif Nat.blt a 96 then (bif Nat.blt a 93 then (bif Nat.blt a 92 then (bif Nat.beq k 0 then some 92 else bif Nat.beq k 1 then some 97 else none) else (bif Nat.beq k 2 then some 93 else bif Nat.beq k 3 then some 94 else bif Nat.beq k 4 then some 95 else bif Nat.beq k 5 then some 96 else none)) else (bif Nat.blt a 94 then (none) else (bif Nat.blt a 95 then (none) else (none)))) else (bif Nat.blt a 98 then (bif Nat.blt a 97 then (none) else (bif Nat.beq k 2 then some 98 else bif Nat.beq k 3 then some 99 else bif Nat.beq k 4 then some 100 else bif Nat.beq k 5 then some 101 else none)) else (bif Nat.blt a 99 then (none) else (bif Nat.blt a 100 then (none) else (none)))))) else (bif Nat.blt a 111 then (bif Nat.blt a 106 then (bif Nat.blt a 103 then (bif Nat.blt a 102 then (none) else (none)) else (bif Nat.blt a 104 then (bif Nat.beq k 0 then some 104 else bif Nat.beq k 1 then some 105 else bif Nat.beq k 2 then some 106 else bif Nat.beq k 3 then some 107 else none) else (bif Nat.blt a 105 then (none) else (none)))) else (bif Nat.blt a 108 then (bif Nat.blt a 107 then (none) else (none)) else (bif Nat.blt a 109 then (bif Nat.beq k 0 then some 109 else bif Nat.beq k 1 then some 110 else bif Nat.beq k 4 then some 111 else bif Nat.beq k 5 then some ρ.2.1.1 else bif Nat.beq k 6 then some ρ.2.1.2 else none) else (bif Nat.blt a 110 then (none) else (none))))) else (bif Nat.blt a 116 then (bif Nat.blt a 113 then (bif Nat.blt a 112 then (none) else (none)) else (bif Nat.blt a 114 then (none) else (bif Nat.blt a 115 then (none) else (none)))) else (bif Nat.blt a 118 then (bif Nat.blt a 117 then (none) else (none)) else (bif Nat.blt a 119 then (none) else (bif Nat.blt a 120 then (bif Nat.beq k 0 then some 120 else bif Nat.beq k 1 then some 121 else bif Nat.beq k 2 then some 122 else bif Nat.beq k 3 then some 123 else none) else (none))))))) else (bif Nat.blt a 141 then (bif Nat.blt a 131 then (bif Nat.blt a 126 then (bif Nat.blt a 123 then (bif Nat.blt a 122 then (none) else (none)) else (bif Nat.blt a 124 then (none) else (bif Nat.blt a 125 then (bif Nat.beq k 0 then some 125 else bif Nat.beq k 1 then some 126 else bif Nat.beq k 2 then some 127 else bif Nat.beq k 3 then some 128 else none) else (none)))) else (bif Nat.blt a 128 then (bif Nat.blt a 127 then (none) else (none)) else (bif Nat.blt a 129 then (none) else (bif Nat.blt a 130 then (bif Nat.beq k 0 then some 130 else bif Nat.beq k 3 then some 131 else bif Nat.beq k 4 then some 132 else bif Nat.beq k 5 then some 133 else bif Nat.beq k 8 then some 134 else bif Nat.beq k 9 then some 135 else bif Nat.beq k 11 then some 136 else bif Nat.beq k 14 then ρ.2.2.1 else bif Nat.beq k 19 then some 137 else bif Nat.beq k 20 then some 138 else bif Nat.beq k 21 then some 139 else bif Nat.beq k 22 then some ρ.2.2.2.1 else bif Nat.beq k 23 then some ρ.2.2.2.2 else bif Nat.beq k 26 then some 142 else bif Nat.beq k 27 then some 143 else bif Nat.beq k 28 then some 144 else bif Nat.beq k 30 then some 145 else bif Nat.beq k 32 then some 146 else bif Nat.beq k 34 then some 147 else bif Nat.beq k 35 then some 148 else bif Nat.beq k 36 then some 149 else bif Nat.beq k 37 then some 150 else bif Nat.beq k 38 then some 151 else bif Nat.beq k 39 then some 152 else bif Nat.beq k 44 then some 153 else bif Nat.beq k 45 then some 154 else bif Nat.beq k 46 then some 155 else bif Nat.beq k 47 then some 156 else bif Nat.beq k 51 then some 157 else bif Nat.beq k 53 then some 158 else bif Nat.beq k 54 then some 159 else bif Nat.beq k 55 then some 160 else none) else (none))))) else (bif Nat.blt a 136 then (bif Nat.blt a 133 then (bif Nat.blt a 132 then (none) else (none)) else (bif Nat.blt a 134 then (none) else (bif Nat.blt a 135 then (none) else (none)))) else (bif Nat.blt a 138 then (bif Nat.blt a 137 then (none) else (none)) else (bif Nat.blt a 139 then (none) else (bif Nat.blt a 140 then (none) else (none)))))) else (bif Nat.blt a 151 then (bif Nat.blt a 146 then (bif Nat.blt a 143 then (bif Nat.blt a 142 then (none) else (none)) else (bif Nat.blt a 144 then (none) else (bif Nat.blt a 145 then (none) else (none)))) else (bif Nat.blt a 148 then (bif Nat.blt a 147 then (none) else (none)) else (bif Nat.blt a 149 then (none) else (bif Nat.blt a 150 then (none) else (none))))) else (bif Nat.blt a 156 then (bif Nat.blt a 153 then (bif Nat.blt a 152 then (none) else (none)) else (bif Nat.blt a 154 then (none) else (bif Nat.blt a 155 then (none) else (none)))) else (bif Nat.blt a 159 then (bif Nat.blt a 157 then (none) else (bif Nat.blt a 158 then (none) else (none))) else (bif Nat.blt a 160 then (none) else (bif Nat.blt a 161 then (none) else (none))))))))) else none
def pSx (f : Nat → Nat × Nat) (a : Nat) : Nat × Nat := bif Nat.blt a 162 then pS a else f a
abbrev pI : Type := Nat → Nat → Int32
abbrev pL : Type := Nat → Nat → Int64
def hp (q : pQ) (ρ : pP) (L : pL) (I : pI) : jH := (q.1, pSx q.2, I, L, pR ρ)
theorem ob {α β : Type} (a : α) (f : α → Option β) : Option.bind (some a) f = f a := rfl
theorem b2 {α β : Type} (a : α) (h : jH) (k : α → jH → Option β) : j_b2 (some (a, h)) k = k a h := rfl
theorem jn {α β : Type} (k : α) (b : α → β) : j_jn k b = b k := rfl
theorem jx_nI {j n : Nat} (h : j < n) (hn : n < 2147483648) : j_x (nI j) n = true := by
  simp only [j_x, nI_clamp (show j < 2 ^ 31 by omega), nI_pos (show j < 2 ^ 31 by omega), h, decide_true, decide_false, Bool.not_false, Bool.and_true]
theorem up_ne {α : Type} {f : Nat → Nat → α} {a k b : Nat} {x : α} (h : b ≠ a) : j_up f a k x b = f b := by
  funext j
  simp only [j_up, h, if_false]
theorem up_at {α : Type} {f : Nat → Nat → α} {a k j : Nat} {x : α} : j_up f a k x a j = if j = k then x else f a j := by
  simp only [j_up, if_true]
theorem up_eq {α : Type} {f : Nat → Nat → α} {a k : Nat} {x : α} : j_up f a k x a k = x := by
  simp only [j_up, if_true]
theorem up_nk {α : Type} {f : Nat → Nat → α} {a k b j : Nat} {x : α} (h : j ≠ k) : j_up f a k x b j = f b j := by
  simp only [j_up, h, if_false, ite_self]
theorem pSx_at {f : Nat → Nat × Nat} {a : Nat} (h : Nat.blt a 162 = true) : pSx f a = pS a := by
  unfold pSx
  rw [h]
  rfl
/-- an object's int, its reference, an object's int laid -/
theorem hg_I {q : pQ} {ρ : pP} {L : pL} {I : pI} {c k a : Nat} (h : Nat.blt a 162 = true) (e : pS a = (c, 0)) : jg_I c k (hp q ρ L I) a = some (I a k) := by
  show (if pSx q.2 a = (c, 0) then some (I a k) else none) = _
  rw [pSx_at h, if_pos e]
theorem hg_R {q : pQ} {ρ : pP} {L : pL} {I : pI} {c k a : Nat} {r : Option Nat} (h : Nat.blt a 162 = true) (e : pS a = (c, 0)) (er : pR ρ a k = r) : jg_R c k (hp q ρ L I) a = r := by
  show (if pSx q.2 a = (c, 0) then pR ρ a k else none) = _
  rw [pSx_at h, if_pos e, er]
theorem hq_I {q : pQ} {ρ : pP} {L : pL} {I : pI} {c k a : Nat} {x : Int32} (h : Nat.blt a 162 = true) (e : pS a = (c, 0)) : jp_I c k (hp q ρ L I) a x = some (hp q ρ L (j_up I a k x)) := by
  show (if pSx q.2 a = (c, 0) then _ else none) = _
  rw [pSx_at h, if_pos e]
  rfl
theorem hg_d {α : Type} {q : pQ} {ρ : pP} {L : pL} {I : pI} {c a : Nat} {x : Option α} (h : Nat.blt a 162 = true) (e : pS a = (c, 0)) : j_gd c (hp q ρ L I) a x = x := by
  show (if pSx q.2 a = (c, 0) then x else none) = _
  rw [pSx_at h, if_pos e]
theorem ha_I {q : pQ} {ρ : pP} {L : pL} {I : pI} {t n a j : Nat} (h : Nat.blt a 162 = true) (e : pS a = (t, n)) (hn : Nat.blt n 2147483648 = true) (hj : j < n) : ja_I t (hp q ρ L I) a (nI j) = some (I a j) := by
  show (if (pSx q.2 a).1 = t ∧ j_x (nI j) (pSx q.2 a).2 = true then some (I a (nI j).toNatClampNeg) else none) = _
  have hn' : n < 2147483648 := by rw [Nat.blt_eq] at hn; exact hn
  rw [pSx_at h, e, if_pos ⟨rfl, jx_nI hj hn'⟩, nI_clamp (by omega)]
theorem hb_I {q : pQ} {ρ : pP} {L : pL} {I : pI} {t n a j : Nat} {x : Int32} (h : Nat.blt a 162 = true) (e : pS a = (t, n)) (hn : Nat.blt n 2147483648 = true) (hj : j < n) : jb_I t (hp q ρ L I) a (nI j) x = some (hp q ρ L (j_up I a j x)) := by
  show (if (pSx q.2 a).1 = t ∧ j_x (nI j) (pSx q.2 a).2 = true then some (js_I (hp q ρ L I) a (nI j).toNatClampNeg x) else none) = _
  have hn' : n < 2147483648 := by rw [Nat.blt_eq] at hn; exact hn
  rw [pSx_at h, e, if_pos ⟨rfl, jx_nI hj hn'⟩, nI_clamp (by omega)]
  rfl
theorem ha_L {q : pQ} {ρ : pP} {L : pL} {I : pI} {n a j : Nat} (h : Nat.blt a 162 = true) (e : pS a = (103, n)) (hn : Nat.blt n 2147483648 = true) (hj : j < n) : ja_L (hp q ρ L I) a (nI j) = some (L a j) := by
  show (if (pSx q.2 a).1 = 103 ∧ j_x (nI j) (pSx q.2 a).2 = true then some (L a (nI j).toNatClampNeg) else none) = _
  have hn' : n < 2147483648 := by rw [Nat.blt_eq] at hn; exact hn
  rw [pSx_at h, e, if_pos ⟨rfl, jx_nI hj hn'⟩, nI_clamp (by omega)]
theorem hb_L {q : pQ} {ρ : pP} {L : pL} {I : pI} {n a j : Nat} {x : Int64} (h : Nat.blt a 162 = true) (e : pS a = (103, n)) (hn : Nat.blt n 2147483648 = true) (hj : j < n) : jb_L (hp q ρ L I) a (nI j) x = some (hp q ρ (j_up L a j x) I) := by
  show (if (pSx q.2 a).1 = 103 ∧ j_x (nI j) (pSx q.2 a).2 = true then some (js_L (hp q ρ L I) a (nI j).toNatClampNeg x) else none) = _
  have hn' : n < 2147483648 := by rw [Nat.blt_eq] at hn; exact hn
  rw [pSx_at h, e, if_pos ⟨rfl, jx_nI hj hn'⟩, nI_clamp (by omega)]
  rfl
theorem ha_R {q : pQ} {ρ : pP} {L : pL} {I : pI} {n a j : Nat} (h : Nat.blt a 162 = true) (e : pS a = (104, n)) (hn : Nat.blt n 2147483648 = true) (hj : j < n) : ja_R (hp q ρ L I) a (nI j) = pR ρ a j := by
  show (if (pSx q.2 a).1 = 104 ∧ j_x (nI j) (pSx q.2 a).2 = true then pR ρ a (nI j).toNatClampNeg else none) = _
  have hn' : n < 2147483648 := by rw [Nat.blt_eq] at hn; exact hn
  rw [pSx_at h, e, if_pos ⟨rfl, jx_nI hj hn'⟩, nI_clamp (by omega)]
theorem hn_l {q : pQ} {ρ : pP} {L : pL} {I : pI} {t n a : Nat} (h : Nat.blt a 162 = true) (e : pS a = (t, n)) : jn_len t (hp q ρ L I) a = some (nI n) := by
  show (if (pSx q.2 a).1 = t then some (Int32.ofNat (pSx q.2 a).2) else none) = _
  rw [pSx_at h, e, if_pos rfl]
  rfl
theorem kX (q : pQ) (ρ : pP) (L : pL) (I : pI) :
    (∀ {α : Type} (x : Option α), j_gd 10 (hp q ρ L I) 0 x = x) ∧
    jg_I 10 17 (hp q ρ L I) 0 = some (I 0 17) ∧
    (∀ x, jp_I 10 17 (hp q ρ L I) 0 x = some (hp q ρ L (j_up I 0 17 x))) ∧
    jg_I 10 18 (hp q ρ L I) 0 = some (I 0 18) ∧
    (∀ x, jp_I 10 18 (hp q ρ L I) 0 x = some (hp q ρ L (j_up I 0 18 x))) ∧
    jg_I 10 19 (hp q ρ L I) 0 = some (I 0 19) ∧
    (∀ x, jp_I 10 19 (hp q ρ L I) 0 x = some (hp q ρ L (j_up I 0 19 x))) ∧
    jg_R 10 0 (hp q ρ L I) 0 = some 1 ∧
    jg_R 10 1 (hp q ρ L I) 0 = some 3 ∧
    jg_R 10 2 (hp q ρ L I) 0 = some 5 ∧
    jg_R 10 3 (hp q ρ L I) 0 = some 13 ∧
    jg_R 10 4 (hp q ρ L I) 0 = some 19 ∧
    jg_R 10 5 (hp q ρ L I) 0 = some 24 ∧
    jg_R 10 6 (hp q ρ L I) 0 = some 91 ∧
    jg_R 10 7 (hp q ρ L I) 0 = some 102 ∧
    jg_R 10 8 (hp q ρ L I) 0 = some 103 ∧
    jg_R 10 9 (hp q ρ L I) 0 = some 108 ∧
    jg_R 10 10 (hp q ρ L I) 0 = some 114 ∧
    jg_R 10 11 (hp q ρ L I) 0 = some 115 ∧
    jg_R 10 12 (hp q ρ L I) 0 = some 116 ∧
    jg_R 10 13 (hp q ρ L I) 0 = some 117 ∧
    jg_R 10 14 (hp q ρ L I) 0 = some 118 ∧
    jg_R 10 15 (hp q ρ L I) 0 = some ρ.1.1 ∧
    jg_R 10 16 (hp q ρ L I) 0 = some ρ.1.2 ∧
    (∀ {α : Type} (x : Option α), j_gd 9 (hp q ρ L I) 1 x = x) ∧
    jg_I 9 1 (hp q ρ L I) 1 = some (I 1 1) ∧
    (∀ x, jp_I 9 1 (hp q ρ L I) 1 x = some (hp q ρ L (j_up I 1 1 x))) ∧
    jg_I 9 2 (hp q ρ L I) 1 = some (I 1 2) ∧
    (∀ x, jp_I 9 2 (hp q ρ L I) 1 x = some (hp q ρ L (j_up I 1 2 x))) ∧
    jg_I 9 3 (hp q ρ L I) 1 = some (I 1 3) ∧
    (∀ x, jp_I 9 3 (hp q ρ L I) 1 x = some (hp q ρ L (j_up I 1 3 x))) ∧
    jg_R 9 0 (hp q ρ L I) 1 = some 2 ∧
    (∀ {α : Type} (x : Option α), j_gd 6 (hp q ρ L I) 3 x = x) ∧
    jg_I 6 1 (hp q ρ L I) 3 = some (I 3 1) ∧
    (∀ x, jp_I 6 1 (hp q ρ L I) 3 x = some (hp q ρ L (j_up I 3 1 x))) ∧
    jg_R 6 0 (hp q ρ L I) 3 = some 4 ∧
    (∀ {α : Type} (x : Option α), j_gd 3 (hp q ρ L I) 5 x = x) ∧
    jg_I 3 0 (hp q ρ L I) 5 = some (I 5 0) ∧
    (∀ x, jp_I 3 0 (hp q ρ L I) 5 x = some (hp q ρ L (j_up I 5 0 x))) ∧
    jg_R 3 1 (hp q ρ L I) 5 = some 6 ∧
    jg_R 3 2 (hp q ρ L I) 5 = some 7 ∧
    jg_R 3 3 (hp q ρ L I) 5 = some 8 ∧
    jg_R 3 4 (hp q ρ L I) 5 = some 9 ∧
    jg_R 3 5 (hp q ρ L I) 5 = some 10 ∧
    jg_R 3 6 (hp q ρ L I) 5 = some 11 ∧
    jg_R 3 7 (hp q ρ L I) 5 = some 12 ∧
    (∀ {α : Type} (x : Option α), j_gd 2 (hp q ρ L I) 13 x = x) ∧
    jg_I 2 0 (hp q ρ L I) 13 = some (I 13 0) ∧
    (∀ x, jp_I 2 0 (hp q ρ L I) 13 x = some (hp q ρ L (j_up I 13 0 x))) ∧
    jg_R 2 1 (hp q ρ L I) 13 = some 14 ∧
    jg_R 2 2 (hp q ρ L I) 13 = some 15 ∧
    jg_R 2 3 (hp q ρ L I) 13 = some 16 ∧
    jg_R 2 4 (hp q ρ L I) 13 = some 17 ∧
    jg_R 2 5 (hp q ρ L I) 13 = some 18 ∧
    (∀ {α : Type} (x : Option α), j_gd 7 (hp q ρ L I) 19 x = x) ∧
    jg_I 7 0 (hp q ρ L I) 19 = some (I 19 0) ∧
    (∀ x, jp_I 7 0 (hp q ρ L I) 19 x = some (hp q ρ L (j_up I 19 0 x))) ∧
    jg_I 7 1 (hp q ρ L I) 19 = some (I 19 1) ∧
    (∀ x, jp_I 7 1 (hp q ρ L I) 19 x = some (hp q ρ L (j_up I 19 1 x))) ∧
    jg_R 7 2 (hp q ρ L I) 19 = some 20 ∧
    jg_R 7 3 (hp q ρ L I) 19 = some 21 ∧
    jg_R 7 4 (hp q ρ L I) 19 = some 22 ∧
    jg_R 7 5 (hp q ρ L I) 19 = some 23 ∧
    (∀ {α : Type} (x : Option α), j_gd 4 (hp q ρ L I) 24 x = x) ∧
    jg_I 4 1 (hp q ρ L I) 24 = some (I 24 1) ∧
    (∀ x, jp_I 4 1 (hp q ρ L I) 24 x = some (hp q ρ L (j_up I 24 1 x))) ∧
    jg_I 4 2 (hp q ρ L I) 24 = some (I 24 2) ∧
    (∀ x, jp_I 4 2 (hp q ρ L I) 24 x = some (hp q ρ L (j_up I 24 2 x))) ∧
    jg_R 4 0 (hp q ρ L I) 24 = some 25 ∧
    (∀ {α : Type} (x : Option α), j_gd 0 (hp q ρ L I) 103 x = x) ∧
    jg_R 0 0 (hp q ρ L I) 103 = some 104 ∧
    jg_R 0 1 (hp q ρ L I) 103 = some 105 ∧
    jg_R 0 2 (hp q ρ L I) 103 = some 106 ∧
    jg_R 0 3 (hp q ρ L I) 103 = some 107 ∧
    (∀ {α : Type} (x : Option α), j_gd 5 (hp q ρ L I) 108 x = x) ∧
    jg_I 5 2 (hp q ρ L I) 108 = some (I 108 2) ∧
    (∀ x, jp_I 5 2 (hp q ρ L I) 108 x = some (hp q ρ L (j_up I 108 2 x))) ∧
    jg_I 5 3 (hp q ρ L I) 108 = some (I 108 3) ∧
    (∀ x, jp_I 5 3 (hp q ρ L I) 108 x = some (hp q ρ L (j_up I 108 3 x))) ∧
    jg_I 5 7 (hp q ρ L I) 108 = some (I 108 7) ∧
    (∀ x, jp_I 5 7 (hp q ρ L I) 108 x = some (hp q ρ L (j_up I 108 7 x))) ∧
    jg_I 5 8 (hp q ρ L I) 108 = some (I 108 8) ∧
    (∀ x, jp_I 5 8 (hp q ρ L I) 108 x = some (hp q ρ L (j_up I 108 8 x))) ∧
    jg_R 5 0 (hp q ρ L I) 108 = some 109 ∧
    jg_R 5 1 (hp q ρ L I) 108 = some 110 ∧
    jg_R 5 4 (hp q ρ L I) 108 = some 111 ∧
    jg_R 5 5 (hp q ρ L I) 108 = some ρ.2.1.1 ∧
    jg_R 5 6 (hp q ρ L I) 108 = some ρ.2.1.2 :=
  ⟨fun _ => hg_d rfl rfl, hg_I rfl rfl, fun _ => hq_I rfl rfl, hg_I rfl rfl, fun _ => hq_I rfl rfl, hg_I rfl rfl, fun _ => hq_I rfl rfl, hg_R rfl rfl rfl, hg_R rfl rfl rfl, hg_R rfl rfl rfl, hg_R rfl rfl rfl, hg_R rfl rfl rfl, hg_R rfl rfl rfl, hg_R rfl rfl rfl, hg_R rfl rfl rfl, hg_R rfl rfl rfl, hg_R rfl rfl rfl, hg_R rfl rfl rfl, hg_R rfl rfl rfl, hg_R rfl rfl rfl, hg_R rfl rfl rfl, hg_R rfl rfl rfl, hg_R rfl rfl rfl, hg_R rfl rfl rfl, fun _ => hg_d rfl rfl, hg_I rfl rfl, fun _ => hq_I rfl rfl, hg_I rfl rfl, fun _ => hq_I rfl rfl, hg_I rfl rfl, fun _ => hq_I rfl rfl, hg_R rfl rfl rfl, fun _ => hg_d rfl rfl, hg_I rfl rfl, fun _ => hq_I rfl rfl, hg_R rfl rfl rfl, fun _ => hg_d rfl rfl, hg_I rfl rfl, fun _ => hq_I rfl rfl, hg_R rfl rfl rfl, hg_R rfl rfl rfl, hg_R rfl rfl rfl, hg_R rfl rfl rfl, hg_R rfl rfl rfl, hg_R rfl rfl rfl, hg_R rfl rfl rfl, fun _ => hg_d rfl rfl, hg_I rfl rfl, fun _ => hq_I rfl rfl, hg_R rfl rfl rfl, hg_R rfl rfl rfl, hg_R rfl rfl rfl, hg_R rfl rfl rfl, hg_R rfl rfl rfl, fun _ => hg_d rfl rfl, hg_I rfl rfl, fun _ => hq_I rfl rfl, hg_I rfl rfl, fun _ => hq_I rfl rfl, hg_R rfl rfl rfl, hg_R rfl rfl rfl, hg_R rfl rfl rfl, hg_R rfl rfl rfl, fun _ => hg_d rfl rfl, hg_I rfl rfl, fun _ => hq_I rfl rfl, hg_I rfl rfl, fun _ => hq_I rfl rfl, hg_R rfl rfl rfl, fun _ => hg_d rfl rfl, hg_R rfl rfl rfl, hg_R rfl rfl rfl, hg_R rfl rfl rfl, hg_R rfl rfl rfl, fun _ => hg_d rfl rfl, hg_I rfl rfl, fun _ => hq_I rfl rfl, hg_I rfl rfl, fun _ => hq_I rfl rfl, hg_I rfl rfl, fun _ => hq_I rfl rfl, hg_I rfl rfl, fun _ => hq_I rfl rfl, hg_R rfl rfl rfl, hg_R rfl rfl rfl, hg_R rfl rfl rfl, hg_R rfl rfl rfl, hg_R rfl rfl rfl⟩
theorem kXA (q : pQ) (ρ : pP) (L : pL) (I : pI) :
    (∀ j, j < 80 → ja_I 100 (hp q ρ L I) 2 (nI j) = some (I 2 j)) ∧
    (∀ j x, j < 80 → jb_I 100 (hp q ρ L I) 2 (nI j) x = some (hp q ρ L (j_up I 2 j x))) ∧
    jn_len 100 (hp q ρ L I) 2 = some (nI 80) ∧
    (∀ j, j < 12 → ja_L (hp q ρ L I) 4 (nI j) = some (L 4 j)) ∧
    (∀ j x, j < 12 → jb_L (hp q ρ L I) 4 (nI j) x = some (hp q ρ (j_up L 4 j x) I)) ∧
    (∀ j, j < 10 → ja_I 100 (hp q ρ L I) 6 (nI j) = some (I 6 j)) ∧
    (∀ j x, j < 10 → jb_I 100 (hp q ρ L I) 6 (nI j) x = some (hp q ρ L (j_up I 6 j x))) ∧
    jn_len 100 (hp q ρ L I) 6 = some (nI 10) ∧
    (∀ j, j < 10 → ja_I 100 (hp q ρ L I) 7 (nI j) = some (I 7 j)) ∧
    (∀ j x, j < 10 → jb_I 100 (hp q ρ L I) 7 (nI j) x = some (hp q ρ L (j_up I 7 j x))) ∧
    jn_len 100 (hp q ρ L I) 7 = some (nI 10) ∧
    (∀ j, j < 10 → ja_I 100 (hp q ρ L I) 8 (nI j) = some (I 8 j)) ∧
    (∀ j x, j < 10 → jb_I 100 (hp q ρ L I) 8 (nI j) x = some (hp q ρ L (j_up I 8 j x))) ∧
    jn_len 100 (hp q ρ L I) 8 = some (nI 10) ∧
    (∀ j, j < 60 → ja_I 100 (hp q ρ L I) 9 (nI j) = some (I 9 j)) ∧
    (∀ j x, j < 60 → jb_I 100 (hp q ρ L I) 9 (nI j) x = some (hp q ρ L (j_up I 9 j x))) ∧
    jn_len 100 (hp q ρ L I) 9 = some (nI 60) ∧
    (∀ j, j < 50 → ja_I 100 (hp q ρ L I) 10 (nI j) = some (I 10 j)) ∧
    (∀ j x, j < 50 → jb_I 100 (hp q ρ L I) 10 (nI j) x = some (hp q ρ L (j_up I 10 j x))) ∧
    jn_len 100 (hp q ρ L I) 10 = some (nI 50) ∧
    (∀ j, j < 10 → ja_I 100 (hp q ρ L I) 11 (nI j) = some (I 11 j)) ∧
    (∀ j x, j < 10 → jb_I 100 (hp q ρ L I) 11 (nI j) x = some (hp q ρ L (j_up I 11 j x))) ∧
    jn_len 100 (hp q ρ L I) 11 = some (nI 10) ∧
    (∀ j, j < 7 → ja_I 100 (hp q ρ L I) 12 (nI j) = some (I 12 j)) ∧
    (∀ j x, j < 7 → jb_I 100 (hp q ρ L I) 12 (nI j) x = some (hp q ρ L (j_up I 12 j x))) ∧
    jn_len 100 (hp q ρ L I) 12 = some (nI 7) ∧
    (∀ j, j < 8 → ja_I 100 (hp q ρ L I) 14 (nI j) = some (I 14 j)) ∧
    (∀ j x, j < 8 → jb_I 100 (hp q ρ L I) 14 (nI j) x = some (hp q ρ L (j_up I 14 j x))) ∧
    jn_len 100 (hp q ρ L I) 14 = some (nI 8) ∧
    (∀ j, j < 8 → ja_I 100 (hp q ρ L I) 15 (nI j) = some (I 15 j)) ∧
    (∀ j x, j < 8 → jb_I 100 (hp q ρ L I) 15 (nI j) x = some (hp q ρ L (j_up I 15 j x))) ∧
    jn_len 100 (hp q ρ L I) 15 = some (nI 8) ∧
    (∀ j, j < 8 → ja_I 100 (hp q ρ L I) 16 (nI j) = some (I 16 j)) ∧
    (∀ j x, j < 8 → jb_I 100 (hp q ρ L I) 16 (nI j) x = some (hp q ρ L (j_up I 16 j x))) ∧
    jn_len 100 (hp q ρ L I) 16 = some (nI 8) ∧
    (∀ j, j < 8 → ja_I 100 (hp q ρ L I) 17 (nI j) = some (I 17 j)) ∧
    (∀ j x, j < 8 → jb_I 100 (hp q ρ L I) 17 (nI j) x = some (hp q ρ L (j_up I 17 j x))) ∧
    jn_len 100 (hp q ρ L I) 17 = some (nI 8) ∧
    (∀ j, j < 8 → ja_I 100 (hp q ρ L I) 18 (nI j) = some (I 18 j)) ∧
    (∀ j x, j < 8 → jb_I 100 (hp q ρ L I) 18 (nI j) x = some (hp q ρ L (j_up I 18 j x))) ∧
    jn_len 100 (hp q ρ L I) 18 = some (nI 8) ∧
    (∀ j, j < 4 → ja_I 100 (hp q ρ L I) 20 (nI j) = some (I 20 j)) ∧
    (∀ j x, j < 4 → jb_I 100 (hp q ρ L I) 20 (nI j) x = some (hp q ρ L (j_up I 20 j x))) ∧
    jn_len 100 (hp q ρ L I) 20 = some (nI 4) ∧
    (∀ j, j < 4 → ja_I 100 (hp q ρ L I) 21 (nI j) = some (I 21 j)) ∧
    (∀ j x, j < 4 → jb_I 100 (hp q ρ L I) 21 (nI j) x = some (hp q ρ L (j_up I 21 j x))) ∧
    jn_len 100 (hp q ρ L I) 21 = some (nI 4) ∧
    (∀ j, j < 4 → ja_I 100 (hp q ρ L I) 22 (nI j) = some (I 22 j)) ∧
    (∀ j x, j < 4 → jb_I 100 (hp q ρ L I) 22 (nI j) x = some (hp q ρ L (j_up I 22 j x))) ∧
    jn_len 100 (hp q ρ L I) 22 = some (nI 4) ∧
    (∀ j, j < 30 → ja_I 100 (hp q ρ L I) 23 (nI j) = some (I 23 j)) ∧
    (∀ j x, j < 30 → jb_I 100 (hp q ρ L I) 23 (nI j) x = some (hp q ρ L (j_up I 23 j x))) ∧
    jn_len 100 (hp q ρ L I) 23 = some (nI 30) ∧
    (∀ j, j < 2 → ja_I 102 (hp q ρ L I) 102 (nI j) = some (I 102 j)) ∧
    (∀ j x, j < 2 → jb_I 102 (hp q ρ L I) 102 (nI j) x = some (hp q ρ L (j_up I 102 j x))) ∧
    jn_len 102 (hp q ρ L I) 102 = some (nI 2) ∧
    (∀ j, j < 6 → ja_I 100 (hp q ρ L I) 104 (nI j) = some (I 104 j)) ∧
    (∀ j x, j < 6 → jb_I 100 (hp q ρ L I) 104 (nI j) x = some (hp q ρ L (j_up I 104 j x))) ∧
    jn_len 100 (hp q ρ L I) 104 = some (nI 6) ∧
    (∀ j, j < 6 → ja_I 100 (hp q ρ L I) 105 (nI j) = some (I 105 j)) ∧
    (∀ j x, j < 6 → jb_I 100 (hp q ρ L I) 105 (nI j) x = some (hp q ρ L (j_up I 105 j x))) ∧
    jn_len 100 (hp q ρ L I) 105 = some (nI 6) ∧
    (∀ j, j < 7 → ja_I 100 (hp q ρ L I) 106 (nI j) = some (I 106 j)) ∧
    (∀ j x, j < 7 → jb_I 100 (hp q ρ L I) 106 (nI j) x = some (hp q ρ L (j_up I 106 j x))) ∧
    jn_len 100 (hp q ρ L I) 106 = some (nI 7) ∧
    (∀ j, j < 10 → ja_I 100 (hp q ρ L I) 107 (nI j) = some (I 107 j)) ∧
    (∀ j x, j < 10 → jb_I 100 (hp q ρ L I) 107 (nI j) x = some (hp q ρ L (j_up I 107 j x))) ∧
    jn_len 100 (hp q ρ L I) 107 = some (nI 10) ∧
    (∀ j, j < 12 → ja_I 100 (hp q ρ L I) 109 (nI j) = some (I 109 j)) ∧
    (∀ j x, j < 12 → jb_I 100 (hp q ρ L I) 109 (nI j) x = some (hp q ρ L (j_up I 109 j x))) ∧
    jn_len 100 (hp q ρ L I) 109 = some (nI 12) ∧
    (∀ j, j < 12 → ja_I 100 (hp q ρ L I) 110 (nI j) = some (I 110 j)) ∧
    (∀ j x, j < 12 → jb_I 100 (hp q ρ L I) 110 (nI j) x = some (hp q ρ L (j_up I 110 j x))) ∧
    jn_len 100 (hp q ρ L I) 110 = some (nI 12) ∧
    (∀ j, j < 13 → ja_I 100 (hp q ρ L I) 111 (nI j) = some (I 111 j)) ∧
    (∀ j x, j < 13 → jb_I 100 (hp q ρ L I) 111 (nI j) x = some (hp q ρ L (j_up I 111 j x))) ∧
    jn_len 100 (hp q ρ L I) 111 = some (nI 13) ∧
    (∀ j, j < 1536 → ja_I 100 (hp q ρ L I) 112 (nI j) = some (I 112 j)) ∧
    (∀ j x, j < 1536 → jb_I 100 (hp q ρ L I) 112 (nI j) x = some (hp q ρ L (j_up I 112 j x))) ∧
    jn_len 100 (hp q ρ L I) 112 = some (nI 1536) ∧
    (∀ j, j < 1536 → ja_I 100 (hp q ρ L I) 113 (nI j) = some (I 113 j)) ∧
    (∀ j x, j < 1536 → jb_I 100 (hp q ρ L I) 113 (nI j) x = some (hp q ρ L (j_up I 113 j x))) ∧
    jn_len 100 (hp q ρ L I) 113 = some (nI 1536) ∧
    (∀ j, j < 21 → ja_I 100 (hp q ρ L I) 114 (nI j) = some (I 114 j)) ∧
    (∀ j x, j < 21 → jb_I 100 (hp q ρ L I) 114 (nI j) x = some (hp q ρ L (j_up I 114 j x))) ∧
    jn_len 100 (hp q ρ L I) 114 = some (nI 21) ∧
    (∀ j, j < 10 → ja_I 100 (hp q ρ L I) 115 (nI j) = some (I 115 j)) ∧
    (∀ j x, j < 10 → jb_I 100 (hp q ρ L I) 115 (nI j) x = some (hp q ρ L (j_up I 115 j x))) ∧
    jn_len 100 (hp q ρ L I) 115 = some (nI 10) ∧
    (∀ j, j < 10 → ja_I 100 (hp q ρ L I) 116 (nI j) = some (I 116 j)) ∧
    (∀ j x, j < 10 → jb_I 100 (hp q ρ L I) 116 (nI j) x = some (hp q ρ L (j_up I 116 j x))) ∧
    jn_len 100 (hp q ρ L I) 116 = some (nI 10) ∧
    (∀ j, j < 5 → ja_I 100 (hp q ρ L I) 117 (nI j) = some (I 117 j)) ∧
    (∀ j x, j < 5 → jb_I 100 (hp q ρ L I) 117 (nI j) x = some (hp q ρ L (j_up I 117 j x))) ∧
    jn_len 100 (hp q ρ L I) 117 = some (nI 5) ∧
    (∀ j, j < 4 → ja_I 100 (hp q ρ L I) 118 (nI j) = some (I 118 j)) ∧
    (∀ j x, j < 4 → jb_I 100 (hp q ρ L I) 118 (nI j) x = some (hp q ρ L (j_up I 118 j x))) ∧
    jn_len 100 (hp q ρ L I) 118 = some (nI 4) :=
  ⟨fun _ hj => ha_I rfl rfl rfl hj, fun _ _ hj => hb_I rfl rfl rfl hj, hn_l rfl rfl, fun _ hj => ha_L rfl rfl rfl hj, fun _ _ hj => hb_L rfl rfl rfl hj, fun _ hj => ha_I rfl rfl rfl hj, fun _ _ hj => hb_I rfl rfl rfl hj, hn_l rfl rfl, fun _ hj => ha_I rfl rfl rfl hj, fun _ _ hj => hb_I rfl rfl rfl hj, hn_l rfl rfl, fun _ hj => ha_I rfl rfl rfl hj, fun _ _ hj => hb_I rfl rfl rfl hj, hn_l rfl rfl, fun _ hj => ha_I rfl rfl rfl hj, fun _ _ hj => hb_I rfl rfl rfl hj, hn_l rfl rfl, fun _ hj => ha_I rfl rfl rfl hj, fun _ _ hj => hb_I rfl rfl rfl hj, hn_l rfl rfl, fun _ hj => ha_I rfl rfl rfl hj, fun _ _ hj => hb_I rfl rfl rfl hj, hn_l rfl rfl, fun _ hj => ha_I rfl rfl rfl hj, fun _ _ hj => hb_I rfl rfl rfl hj, hn_l rfl rfl, fun _ hj => ha_I rfl rfl rfl hj, fun _ _ hj => hb_I rfl rfl rfl hj, hn_l rfl rfl, fun _ hj => ha_I rfl rfl rfl hj, fun _ _ hj => hb_I rfl rfl rfl hj, hn_l rfl rfl, fun _ hj => ha_I rfl rfl rfl hj, fun _ _ hj => hb_I rfl rfl rfl hj, hn_l rfl rfl, fun _ hj => ha_I rfl rfl rfl hj, fun _ _ hj => hb_I rfl rfl rfl hj, hn_l rfl rfl, fun _ hj => ha_I rfl rfl rfl hj, fun _ _ hj => hb_I rfl rfl rfl hj, hn_l rfl rfl, fun _ hj => ha_I rfl rfl rfl hj, fun _ _ hj => hb_I rfl rfl rfl hj, hn_l rfl rfl, fun _ hj => ha_I rfl rfl rfl hj, fun _ _ hj => hb_I rfl rfl rfl hj, hn_l rfl rfl, fun _ hj => ha_I rfl rfl rfl hj, fun _ _ hj => hb_I rfl rfl rfl hj, hn_l rfl rfl, fun _ hj => ha_I rfl rfl rfl hj, fun _ _ hj => hb_I rfl rfl rfl hj, hn_l rfl rfl, fun _ hj => ha_I rfl rfl rfl hj, fun _ _ hj => hb_I rfl rfl rfl hj, hn_l rfl rfl, fun _ hj => ha_I rfl rfl rfl hj, fun _ _ hj => hb_I rfl rfl rfl hj, hn_l rfl rfl, fun _ hj => ha_I rfl rfl rfl hj, fun _ _ hj => hb_I rfl rfl rfl hj, hn_l rfl rfl, fun _ hj => ha_I rfl rfl rfl hj, fun _ _ hj => hb_I rfl rfl rfl hj, hn_l rfl rfl, fun _ hj => ha_I rfl rfl rfl hj, fun _ _ hj => hb_I rfl rfl rfl hj, hn_l rfl rfl, fun _ hj => ha_I rfl rfl rfl hj, fun _ _ hj => hb_I rfl rfl rfl hj, hn_l rfl rfl, fun _ hj => ha_I rfl rfl rfl hj, fun _ _ hj => hb_I rfl rfl rfl hj, hn_l rfl rfl, fun _ hj => ha_I rfl rfl rfl hj, fun _ _ hj => hb_I rfl rfl rfl hj, hn_l rfl rfl, fun _ hj => ha_I rfl rfl rfl hj, fun _ _ hj => hb_I rfl rfl rfl hj, hn_l rfl rfl, fun _ hj => ha_I rfl rfl rfl hj, fun _ _ hj => hb_I rfl rfl rfl hj, hn_l rfl rfl, fun _ hj => ha_I rfl rfl rfl hj, fun _ _ hj => hb_I rfl rfl rfl hj, hn_l rfl rfl, fun _ hj => ha_I rfl rfl rfl hj, fun _ _ hj => hb_I rfl rfl rfl hj, hn_l rfl rfl, fun _ hj => ha_I rfl rfl rfl hj, fun _ _ hj => hb_I rfl rfl rfl hj, hn_l rfl rfl, fun _ hj => ha_I rfl rfl rfl hj, fun _ _ hj => hb_I rfl rfl rfl hj, hn_l rfl rfl, fun _ hj => ha_I rfl rfl rfl hj, fun _ _ hj => hb_I rfl rfl rfl hj, hn_l rfl rfl⟩
theorem kM (q : pQ) (ρ : pP) (L : pL) (I : pI) :
    (∀ {α : Type} (x : Option α), j_gd 11 (hp q ρ L I) 129 x = x) ∧
    jg_I 11 1 (hp q ρ L I) 129 = some (I 129 1) ∧
    (∀ x, jp_I 11 1 (hp q ρ L I) 129 x = some (hp q ρ L (j_up I 129 1 x))) ∧
    jg_I 11 2 (hp q ρ L I) 129 = some (I 129 2) ∧
    (∀ x, jp_I 11 2 (hp q ρ L I) 129 x = some (hp q ρ L (j_up I 129 2 x))) ∧
    jg_I 11 6 (hp q ρ L I) 129 = some (I 129 6) ∧
    (∀ x, jp_I 11 6 (hp q ρ L I) 129 x = some (hp q ρ L (j_up I 129 6 x))) ∧
    jg_I 11 7 (hp q ρ L I) 129 = some (I 129 7) ∧
    (∀ x, jp_I 11 7 (hp q ρ L I) 129 x = some (hp q ρ L (j_up I 129 7 x))) ∧
    jg_I 11 10 (hp q ρ L I) 129 = some (I 129 10) ∧
    (∀ x, jp_I 11 10 (hp q ρ L I) 129 x = some (hp q ρ L (j_up I 129 10 x))) ∧
    jg_I 11 12 (hp q ρ L I) 129 = some (I 129 12) ∧
    (∀ x, jp_I 11 12 (hp q ρ L I) 129 x = some (hp q ρ L (j_up I 129 12 x))) ∧
    jg_I 11 13 (hp q ρ L I) 129 = some (I 129 13) ∧
    (∀ x, jp_I 11 13 (hp q ρ L I) 129 x = some (hp q ρ L (j_up I 129 13 x))) ∧
    jg_I 11 15 (hp q ρ L I) 129 = some (I 129 15) ∧
    (∀ x, jp_I 11 15 (hp q ρ L I) 129 x = some (hp q ρ L (j_up I 129 15 x))) ∧
    jg_I 11 16 (hp q ρ L I) 129 = some (I 129 16) ∧
    (∀ x, jp_I 11 16 (hp q ρ L I) 129 x = some (hp q ρ L (j_up I 129 16 x))) ∧
    jg_I 11 17 (hp q ρ L I) 129 = some (I 129 17) ∧
    (∀ x, jp_I 11 17 (hp q ρ L I) 129 x = some (hp q ρ L (j_up I 129 17 x))) ∧
    jg_I 11 18 (hp q ρ L I) 129 = some (I 129 18) ∧
    (∀ x, jp_I 11 18 (hp q ρ L I) 129 x = some (hp q ρ L (j_up I 129 18 x))) ∧
    jg_I 11 24 (hp q ρ L I) 129 = some (I 129 24) ∧
    (∀ x, jp_I 11 24 (hp q ρ L I) 129 x = some (hp q ρ L (j_up I 129 24 x))) ∧
    jg_I 11 25 (hp q ρ L I) 129 = some (I 129 25) ∧
    (∀ x, jp_I 11 25 (hp q ρ L I) 129 x = some (hp q ρ L (j_up I 129 25 x))) ∧
    jg_I 11 29 (hp q ρ L I) 129 = some (I 129 29) ∧
    (∀ x, jp_I 11 29 (hp q ρ L I) 129 x = some (hp q ρ L (j_up I 129 29 x))) ∧
    jg_I 11 31 (hp q ρ L I) 129 = some (I 129 31) ∧
    (∀ x, jp_I 11 31 (hp q ρ L I) 129 x = some (hp q ρ L (j_up I 129 31 x))) ∧
    jg_I 11 33 (hp q ρ L I) 129 = some (I 129 33) ∧
    (∀ x, jp_I 11 33 (hp q ρ L I) 129 x = some (hp q ρ L (j_up I 129 33 x))) ∧
    jg_I 11 40 (hp q ρ L I) 129 = some (I 129 40) ∧
    (∀ x, jp_I 11 40 (hp q ρ L I) 129 x = some (hp q ρ L (j_up I 129 40 x))) ∧
    jg_I 11 41 (hp q ρ L I) 129 = some (I 129 41) ∧
    (∀ x, jp_I 11 41 (hp q ρ L I) 129 x = some (hp q ρ L (j_up I 129 41 x))) ∧
    jg_I 11 42 (hp q ρ L I) 129 = some (I 129 42) ∧
    (∀ x, jp_I 11 42 (hp q ρ L I) 129 x = some (hp q ρ L (j_up I 129 42 x))) ∧
    jg_I 11 43 (hp q ρ L I) 129 = some (I 129 43) ∧
    (∀ x, jp_I 11 43 (hp q ρ L I) 129 x = some (hp q ρ L (j_up I 129 43 x))) ∧
    jg_I 11 48 (hp q ρ L I) 129 = some (I 129 48) ∧
    (∀ x, jp_I 11 48 (hp q ρ L I) 129 x = some (hp q ρ L (j_up I 129 48 x))) ∧
    jg_I 11 49 (hp q ρ L I) 129 = some (I 129 49) ∧
    (∀ x, jp_I 11 49 (hp q ρ L I) 129 x = some (hp q ρ L (j_up I 129 49 x))) ∧
    jg_I 11 50 (hp q ρ L I) 129 = some (I 129 50) ∧
    (∀ x, jp_I 11 50 (hp q ρ L I) 129 x = some (hp q ρ L (j_up I 129 50 x))) ∧
    jg_I 11 52 (hp q ρ L I) 129 = some (I 129 52) ∧
    (∀ x, jp_I 11 52 (hp q ρ L I) 129 x = some (hp q ρ L (j_up I 129 52 x))) ∧
    jg_R 11 0 (hp q ρ L I) 129 = some 130 ∧
    jg_R 11 3 (hp q ρ L I) 129 = some 131 ∧
    jg_R 11 4 (hp q ρ L I) 129 = some 132 ∧
    jg_R 11 5 (hp q ρ L I) 129 = some 133 ∧
    jg_R 11 8 (hp q ρ L I) 129 = some 134 ∧
    jg_R 11 9 (hp q ρ L I) 129 = some 135 ∧
    jg_R 11 11 (hp q ρ L I) 129 = some 136 ∧
    jg_R 11 19 (hp q ρ L I) 129 = some 137 ∧
    jg_R 11 20 (hp q ρ L I) 129 = some 138 ∧
    jg_R 11 21 (hp q ρ L I) 129 = some 139 ∧
    jg_R 11 22 (hp q ρ L I) 129 = some ρ.2.2.2.1 ∧
    jg_R 11 23 (hp q ρ L I) 129 = some ρ.2.2.2.2 ∧
    jg_R 11 26 (hp q ρ L I) 129 = some 142 ∧
    jg_R 11 27 (hp q ρ L I) 129 = some 143 ∧
    jg_R 11 28 (hp q ρ L I) 129 = some 144 ∧
    jg_R 11 30 (hp q ρ L I) 129 = some 145 ∧
    jg_R 11 32 (hp q ρ L I) 129 = some 146 ∧
    jg_R 11 34 (hp q ρ L I) 129 = some 147 ∧
    jg_R 11 35 (hp q ρ L I) 129 = some 148 ∧
    jg_R 11 36 (hp q ρ L I) 129 = some 149 ∧
    jg_R 11 37 (hp q ρ L I) 129 = some 150 ∧
    jg_R 11 38 (hp q ρ L I) 129 = some 151 ∧
    jg_R 11 39 (hp q ρ L I) 129 = some 152 ∧
    jg_R 11 44 (hp q ρ L I) 129 = some 153 ∧
    jg_R 11 45 (hp q ρ L I) 129 = some 154 ∧
    jg_R 11 46 (hp q ρ L I) 129 = some 155 ∧
    jg_R 11 47 (hp q ρ L I) 129 = some 156 ∧
    jg_R 11 51 (hp q ρ L I) 129 = some 157 ∧
    jg_R 11 53 (hp q ρ L I) 129 = some 158 ∧
    jg_R 11 54 (hp q ρ L I) 129 = some 159 ∧
    jg_R 11 55 (hp q ρ L I) 129 = some 160 ∧
    jg_R 11 14 (hp q ρ L I) 129 = ρ.2.2.1 :=
  ⟨fun _ => hg_d rfl rfl, hg_I rfl rfl, fun _ => hq_I rfl rfl, hg_I rfl rfl, fun _ => hq_I rfl rfl, hg_I rfl rfl, fun _ => hq_I rfl rfl, hg_I rfl rfl, fun _ => hq_I rfl rfl, hg_I rfl rfl, fun _ => hq_I rfl rfl, hg_I rfl rfl, fun _ => hq_I rfl rfl, hg_I rfl rfl, fun _ => hq_I rfl rfl, hg_I rfl rfl, fun _ => hq_I rfl rfl, hg_I rfl rfl, fun _ => hq_I rfl rfl, hg_I rfl rfl, fun _ => hq_I rfl rfl, hg_I rfl rfl, fun _ => hq_I rfl rfl, hg_I rfl rfl, fun _ => hq_I rfl rfl, hg_I rfl rfl, fun _ => hq_I rfl rfl, hg_I rfl rfl, fun _ => hq_I rfl rfl, hg_I rfl rfl, fun _ => hq_I rfl rfl, hg_I rfl rfl, fun _ => hq_I rfl rfl, hg_I rfl rfl, fun _ => hq_I rfl rfl, hg_I rfl rfl, fun _ => hq_I rfl rfl, hg_I rfl rfl, fun _ => hq_I rfl rfl, hg_I rfl rfl, fun _ => hq_I rfl rfl, hg_I rfl rfl, fun _ => hq_I rfl rfl, hg_I rfl rfl, fun _ => hq_I rfl rfl, hg_I rfl rfl, fun _ => hq_I rfl rfl, hg_I rfl rfl, fun _ => hq_I rfl rfl, hg_R rfl rfl rfl, hg_R rfl rfl rfl, hg_R rfl rfl rfl, hg_R rfl rfl rfl, hg_R rfl rfl rfl, hg_R rfl rfl rfl, hg_R rfl rfl rfl, hg_R rfl rfl rfl, hg_R rfl rfl rfl, hg_R rfl rfl rfl, hg_R rfl rfl rfl, hg_R rfl rfl rfl, hg_R rfl rfl rfl, hg_R rfl rfl rfl, hg_R rfl rfl rfl, hg_R rfl rfl rfl, hg_R rfl rfl rfl, hg_R rfl rfl rfl, hg_R rfl rfl rfl, hg_R rfl rfl rfl, hg_R rfl rfl rfl, hg_R rfl rfl rfl, hg_R rfl rfl rfl, hg_R rfl rfl rfl, hg_R rfl rfl rfl, hg_R rfl rfl rfl, hg_R rfl rfl rfl, hg_R rfl rfl rfl, hg_R rfl rfl rfl, hg_R rfl rfl rfl, hg_R rfl rfl rfl, hg_R rfl rfl rfl⟩
theorem kMA (q : pQ) (ρ : pP) (L : pL) (I : pI) :
    (∀ j, j < 44 → ja_I 100 (hp q ρ L I) 130 (nI j) = some (I 130 j)) ∧
    (∀ j x, j < 44 → jb_I 100 (hp q ρ L I) 130 (nI j) x = some (hp q ρ L (j_up I 130 j x))) ∧
    jn_len 100 (hp q ρ L I) 130 = some (nI 44) ∧
    (∀ j, j < 60 → ja_I 101 (hp q ρ L I) 131 (nI j) = some (I 131 j)) ∧
    (∀ j x, j < 60 → jb_I 101 (hp q ρ L I) 131 (nI j) x = some (hp q ρ L (j_up I 131 j x))) ∧
    jn_len 101 (hp q ρ L I) 131 = some (nI 60) ∧
    (∀ j, j < 10 → ja_I 100 (hp q ρ L I) 132 (nI j) = some (I 132 j)) ∧
    (∀ j x, j < 10 → jb_I 100 (hp q ρ L I) 132 (nI j) x = some (hp q ρ L (j_up I 132 j x))) ∧
    jn_len 100 (hp q ρ L I) 132 = some (nI 10) ∧
    (∀ j, j < 20 → ja_I 100 (hp q ρ L I) 133 (nI j) = some (I 133 j)) ∧
    (∀ j x, j < 20 → jb_I 100 (hp q ρ L I) 133 (nI j) x = some (hp q ρ L (j_up I 133 j x))) ∧
    jn_len 100 (hp q ρ L I) 133 = some (nI 20) ∧
    (∀ j, j < 32 → ja_I 100 (hp q ρ L I) 134 (nI j) = some (I 134 j)) ∧
    (∀ j x, j < 32 → jb_I 100 (hp q ρ L I) 134 (nI j) x = some (hp q ρ L (j_up I 134 j x))) ∧
    jn_len 100 (hp q ρ L I) 134 = some (nI 32) ∧
    (∀ j, j < 80 → ja_I 101 (hp q ρ L I) 135 (nI j) = some (I 135 j)) ∧
    (∀ j x, j < 80 → jb_I 101 (hp q ρ L I) 135 (nI j) x = some (hp q ρ L (j_up I 135 j x))) ∧
    jn_len 101 (hp q ρ L I) 135 = some (nI 80) ∧
    (∀ j, j < 20 → ja_L (hp q ρ L I) 136 (nI j) = some (L 136 j)) ∧
    (∀ j x, j < 20 → jb_L (hp q ρ L I) 136 (nI j) x = some (hp q ρ (j_up L 136 j x) I)) ∧
    (∀ j, j < 60 → ja_I 101 (hp q ρ L I) 137 (nI j) = some (I 137 j)) ∧
    (∀ j x, j < 60 → jb_I 101 (hp q ρ L I) 137 (nI j) x = some (hp q ρ L (j_up I 137 j x))) ∧
    jn_len 101 (hp q ρ L I) 137 = some (nI 60) ∧
    (∀ j, j < 10 → ja_I 100 (hp q ρ L I) 138 (nI j) = some (I 138 j)) ∧
    (∀ j x, j < 10 → jb_I 100 (hp q ρ L I) 138 (nI j) x = some (hp q ρ L (j_up I 138 j x))) ∧
    jn_len 100 (hp q ρ L I) 138 = some (nI 10) ∧
    (∀ j, j < 40 → ja_I 100 (hp q ρ L I) 139 (nI j) = some (I 139 j)) ∧
    (∀ j x, j < 40 → jb_I 100 (hp q ρ L I) 139 (nI j) x = some (hp q ρ L (j_up I 139 j x))) ∧
    jn_len 100 (hp q ρ L I) 139 = some (nI 40) ∧
    (∀ j, j < 40 → ja_I 101 (hp q ρ L I) 140 (nI j) = some (I 140 j)) ∧
    (∀ j x, j < 40 → jb_I 101 (hp q ρ L I) 140 (nI j) x = some (hp q ρ L (j_up I 140 j x))) ∧
    jn_len 101 (hp q ρ L I) 140 = some (nI 40) ∧
    (∀ j, j < 40 → ja_I 101 (hp q ρ L I) 141 (nI j) = some (I 141 j)) ∧
    (∀ j x, j < 40 → jb_I 101 (hp q ρ L I) 141 (nI j) x = some (hp q ρ L (j_up I 141 j x))) ∧
    jn_len 101 (hp q ρ L I) 141 = some (nI 40) ∧
    (∀ j, j < 7 → ja_I 100 (hp q ρ L I) 142 (nI j) = some (I 142 j)) ∧
    (∀ j x, j < 7 → jb_I 100 (hp q ρ L I) 142 (nI j) x = some (hp q ρ L (j_up I 142 j x))) ∧
    jn_len 100 (hp q ρ L I) 142 = some (nI 7) ∧
    (∀ j, j < 5 → ja_I 100 (hp q ρ L I) 143 (nI j) = some (I 143 j)) ∧
    (∀ j x, j < 5 → jb_I 100 (hp q ρ L I) 143 (nI j) x = some (hp q ρ L (j_up I 143 j x))) ∧
    jn_len 100 (hp q ρ L I) 143 = some (nI 5) ∧
    (∀ j, j < 528 → ja_I 100 (hp q ρ L I) 144 (nI j) = some (I 144 j)) ∧
    (∀ j x, j < 528 → jb_I 100 (hp q ρ L I) 144 (nI j) x = some (hp q ρ L (j_up I 144 j x))) ∧
    jn_len 100 (hp q ρ L I) 144 = some (nI 528) ∧
    (∀ j, j < 44 → ja_I 100 (hp q ρ L I) 145 (nI j) = some (I 145 j)) ∧
    (∀ j x, j < 44 → jb_I 100 (hp q ρ L I) 145 (nI j) x = some (hp q ρ L (j_up I 145 j x))) ∧
    jn_len 100 (hp q ρ L I) 145 = some (nI 44) ∧
    (∀ j, j < 240 → ja_I 100 (hp q ρ L I) 146 (nI j) = some (I 146 j)) ∧
    (∀ j x, j < 240 → jb_I 100 (hp q ρ L I) 146 (nI j) x = some (hp q ρ L (j_up I 146 j x))) ∧
    jn_len 100 (hp q ρ L I) 146 = some (nI 240) ∧
    (∀ j, j < 13 → ja_I 100 (hp q ρ L I) 147 (nI j) = some (I 147 j)) ∧
    (∀ j x, j < 13 → jb_I 100 (hp q ρ L I) 147 (nI j) x = some (hp q ρ L (j_up I 147 j x))) ∧
    jn_len 100 (hp q ρ L I) 147 = some (nI 13) ∧
    (∀ j, j < 6 → ja_I 100 (hp q ρ L I) 148 (nI j) = some (I 148 j)) ∧
    (∀ j x, j < 6 → jb_I 100 (hp q ρ L I) 148 (nI j) x = some (hp q ρ L (j_up I 148 j x))) ∧
    jn_len 100 (hp q ρ L I) 148 = some (nI 6) ∧
    (∀ j, j < 6 → ja_I 100 (hp q ρ L I) 149 (nI j) = some (I 149 j)) ∧
    (∀ j x, j < 6 → jb_I 100 (hp q ρ L I) 149 (nI j) x = some (hp q ρ L (j_up I 149 j x))) ∧
    jn_len 100 (hp q ρ L I) 149 = some (nI 6) ∧
    (∀ j, j < 49 → ja_I 100 (hp q ρ L I) 150 (nI j) = some (I 150 j)) ∧
    (∀ j x, j < 49 → jb_I 100 (hp q ρ L I) 150 (nI j) x = some (hp q ρ L (j_up I 150 j x))) ∧
    jn_len 100 (hp q ρ L I) 150 = some (nI 49) ∧
    (∀ j, j < 1536 → ja_I 100 (hp q ρ L I) 151 (nI j) = some (I 151 j)) ∧
    (∀ j x, j < 1536 → jb_I 100 (hp q ρ L I) 151 (nI j) x = some (hp q ρ L (j_up I 151 j x))) ∧
    jn_len 100 (hp q ρ L I) 151 = some (nI 1536) ∧
    (∀ j, j < 1536 → ja_I 100 (hp q ρ L I) 152 (nI j) = some (I 152 j)) ∧
    (∀ j x, j < 1536 → jb_I 100 (hp q ρ L I) 152 (nI j) x = some (hp q ρ L (j_up I 152 j x))) ∧
    jn_len 100 (hp q ρ L I) 152 = some (nI 1536) ∧
    (∀ j, j < 10 → ja_I 100 (hp q ρ L I) 153 (nI j) = some (I 153 j)) ∧
    (∀ j x, j < 10 → jb_I 100 (hp q ρ L I) 153 (nI j) x = some (hp q ρ L (j_up I 153 j x))) ∧
    jn_len 100 (hp q ρ L I) 153 = some (nI 10) ∧
    (∀ j, j < 5 → ja_I 100 (hp q ρ L I) 154 (nI j) = some (I 154 j)) ∧
    (∀ j x, j < 5 → jb_I 100 (hp q ρ L I) 154 (nI j) x = some (hp q ρ L (j_up I 154 j x))) ∧
    jn_len 100 (hp q ρ L I) 154 = some (nI 5) ∧
    (∀ j, j < 4 → ja_I 100 (hp q ρ L I) 155 (nI j) = some (I 155 j)) ∧
    (∀ j x, j < 4 → jb_I 100 (hp q ρ L I) 155 (nI j) x = some (hp q ρ L (j_up I 155 j x))) ∧
    jn_len 100 (hp q ρ L I) 155 = some (nI 4) ∧
    (∀ j, j < 4 → ja_I 100 (hp q ρ L I) 156 (nI j) = some (I 156 j)) ∧
    (∀ j x, j < 4 → jb_I 100 (hp q ρ L I) 156 (nI j) x = some (hp q ρ L (j_up I 156 j x))) ∧
    jn_len 100 (hp q ρ L I) 156 = some (nI 4) ∧
    (∀ j, j < 44 → ja_I 100 (hp q ρ L I) 157 (nI j) = some (I 157 j)) ∧
    (∀ j x, j < 44 → jb_I 100 (hp q ρ L I) 157 (nI j) x = some (hp q ρ L (j_up I 157 j x))) ∧
    jn_len 100 (hp q ρ L I) 157 = some (nI 44) ∧
    (∀ j, j < 88 → ja_I 100 (hp q ρ L I) 158 (nI j) = some (I 158 j)) ∧
    (∀ j x, j < 88 → jb_I 100 (hp q ρ L I) 158 (nI j) x = some (hp q ρ L (j_up I 158 j x))) ∧
    jn_len 100 (hp q ρ L I) 158 = some (nI 88) ∧
    (∀ j, j < 2 → ja_I 102 (hp q ρ L I) 159 (nI j) = some (I 159 j)) ∧
    (∀ j x, j < 2 → jb_I 102 (hp q ρ L I) 159 (nI j) x = some (hp q ρ L (j_up I 159 j x))) ∧
    jn_len 102 (hp q ρ L I) 159 = some (nI 2) ∧
    (∀ j, j < 2 → ja_I 100 (hp q ρ L I) 160 (nI j) = some (I 160 j)) ∧
    (∀ j x, j < 2 → jb_I 100 (hp q ρ L I) 160 (nI j) x = some (hp q ρ L (j_up I 160 j x))) ∧
    jn_len 100 (hp q ρ L I) 160 = some (nI 2) ∧
    (∀ j, j < 1 → ja_L (hp q ρ L I) 161 (nI j) = some (L 161 j)) ∧
    (∀ j x, j < 1 → jb_L (hp q ρ L I) 161 (nI j) x = some (hp q ρ (j_up L 161 j x) I)) :=
  ⟨fun _ hj => ha_I rfl rfl rfl hj, fun _ _ hj => hb_I rfl rfl rfl hj, hn_l rfl rfl, fun _ hj => ha_I rfl rfl rfl hj, fun _ _ hj => hb_I rfl rfl rfl hj, hn_l rfl rfl, fun _ hj => ha_I rfl rfl rfl hj, fun _ _ hj => hb_I rfl rfl rfl hj, hn_l rfl rfl, fun _ hj => ha_I rfl rfl rfl hj, fun _ _ hj => hb_I rfl rfl rfl hj, hn_l rfl rfl, fun _ hj => ha_I rfl rfl rfl hj, fun _ _ hj => hb_I rfl rfl rfl hj, hn_l rfl rfl, fun _ hj => ha_I rfl rfl rfl hj, fun _ _ hj => hb_I rfl rfl rfl hj, hn_l rfl rfl, fun _ hj => ha_L rfl rfl rfl hj, fun _ _ hj => hb_L rfl rfl rfl hj, fun _ hj => ha_I rfl rfl rfl hj, fun _ _ hj => hb_I rfl rfl rfl hj, hn_l rfl rfl, fun _ hj => ha_I rfl rfl rfl hj, fun _ _ hj => hb_I rfl rfl rfl hj, hn_l rfl rfl, fun _ hj => ha_I rfl rfl rfl hj, fun _ _ hj => hb_I rfl rfl rfl hj, hn_l rfl rfl, fun _ hj => ha_I rfl rfl rfl hj, fun _ _ hj => hb_I rfl rfl rfl hj, hn_l rfl rfl, fun _ hj => ha_I rfl rfl rfl hj, fun _ _ hj => hb_I rfl rfl rfl hj, hn_l rfl rfl, fun _ hj => ha_I rfl rfl rfl hj, fun _ _ hj => hb_I rfl rfl rfl hj, hn_l rfl rfl, fun _ hj => ha_I rfl rfl rfl hj, fun _ _ hj => hb_I rfl rfl rfl hj, hn_l rfl rfl, fun _ hj => ha_I rfl rfl rfl hj, fun _ _ hj => hb_I rfl rfl rfl hj, hn_l rfl rfl, fun _ hj => ha_I rfl rfl rfl hj, fun _ _ hj => hb_I rfl rfl rfl hj, hn_l rfl rfl, fun _ hj => ha_I rfl rfl rfl hj, fun _ _ hj => hb_I rfl rfl rfl hj, hn_l rfl rfl, fun _ hj => ha_I rfl rfl rfl hj, fun _ _ hj => hb_I rfl rfl rfl hj, hn_l rfl rfl, fun _ hj => ha_I rfl rfl rfl hj, fun _ _ hj => hb_I rfl rfl rfl hj, hn_l rfl rfl, fun _ hj => ha_I rfl rfl rfl hj, fun _ _ hj => hb_I rfl rfl rfl hj, hn_l rfl rfl, fun _ hj => ha_I rfl rfl rfl hj, fun _ _ hj => hb_I rfl rfl rfl hj, hn_l rfl rfl, fun _ hj => ha_I rfl rfl rfl hj, fun _ _ hj => hb_I rfl rfl rfl hj, hn_l rfl rfl, fun _ hj => ha_I rfl rfl rfl hj, fun _ _ hj => hb_I rfl rfl rfl hj, hn_l rfl rfl, fun _ hj => ha_I rfl rfl rfl hj, fun _ _ hj => hb_I rfl rfl rfl hj, hn_l rfl rfl, fun _ hj => ha_I rfl rfl rfl hj, fun _ _ hj => hb_I rfl rfl rfl hj, hn_l rfl rfl, fun _ hj => ha_I rfl rfl rfl hj, fun _ _ hj => hb_I rfl rfl rfl hj, hn_l rfl rfl, fun _ hj => ha_I rfl rfl rfl hj, fun _ _ hj => hb_I rfl rfl rfl hj, hn_l rfl rfl, fun _ hj => ha_I rfl rfl rfl hj, fun _ _ hj => hb_I rfl rfl rfl hj, hn_l rfl rfl, fun _ hj => ha_I rfl rfl rfl hj, fun _ _ hj => hb_I rfl rfl rfl hj, hn_l rfl rfl, fun _ hj => ha_I rfl rfl rfl hj, fun _ _ hj => hb_I rfl rfl rfl hj, hn_l rfl rfl, fun _ hj => ha_I rfl rfl rfl hj, fun _ _ hj => hb_I rfl rfl rfl hj, hn_l rfl rfl, fun _ hj => ha_L rfl rfl rfl hj, fun _ _ hj => hb_L rfl rfl rfl hj⟩
