def bt (k j : Nat) : Int × Int := (bif Nat.blt k 113 then (bif Nat.blt k 54 then (bif Nat.blt k 27 then (bif Nat.blt k 14 then (bif Nat.blt k 9 then (bif Nat.blt k 3 then (bif Nat.blt k 1 then (bif Nat.beq k 0 then (bif Nat.beq j 12 then (0, 640) else (-2147483648, 2147483647)) else (-2147483648, 2147483647)) else (bif Nat.beq k 1 then (bif Nat.beq j 1 then (0, 4020) else (bif Nat.beq j 2 then (0, 4000) else (-2147483648, 2147483647))) else (-2147483648, 2147483647))) else (bif Nat.blt k 8 then (bif Nat.beq k 3 then (bif Nat.beq j 0 then (0, 200) else (-2147483648, 2147483647)) else (-2147483648, 2147483647)) else (bif Nat.beq k 8 then (bif Nat.beq j 0 then (0, 20) else (bif Nat.beq j 1 then (0, 24) else (bif Nat.beq j 10 then (0, 4000) else (bif Nat.beq j 11 then (-1, 9999999) else (-2147483648, 2147483647))))) else (-2147483648, 2147483647)))) else (bif Nat.blt k 11 then (bif Nat.blt k 10 then (bif Nat.beq k 9 then (0, 9) else (-2147483648, 2147483647)) else (bif Nat.beq k 10 then (0, 100000) else (-2147483648, 2147483647))) else (bif Nat.blt k 12 then (bif Nat.beq k 11 then (0, 48) else (-2147483648, 2147483647)) else (bif Nat.blt k 13 then (bif Nat.beq k 12 then (0, 200) else (-2147483648, 2147483647)) else (bif Nat.beq k 13 then (-1, 9999999) else (-2147483648, 2147483647)))))) else (bif Nat.blt k 19 then (bif Nat.blt k 16 then (bif Nat.blt k 15 then (bif Nat.beq k 14 then (0, 3) else (-2147483648, 2147483647)) else (bif Nat.beq k 15 then (-1, 47) else (-2147483648, 2147483647))) else (bif Nat.blt k 17 then (bif Nat.beq k 16 then (0, 9) else (-2147483648, 2147483647)) else (bif Nat.beq k 17 then (0, 14) else (-2147483648, 2147483647)))) else (bif Nat.blt k 24 then (bif Nat.blt k 21 then (bif Nat.beq k 19 then (0, 14) else (-2147483648, 2147483647)) else (bif Nat.beq k 21 then (0, 199) else (-2147483648, 2147483647))) else (bif Nat.blt k 25 then (bif Nat.beq k 24 then (0, 5) else (-2147483648, 2147483647)) else (bif Nat.blt k 26 then (bif Nat.beq k 25 then (0, 1000000) else (-2147483648, 2147483647)) else (bif Nat.beq k 26 then (bif Nat.beq j 1 then (0, 24) else (bif Nat.beq j 15 then (0, 24) else (-2147483648, 2147483647))) else (-2147483648, 2147483647))))))) else (bif Nat.blt k 36 then (bif Nat.blt k 31 then (bif Nat.blt k 29 then (bif Nat.blt k 28 then (bif Nat.beq k 27 then (0, 19) else (-2147483648, 2147483647)) else (bif Nat.beq k 28 then (0, 19) else (-2147483648, 2147483647))) else (bif Nat.blt k 30 then (bif Nat.beq k 29 then (0, 100) else (-2147483648, 2147483647)) else (bif Nat.beq k 30 then (0, 14) else (-2147483648, 2147483647)))) else (bif Nat.blt k 33 then (bif Nat.blt k 32 then (bif Nat.beq k 31 then (0, 24) else (-2147483648, 2147483647)) else (bif Nat.beq k 32 then (0, 23) else (-2147483648, 2147483647))) else (bif Nat.blt k 34 then (bif Nat.beq k 33 then (0, 23) else (-2147483648, 2147483647)) else (bif Nat.blt k 35 then (bif Nat.beq k 34 then (0, 47) else (-2147483648, 2147483647)) else (bif Nat.beq k 35 then (-1, 23) else (-2147483648, 2147483647)))))) else (bif Nat.blt k 48 then (bif Nat.blt k 40 then (bif Nat.blt k 39 then (bif Nat.beq k 36 then (0, 1) else (-2147483648, 2147483647)) else (bif Nat.beq k 39 then (0, 47) else (-2147483648, 2147483647))) else (bif Nat.blt k 41 then (bif Nat.beq k 40 then (0, 9) else (-2147483648, 2147483647)) else (bif Nat.beq k 41 then (-1, 9) else (-2147483648, 2147483647)))) else (bif Nat.blt k 50 then (bif Nat.blt k 49 then (bif Nat.beq k 48 then (bif Nat.beq j 0 then (0, 40) else (bif Nat.beq j 10 then (0, 1400) else (bif Nat.beq j 12 then (0, 4000) else (bif Nat.beq j 13 then (0, 4000) else (bif Nat.beq j 15 then (0, 20) else (bif Nat.beq j 16 then (0, 32) else (-2147483648, 2147483647))))))) else (-2147483648, 2147483647)) else (bif Nat.beq k 49 then (0, 1000000) else (-2147483648, 2147483647))) else (bif Nat.blt k 51 then (bif Nat.beq k 50 then (0, 1) else (-2147483648, 2147483647)) else (bif Nat.blt k 53 then (bif Nat.beq k 51 then (0, 3600) else (-2147483648, 2147483647)) else (bif Nat.beq k 53 then (-1, 3600) else (-2147483648, 2147483647)))))))) else (bif Nat.blt k 91 then (bif Nat.blt k 68 then (bif Nat.blt k 61 then (bif Nat.blt k 56 then (bif Nat.blt k 55 then (bif Nat.beq k 54 then (0, 1) else (-2147483648, 2147483647)) else (bif Nat.beq k 55 then (0, 1400) else (-2147483648, 2147483647))) else (bif Nat.blt k 60 then (bif Nat.beq k 56 then (0, 18) else (-2147483648, 2147483647)) else (bif Nat.beq k 60 then (-1, 4) else (-2147483648, 2147483647)))) else (bif Nat.blt k 65 then (bif Nat.blt k 62 then (bif Nat.beq k 61 then (bif Nat.beq j 4 then (0, 4) else (bif Nat.beq j 5 then (0, 501) else (bif Nat.beq j 18 then (0, 1) else (bif Nat.beq j 19 then (0, 1000) else (bif Nat.beq j 20 then (0, 10) else (-2147483648, 2147483647)))))) else (-2147483648, 2147483647)) else (bif Nat.beq k 62 then (bif Nat.beq j 1 then (0, 301) else (bif Nat.beq j 2 then (-1, 300) else (bif Nat.beq j 10 then (0, 40) else (-2147483648, 2147483647)))) else (-2147483648, 2147483647))) else (bif Nat.blt k 66 then (bif Nat.beq k 65 then (0, 301) else (-2147483648, 2147483647)) else (bif Nat.blt k 67 then (bif Nat.beq k 66 then (0, 301) else (-2147483648, 2147483647)) else (bif Nat.beq k 67 then (-1, 300) else (-2147483648, 2147483647)))))) else (bif Nat.blt k 78 then (bif Nat.blt k 75 then (bif Nat.blt k 73 then (bif Nat.beq k 68 then (-1, 300) else (-2147483648, 2147483647)) else (bif Nat.beq k 73 then (-1, 300) else (-2147483648, 2147483647))) else (bif Nat.blt k 77 then (bif Nat.beq k 75 then (0, 5) else (-2147483648, 2147483647)) else (bif Nat.beq k 77 then (-1, 300) else (-2147483648, 2147483647)))) else (bif Nat.blt k 80 then (bif Nat.blt k 79 then (bif Nat.beq k 78 then (-1, 500) else (-2147483648, 2147483647)) else (bif Nat.beq k 79 then (-1, 500) else (-2147483648, 2147483647))) else (bif Nat.blt k 81 then (bif Nat.beq k 80 then (0, 2) else (-2147483648, 2147483647)) else (bif Nat.blt k 87 then (bif Nat.beq k 81 then (-1, 500) else (-2147483648, 2147483647)) else (bif Nat.beq k 87 then (bif Nat.beq j 2 then (0, 4000) else (bif Nat.beq j 7 then (0, 1) else (bif Nat.beq j 8 then (0, 20) else (-2147483648, 2147483647)))) else (-2147483648, 2147483647))))))) else (bif Nat.blt k 100 then (bif Nat.blt k 95 then (bif Nat.blt k 93 then (bif Nat.blt k 92 then (bif Nat.beq k 91 then (bif Nat.beq j 0 then (0, 20) else (bif Nat.beq j 1 then (0, 24) else (bif Nat.beq j 10 then (0, 4000) else (bif Nat.beq j 11 then (-1, 9999999) else (-2147483648, 2147483647))))) else (-2147483648, 2147483647)) else (bif Nat.beq k 92 then (0, 9) else (-2147483648, 2147483647))) else (bif Nat.blt k 94 then (bif Nat.beq k 93 then (0, 100000) else (-2147483648, 2147483647)) else (bif Nat.beq k 94 then (0, 48) else (-2147483648, 2147483647)))) else (bif Nat.blt k 97 then (bif Nat.blt k 96 then (bif Nat.beq k 95 then (0, 200) else (-2147483648, 2147483647)) else (bif Nat.beq k 96 then (-1, 9999999) else (-2147483648, 2147483647))) else (bif Nat.blt k 98 then (bif Nat.beq k 97 then (0, 3) else (-2147483648, 2147483647)) else (bif Nat.blt k 99 then (bif Nat.beq k 98 then (-1, 47) else (-2147483648, 2147483647)) else (bif Nat.beq k 99 then (bif Nat.beq j 0 then (0, 40) else (bif Nat.beq j 10 then (0, 1400) else (bif Nat.beq j 12 then (0, 4000) else (bif Nat.beq j 13 then (0, 4000) else (bif Nat.beq j 15 then (0, 20) else (bif Nat.beq j 16 then (0, 32) else (-2147483648, 2147483647))))))) else (-2147483648, 2147483647)))))) else (bif Nat.blt k 106 then (bif Nat.blt k 102 then (bif Nat.blt k 101 then (bif Nat.beq k 100 then (0, 1000000) else (-2147483648, 2147483647)) else (bif Nat.beq k 101 then (0, 1) else (-2147483648, 2147483647))) else (bif Nat.blt k 104 then (bif Nat.beq k 102 then (0, 3600) else (-2147483648, 2147483647)) else (bif Nat.blt k 105 then (bif Nat.beq k 104 then (-1, 3600) else (-2147483648, 2147483647)) else (bif Nat.beq k 105 then (0, 1) else (-2147483648, 2147483647))))) else (bif Nat.blt k 108 then (bif Nat.blt k 107 then (bif Nat.beq k 106 then (0, 1400) else (-2147483648, 2147483647)) else (bif Nat.beq k 107 then (0, 18) else (-2147483648, 2147483647))) else (bif Nat.blt k 111 then (bif Nat.beq k 108 then (bif Nat.beq j 1 then (0, 301) else (bif Nat.beq j 2 then (-1, 300) else (bif Nat.beq j 10 then (0, 40) else (-2147483648, 2147483647)))) else (-2147483648, 2147483647)) else (bif Nat.blt k 112 then (bif Nat.beq k 111 then (0, 301) else (-2147483648, 2147483647)) else (bif Nat.beq k 112 then (0, 301) else (-2147483648, 2147483647))))))))) else (bif Nat.blt k 161 then (bif Nat.blt k 142 then (bif Nat.blt k 130 then (bif Nat.blt k 123 then (bif Nat.blt k 119 then (bif Nat.blt k 114 then (bif Nat.beq k 113 then (-1, 300) else (-2147483648, 2147483647)) else (bif Nat.beq k 114 then (-1, 300) else (-2147483648, 2147483647))) else (bif Nat.blt k 121 then (bif Nat.beq k 119 then (-1, 300) else (-2147483648, 2147483647)) else (bif Nat.beq k 121 then (0, 5) else (-2147483648, 2147483647)))) else (bif Nat.blt k 127 then (bif Nat.blt k 126 then (bif Nat.beq k 123 then (-128, 127) else (-2147483648, 2147483647)) else (bif Nat.beq k 126 then (0, 5) else (-2147483648, 2147483647))) else (bif Nat.blt k 128 then (bif Nat.beq k 127 then (bif Nat.beq j 1 then (0, 4020) else (bif Nat.beq j 4 then (0, 20) else (bif Nat.beq j 11 then (0, 24) else (bif Nat.beq j 21 then (0, 4020) else (bif Nat.beq j 22 then (0, 4000) else (bif Nat.beq j 26 then (0, 24) else (bif Nat.beq j 39 then (0, 24) else (bif Nat.beq j 59 then (0, 4) else (bif Nat.beq j 60 then (0, 502) else (bif Nat.beq j 72 then (0, 1000) else (bif Nat.beq j 73 then (0, 10) else (bif Nat.beq j 75 then (0, 1) else (bif Nat.beq j 79 then (0, 200) else (bif Nat.beq j 85 then (0, 20) else (bif Nat.beq j 86 then (0, 24) else (-2147483648, 2147483647)))))))))))))))) else (-2147483648, 2147483647)) else (bif Nat.blt k 129 then (bif Nat.beq k 128 then (-128, 127) else (-2147483648, 2147483647)) else (bif Nat.beq k 129 then (bif Nat.beq j 1 then (0, 4020) else (bif Nat.beq j 2 then (0, 4020) else (bif Nat.beq j 4 then (-128, 2000) else (bif Nat.beq j 5 then (0, 4020) else (bif Nat.beq j 6 then (0, 4020) else (bif Nat.beq j 9 then (0, 1) else (bif Nat.beq j 11 then (0, 20) else (bif Nat.beq j 12 then (0, 1) else (bif Nat.beq j 13 then (0, 300) else (bif Nat.beq j 21 then (0, 300) else (bif Nat.beq j 23 then (0, 300) else (bif Nat.beq j 24 then (0, 40) else (bif Nat.beq j 30 then (0, 300) else (bif Nat.beq j 31 then (0, 300) else (bif Nat.beq j 32 then (0, 40) else (bif Nat.beq j 35 then (0, 300) else (-2147483648, 2147483647))))))))))))))))) else (-2147483648, 2147483647)))))) else (bif Nat.blt k 136 then (bif Nat.blt k 134 then (bif Nat.blt k 131 then (bif Nat.beq k 130 then (-128, 127) else (-2147483648, 2147483647)) else (bif Nat.beq k 131 then (0, 24) else (-2147483648, 2147483647))) else (bif Nat.blt k 135 then (bif Nat.beq k 134 then (-1, 5) else (-2147483648, 2147483647)) else (bif Nat.beq k 135 then (0, 300) else (-2147483648, 2147483647)))) else (bif Nat.blt k 138 then (bif Nat.blt k 137 then (bif Nat.beq k 136 then (0, 300) else (-2147483648, 2147483647)) else (bif Nat.beq k 137 then (0, 299) else (-2147483648, 2147483647))) else (bif Nat.blt k 139 then (bif Nat.beq k 138 then (0, 299) else (-2147483648, 2147483647)) else (bif Nat.blt k 140 then (bif Nat.beq k 139 then (-128, 127) else (-2147483648, 2147483647)) else (bif Nat.beq k 140 then (0, 12) else (-2147483648, 2147483647))))))) else (bif Nat.blt k 151 then (bif Nat.blt k 146 then (bif Nat.blt k 144 then (bif Nat.blt k 143 then (bif Nat.beq k 142 then (0, 5) else (-2147483648, 2147483647)) else (bif Nat.beq k 143 then (-1, 299) else (-2147483648, 2147483647))) else (bif Nat.blt k 145 then (bif Nat.beq k 144 then (0, 299) else (-2147483648, 2147483647)) else (bif Nat.beq k 145 then (0, 501) else (-2147483648, 2147483647)))) else (bif Nat.blt k 148 then (bif Nat.blt k 147 then (bif Nat.beq k 146 then (0, 301) else (-2147483648, 2147483647)) else (bif Nat.beq k 147 then (bif Nat.beq j 1 then (0, 4020) else (bif Nat.beq j 4 then (0, 4020) else (bif Nat.beq j 5 then (0, 4021) else (bif Nat.beq j 6 then (0, 20) else (bif Nat.beq j 7 then (0, 32) else (bif Nat.beq j 11 then (0, 3000) else (bif Nat.beq j 12 then (0, 1) else (bif Nat.beq j 13 then (0, 40) else (bif Nat.beq j 20 then (0, 40) else (-2147483648, 2147483647)))))))))) else (-2147483648, 2147483647))) else (bif Nat.blt k 149 then (bif Nat.beq k 148 then (-128, 127) else (-2147483648, 2147483647)) else (bif Nat.blt k 150 then (bif Nat.beq k 149 then (0, 4020) else (-2147483648, 2147483647)) else (bif Nat.beq k 150 then (0, 4020) else (-2147483648, 2147483647)))))) else (bif Nat.blt k 155 then (bif Nat.blt k 153 then (bif Nat.blt k 152 then (bif Nat.beq k 151 then (0, 18) else (-2147483648, 2147483647)) else (bif Nat.beq k 152 then (-1, 5999) else (-2147483648, 2147483647))) else (bif Nat.blt k 154 then (bif Nat.beq k 153 then (-1, 5999) else (-2147483648, 2147483647)) else (bif Nat.beq k 154 then (-1, 5999) else (-2147483648, 2147483647)))) else (bif Nat.blt k 157 then (bif Nat.blt k 156 then (bif Nat.beq k 155 then (0, 8) else (-2147483648, 2147483647)) else (bif Nat.beq k 156 then (0, 31) else (-2147483648, 2147483647))) else (bif Nat.blt k 158 then (bif Nat.beq k 157 then (0, 3600) else (-2147483648, 2147483647)) else (bif Nat.blt k 160 then (bif Nat.beq k 158 then (0, 1) else (-2147483648, 2147483647)) else (bif Nat.beq k 160 then (0, 1000000) else (-2147483648, 2147483647)))))))) else (bif Nat.blt k 184 then (bif Nat.blt k 173 then (bif Nat.blt k 166 then (bif Nat.blt k 163 then (bif Nat.blt k 162 then (bif Nat.beq k 161 then (0, 1) else (-2147483648, 2147483647)) else (bif Nat.beq k 162 then (0, 3600) else (-2147483648, 2147483647))) else (bif Nat.blt k 164 then (bif Nat.beq k 163 then (0, 9) else (-2147483648, 2147483647)) else (bif Nat.beq k 164 then (0, 100000) else (-2147483648, 2147483647)))) else (bif Nat.blt k 169 then (bif Nat.blt k 167 then (bif Nat.beq k 166 then (0, 15) else (-2147483648, 2147483647)) else (bif Nat.beq k 167 then (0, 9) else (-2147483648, 2147483647))) else (bif Nat.blt k 170 then (bif Nat.beq k 169 then (0, 200) else (-2147483648, 2147483647)) else (bif Nat.blt k 172 then (bif Nat.beq k 170 then (-1, 19) else (-2147483648, 2147483647)) else (bif Nat.beq k 172 then (0, 15) else (-2147483648, 2147483647)))))) else (bif Nat.blt k 178 then (bif Nat.blt k 176 then (bif Nat.blt k 175 then (bif Nat.beq k 173 then (0, 15) else (-2147483648, 2147483647)) else (bif Nat.beq k 175 then (0, 1) else (-2147483648, 2147483647))) else (bif Nat.blt k 177 then (bif Nat.beq k 176 then (0, 5) else (-2147483648, 2147483647)) else (bif Nat.beq k 177 then (0, 1000000) else (-2147483648, 2147483647)))) else (bif Nat.blt k 181 then (bif Nat.blt k 179 then (bif Nat.beq k 178 then (-2, 9999999) else (-2147483648, 2147483647)) else (bif Nat.beq k 179 then (0, 9) else (-2147483648, 2147483647))) else (bif Nat.blt k 182 then (bif Nat.beq k 181 then (0, 19) else (-2147483648, 2147483647)) else (bif Nat.blt k 183 then (bif Nat.beq k 182 then (0, 19) else (-2147483648, 2147483647)) else (bif Nat.beq k 183 then (0, 15) else (-2147483648, 2147483647))))))) else (bif Nat.blt k 197 then (bif Nat.blt k 190 then (bif Nat.blt k 186 then (bif Nat.blt k 185 then (bif Nat.beq k 184 then (0, 100) else (-2147483648, 2147483647)) else (bif Nat.beq k 185 then (0, 24) else (-2147483648, 2147483647))) else (bif Nat.blt k 187 then (bif Nat.beq k 186 then (0, 47) else (-2147483648, 2147483647)) else (bif Nat.beq k 187 then (-1, 9) else (-2147483648, 2147483647)))) else (bif Nat.blt k 192 then (bif Nat.blt k 191 then (bif Nat.beq k 190 then (0, 9) else (-2147483648, 2147483647)) else (bif Nat.beq k 191 then (0, 47) else (-2147483648, 2147483647))) else (bif Nat.blt k 193 then (bif Nat.beq k 192 then (-1, 9) else (-2147483648, 2147483647)) else (bif Nat.blt k 194 then (bif Nat.beq k 193 then (0, 15) else (-2147483648, 2147483647)) else (bif Nat.beq k 194 then (0, 15) else (-2147483648, 2147483647)))))) else (bif Nat.blt k 209 then (bif Nat.blt k 203 then (bif Nat.blt k 201 then (bif Nat.beq k 197 then (-1, 4) else (-2147483648, 2147483647)) else (bif Nat.beq k 201 then (-1, 5) else (-2147483648, 2147483647))) else (bif Nat.blt k 207 then (bif Nat.beq k 203 then (-1, 5) else (-2147483648, 2147483647)) else (bif Nat.blt k 208 then (bif Nat.beq k 207 then (-1, 299) else (-2147483648, 2147483647)) else (bif Nat.beq k 208 then (-1, 501) else (-2147483648, 2147483647))))) else (bif Nat.blt k 211 then (bif Nat.blt k 210 then (bif Nat.beq k 209 then (-1, 501) else (-2147483648, 2147483647)) else (bif Nat.beq k 210 then (0, 1) else (-2147483648, 2147483647))) else (bif Nat.blt k 212 then (bif Nat.beq k 211 then (0, 1) else (-2147483648, 2147483647)) else (bif Nat.blt k 213 then (bif Nat.beq k 212 then (0, 1) else (-2147483648, 2147483647)) else (bif Nat.beq k 213 then (-1, 501) else (-2147483648, 2147483647))))))))))
/-- the bounds that all ints keep -/
def BND (w : MW) : Prop := ∀ k j, (bt k j).1 ≤ (w.1 k j).toInt ∧ (w.1 k j).toInt ≤ (bt k j).2
theorem bnd_set {w : MW} (h : BND w) {k j : Nat} {v : Int32} (h1 : (bt k j).1 ≤ v.toInt) (h2 : v.toInt ≤ (bt k j).2) : BND (sI w k j v) := by
  intro a b
  rw [sI_at]
  split
  · next e => obtain ⟨rfl, rfl⟩ := e; exact ⟨h1, h2⟩
  · exact h a b
theorem bnd_J {w : MW} (h : BND w) {k j : Nat} {v : Int64} : BND (sJ w k j v) := h
theorem bnd_R {w : MW} (h : BND w) {k j : Nat} {v : Option Nat} : BND (sR w k j v) := h
theorem fu_lt {a : Nat} (h : a < 100000000000000000000) : a < FU := h
def off (l : Pl) (d : Pl) : Bool := d.all fun c => l.all fun e => !(e.1 == c.1 && (match e.2 with | none => true | some i => (match c.2 with | none => true | some j => i == j)))
theorem off_hit {l d : Pl} (h : off l d = true) {k j : Nat} (hk : hit d k j = true) : hit l k j = false := by
  cases hl : hit l k j
  · rfl
  · exfalso
    obtain ⟨c, hc, h1⟩ := List.any_eq_true.mp hk
    obtain ⟨e, he, h2⟩ := List.any_eq_true.mp hl
    have h3 := List.all_eq_true.mp (List.all_eq_true.mp h c hc) e he
    rcases c with ⟨c1, _ | c2⟩ <;> rcases e with ⟨e1, _ | e2⟩ <;> simp_all
def MC (w : MW) : Prop := ∀ i : Int32, ((w.1 197 i.toInt.toNat).toInt = 3 → 1 ≤ (w.1 199 i.toInt.toNat).toInt ∧ (w.1 199 i.toInt.toNat).toInt ≤ 5) ∧ ((w.1 197 i.toInt.toNat).toInt = 2 → 0 ≤ (w.1 199 i.toInt.toNat).toInt ∧ (w.1 199 i.toInt.toNat).toInt ≤ 9)
theorem MC_fr {l : Pl} {w w' : MW} (hF : FR l w w') (ho : off l [(197, none), (199, none)] = true) (h : MC w) : MC w' := by
  unfold MC at *
  have hq : ∀ k j, hit [(197, none), (199, none)] k j = true → w'.1 k j = w.1 k j := fun k j hk => (hF k j (off_hit ho hk)).1
  have e197_x : ∀ j, w'.1 197 j = w.1 197 j := fun j => hq 197 j rfl
  have e199_x : ∀ j, w'.1 199 j = w.1 199 j := fun j => hq 199 j rfl
  simp only [e197_x, e199_x]
  exact h
def MZ (w : MW) : Prop := ∀ i : Int32, (w.1 197 i.toInt.toNat).toInt = 0 → 1 ≤ (w.1 200 i.toInt.toNat).toInt ∧ (w.1 200 i.toInt.toNat).toInt ≤ 100
theorem MZ_fr {l : Pl} {w w' : MW} (hF : FR l w w') (ho : off l [(197, none), (200, none)] = true) (h : MZ w) : MZ w' := by
  unfold MZ at *
  have hq : ∀ k j, hit [(197, none), (200, none)] k j = true → w'.1 k j = w.1 k j := fun k j hk => (hF k j (off_hit ho hk)).1
  have e197_x : ∀ j, w'.1 197 j = w.1 197 j := fun j => hq 197 j rfl
  have e200_x : ∀ j, w'.1 200 j = w.1 200 j := fun j => hq 200 j rfl
  simp only [e197_x, e200_x]
  exact h
def PZ (w : MW) : Prop := (w.1 129 2).toInt ≤ (w.1 129 1).toInt
theorem PZ_fr {l : Pl} {w w' : MW} (hF : FR l w w') (ho : off l [(129, some 1), (129, some 2)] = true) (h : PZ w) : PZ w' := by
  unfold PZ at *
  have hq : ∀ k j, hit [(129, some 1), (129, some 2)] k j = true → w'.1 k j = w.1 k j := fun k j hk => (hF k j (off_hit ho hk)).1
  have e129_1 : w'.1 129 1 = w.1 129 1 := hq 129 1 rfl
  have e129_2 : w'.1 129 2 = w.1 129 2 := hq 129 2 rfl
  simp only [e129_1, e129_2]
  exact h
theorem PZ_ex {w : MW} (h : PZ w) : (w.1 129 2).toInt ≤ (w.1 129 1).toInt := h
def PL (w : MW) : Prop := ∀ e : Int32, 0 ≤ e.toInt → e.toInt < 2 * (w.1 8 1).toInt → (w.1 13 e.toInt.toNat).toInt < (w.1 8 0).toInt
theorem PL_fr {l : Pl} {w w' : MW} (hF : FR l w w') (ho : off l [(8, some 0), (8, some 1), (13, none)] = true) (h : PL w) : PL w' := by
  unfold PL at *
  have hq : ∀ k j, hit [(8, some 0), (8, some 1), (13, none)] k j = true → w'.1 k j = w.1 k j := fun k j hk => (hF k j (off_hit ho hk)).1
  have e8_0 : w'.1 8 0 = w.1 8 0 := hq 8 0 rfl
  have e8_1 : w'.1 8 1 = w.1 8 1 := hq 8 1 rfl
  have e13_x : ∀ j, w'.1 13 j = w.1 13 j := fun j => hq 13 j rfl
  simp only [e8_0, e8_1, e13_x]
  exact h
def PE (w : MW) : Prop := ∀ i : Int32, 0 ≤ i.toInt → i.toInt < 4 * (w.1 8 0).toInt → (w.1 15 i.toInt.toNat).toInt < 2 * (w.1 8 1).toInt
theorem PE_fr {l : Pl} {w w' : MW} (hF : FR l w w') (ho : off l [(8, some 0), (8, some 1), (15, none)] = true) (h : PE w) : PE w' := by
  unfold PE at *
  have hq : ∀ k j, hit [(8, some 0), (8, some 1), (15, none)] k j = true → w'.1 k j = w.1 k j := fun k j hk => (hF k j (off_hit ho hk)).1
  have e8_0 : w'.1 8 0 = w.1 8 0 := hq 8 0 rfl
  have e8_1 : w'.1 8 1 = w.1 8 1 := hq 8 1 rfl
  have e15_x : ∀ j, w'.1 15 j = w.1 15 j := fun j => hq 15 j rfl
  simp only [e8_0, e8_1, e15_x]
  exact h
def AC (w : MW) : Prop := ∀ i : Int32, ((w.1 60 i.toInt.toNat).toInt = 3 → 1 ≤ (w.1 58 i.toInt.toNat).toInt ∧ (w.1 58 i.toInt.toNat).toInt ≤ 5) ∧ ((w.1 60 i.toInt.toNat).toInt = 2 → 0 ≤ (w.1 58 i.toInt.toNat).toInt ∧ (w.1 58 i.toInt.toNat).toInt ≤ 9)
theorem AC_fr {l : Pl} {w w' : MW} (hF : FR l w w') (ho : off l [(58, none), (60, none)] = true) (h : AC w) : AC w' := by
  unfold AC at *
  have hq : ∀ k j, hit [(58, none), (60, none)] k j = true → w'.1 k j = w.1 k j := fun k j hk => (hF k j (off_hit ho hk)).1
  have e58_x : ∀ j, w'.1 58 j = w.1 58 j := fun j => hq 58 j rfl
  have e60_x : ∀ j, w'.1 60 j = w.1 60 j := fun j => hq 60 j rfl
  simp only [e58_x, e60_x]
  exact h
def AZ (w : MW) : Prop := ∀ i : Int32, (w.1 60 i.toInt.toNat).toInt = 0 → 1 ≤ (w.1 59 i.toInt.toNat).toInt ∧ (w.1 59 i.toInt.toNat).toInt ≤ 100
theorem AZ_fr {l : Pl} {w w' : MW} (hF : FR l w w') (ho : off l [(59, none), (60, none)] = true) (h : AZ w) : AZ w' := by
  unfold AZ at *
  have hq : ∀ k j, hit [(59, none), (60, none)] k j = true → w'.1 k j = w.1 k j := fun k j hk => (hF k j (off_hit ho hk)).1
  have e59_x : ∀ j, w'.1 59 j = w.1 59 j := fun j => hq 59 j rfl
  have e60_x : ∀ j, w'.1 60 j = w.1 60 j := fun j => hq 60 j rfl
  simp only [e59_x, e60_x]
  exact h
def PL9 (w : MW) : Prop := ∀ e : Int32, 0 ≤ e.toInt → e.toInt < 2 * (w.1 91 1).toInt → (w.1 96 e.toInt.toNat).toInt < (w.1 91 0).toInt
theorem PL9_fr {l : Pl} {w w' : MW} (hF : FR l w w') (ho : off l [(91, some 0), (91, some 1), (96, none)] = true) (h : PL9 w) : PL9 w' := by
  unfold PL9 at *
  have hq : ∀ k j, hit [(91, some 0), (91, some 1), (96, none)] k j = true → w'.1 k j = w.1 k j := fun k j hk => (hF k j (off_hit ho hk)).1
  have e91_0 : w'.1 91 0 = w.1 91 0 := hq 91 0 rfl
  have e91_1 : w'.1 91 1 = w.1 91 1 := hq 91 1 rfl
  have e96_x : ∀ j, w'.1 96 j = w.1 96 j := fun j => hq 96 j rfl
  simp only [e91_0, e91_1, e96_x]
  exact h
def PE9 (w : MW) : Prop := ∀ i : Int32, 0 ≤ i.toInt → i.toInt < 4 * (w.1 91 0).toInt → (w.1 98 i.toInt.toNat).toInt < 2 * (w.1 91 1).toInt
theorem PE9_fr {l : Pl} {w w' : MW} (hF : FR l w w') (ho : off l [(91, some 0), (91, some 1), (98, none)] = true) (h : PE9 w) : PE9 w' := by
  unfold PE9 at *
  have hq : ∀ k j, hit [(91, some 0), (91, some 1), (98, none)] k j = true → w'.1 k j = w.1 k j := fun k j hk => (hF k j (off_hit ho hk)).1
  have e91_0 : w'.1 91 0 = w.1 91 0 := hq 91 0 rfl
  have e91_1 : w'.1 91 1 = w.1 91 1 := hq 91 1 rfl
  have e98_x : ∀ j, w'.1 98 j = w.1 98 j := fun j => hq 98 j rfl
  simp only [e91_0, e91_1, e98_x]
  exact h
def PLs (a : Int32) (w : MW) : Prop := ∀ e : Int32, 0 ≤ e.toInt → e.toInt < a.toInt → (w.1 96 e.toInt.toNat).toInt < (w.1 91 0).toInt
theorem PLs_fr {l : Pl} {w w' : MW} {a1 : Int32} (hF : FR l w w') (ho : off l [(91, some 0), (96, none)] = true) (h : PLs a1 w) : PLs a1 w' := by
  unfold PLs at *
  have hq : ∀ k j, hit [(91, some 0), (96, none)] k j = true → w'.1 k j = w.1 k j := fun k j hk => (hF k j (off_hit ho hk)).1
  have e91_0 : w'.1 91 0 = w.1 91 0 := hq 91 0 rfl
  have e96_x : ∀ j, w'.1 96 j = w.1 96 j := fun j => hq 96 j rfl
  simp only [e91_0, e96_x]
  exact h
def PLs1 (a : Int32) (w : MW) : Prop := ∀ e : Int32, 0 ≤ e.toInt → e.toInt < a.toInt + 1 → (w.1 96 e.toInt.toNat).toInt < (w.1 91 0).toInt
theorem PLs1_fr {l : Pl} {w w' : MW} {a1 : Int32} (hF : FR l w w') (ho : off l [(91, some 0), (96, none)] = true) (h : PLs1 a1 w) : PLs1 a1 w' := by
  unfold PLs1 at *
  have hq : ∀ k j, hit [(91, some 0), (96, none)] k j = true → w'.1 k j = w.1 k j := fun k j hk => (hF k j (off_hit ho hk)).1
  have e91_0 : w'.1 91 0 = w.1 91 0 := hq 91 0 rfl
  have e96_x : ∀ j, w'.1 96 j = w.1 96 j := fun j => hq 96 j rfl
  simp only [e91_0, e96_x]
  exact h
def PEs (a : Int32) (w : MW) : Prop := ∀ i : Int32, 0 ≤ i.toInt → i.toInt < 4 * (w.1 91 0).toInt → (w.1 98 i.toInt.toNat).toInt < a.toInt
theorem PEs_fr {l : Pl} {w w' : MW} {a1 : Int32} (hF : FR l w w') (ho : off l [(91, some 0), (98, none)] = true) (h : PEs a1 w) : PEs a1 w' := by
  unfold PEs at *
  have hq : ∀ k j, hit [(91, some 0), (98, none)] k j = true → w'.1 k j = w.1 k j := fun k j hk => (hF k j (off_hit ho hk)).1
  have e91_0 : w'.1 91 0 = w.1 91 0 := hq 91 0 rfl
  have e98_x : ∀ j, w'.1 98 j = w.1 98 j := fun j => hq 98 j rfl
  simp only [e91_0, e98_x]
  exact h
def PEs1 (a : Int32) (w : MW) : Prop := ∀ i : Int32, 0 ≤ i.toInt → i.toInt < 4 * (w.1 91 0).toInt → (w.1 98 i.toInt.toNat).toInt < a.toInt + 1
theorem PEs1_fr {l : Pl} {w w' : MW} {a1 : Int32} (hF : FR l w w') (ho : off l [(91, some 0), (98, none)] = true) (h : PEs1 a1 w) : PEs1 a1 w' := by
  unfold PEs1 at *
  have hq : ∀ k j, hit [(91, some 0), (98, none)] k j = true → w'.1 k j = w.1 k j := fun k j hk => (hF k j (off_hit ho hk)).1
  have e91_0 : w'.1 91 0 = w.1 91 0 := hq 91 0 rfl
  have e98_x : ∀ j, w'.1 98 j = w.1 98 j := fun j => hq 98 j rfl
  simp only [e91_0, e98_x]
  exact h
def PJ9 (w : MW) : Prop := ∀ i : Int32, 0 ≤ i.toInt → i.toInt < 4 * (w.1 91 0).toInt → 0 ≤ (w.1 98 i.toInt.toNat).toInt → (w.1 97 (w.1 98 i.toInt.toNat).toInt.toNat).toInt = i.toInt % 4
theorem PJ9_fr {l : Pl} {w w' : MW} (hF : FR l w w') (ho : off l [(91, some 0), (97, none), (98, none)] = true) (h : PJ9 w) : PJ9 w' := by
  unfold PJ9 at *
  have hq : ∀ k j, hit [(91, some 0), (97, none), (98, none)] k j = true → w'.1 k j = w.1 k j := fun k j hk => (hF k j (off_hit ho hk)).1
  have e91_0 : w'.1 91 0 = w.1 91 0 := hq 91 0 rfl
  have e97_x : ∀ j, w'.1 97 j = w.1 97 j := fun j => hq 97 j rfl
  have e98_x : ∀ j, w'.1 98 j = w.1 98 j := fun j => hq 98 j rfl
  simp only [e91_0, e97_x, e98_x]
  exact h
def ZL (a : Int32) (w : MW) : Prop := 0 ≤ a.toInt ∧ ¬ (w.1 78 a.toInt.toNat).toInt = 0 ∧ ¬ (w.1 79 a.toInt.toNat).toInt = 0
theorem ZL_fr {l : Pl} {w w' : MW} {a1 : Int32} (hF : FR l w w') (ho : off l [(78, none), (79, none)] = true) (h : ZL a1 w) : ZL a1 w' := by
  unfold ZL at *
  have hq : ∀ k j, hit [(78, none), (79, none)] k j = true → w'.1 k j = w.1 k j := fun k j hk => (hF k j (off_hit ho hk)).1
  have e78_x : ∀ j, w'.1 78 j = w.1 78 j := fun j => hq 78 j rfl
  have e79_x : ∀ j, w'.1 79 j = w.1 79 j := fun j => hq 79 j rfl
  simp only [e78_x, e79_x]
  exact h
def RO (w : MW) : Prop := 0 ≤ (w.1 62 2).toInt → ZL 0 w
theorem RO_fr {l : Pl} {w w' : MW} (hF : FR l w w') (ho : off l [(78, none), (79, none), (62, some 2)] = true) (h : RO w) : RO w' := by
  unfold RO ZL at *
  have hq : ∀ k j, hit [(78, none), (79, none), (62, some 2)] k j = true → w'.1 k j = w.1 k j := fun k j hk => (hF k j (off_hit ho hk)).1
  have e78_x : ∀ j, w'.1 78 j = w.1 78 j := fun j => hq 78 j rfl
  have e79_x : ∀ j, w'.1 79 j = w.1 79 j := fun j => hq 79 j rfl
  have e62_2 : w'.1 62 2 = w.1 62 2 := hq 62 2 rfl
  simp only [e78_x, e79_x, e62_2]
  exact h
def RS (w : MW) : Prop := ((w.1 61 4).toInt = 0 ∨ (w.1 61 4).toInt = 2) → (w.1 80 0).toInt = 1 ∧ 0 ≤ (w.1 62 2).toInt
theorem RS_fr {l : Pl} {w w' : MW} (hF : FR l w w') (ho : off l [(61, some 4), (62, some 2), (80, none)] = true) (h : RS w) : RS w' := by
  unfold RS at *
  have hq : ∀ k j, hit [(61, some 4), (62, some 2), (80, none)] k j = true → w'.1 k j = w.1 k j := fun k j hk => (hF k j (off_hit ho hk)).1
  have e61_4 : w'.1 61 4 = w.1 61 4 := hq 61 4 rfl
  have e62_2 : w'.1 62 2 = w.1 62 2 := hq 62 2 rfl
  have e80_x : ∀ j, w'.1 80 j = w.1 80 j := fun j => hq 80 j rfl
  simp only [e61_4, e62_2, e80_x]
  exact h
theorem RS_ex {w : MW} (h : RS w) : ((w.1 61 4).toInt = 0 ∨ (w.1 61 4).toInt = 2) → (w.1 80 0).toInt = 1 ∧ 0 ≤ (w.1 62 2).toInt := h
def ZP (a : Int32) (w : MW) : Prop := ¬ a.toInt = 0 ∧ (0 < a.toInt → ¬ (w.1 78 a.toInt.toNat).toInt = 0 ∧ ¬ (w.1 79 a.toInt.toNat).toInt = 0)
theorem ZP_fr {l : Pl} {w w' : MW} {a1 : Int32} (hF : FR l w w') (ho : off l [(78, none), (79, none)] = true) (h : ZP a1 w) : ZP a1 w' := by
  unfold ZP at *
  have hq : ∀ k j, hit [(78, none), (79, none)] k j = true → w'.1 k j = w.1 k j := fun k j hk => (hF k j (off_hit ho hk)).1
  have e78_x : ∀ j, w'.1 78 j = w.1 78 j := fun j => hq 78 j rfl
  have e79_x : ∀ j, w'.1 79 j = w.1 79 j := fun j => hq 79 j rfl
  simp only [e78_x, e79_x]
  exact h
def RF (w : MW) : Prop := ∀ i : Int32, ZL i w → ZP (w.1 78 i.toInt.toNat) w ∧ ((w.1 78 i.toInt.toNat).toInt < 0 ∨ i.toInt < (w.1 78 i.toInt.toNat).toInt)
theorem RF_fr {l : Pl} {w w' : MW} (hF : FR l w w') (ho : off l [(78, none), (79, none)] = true) (h : RF w) : RF w' := by
  unfold RF ZL ZP at *
  have hq : ∀ k j, hit [(78, none), (79, none)] k j = true → w'.1 k j = w.1 k j := fun k j hk => (hF k j (off_hit ho hk)).1
  have e78_x : ∀ j, w'.1 78 j = w.1 78 j := fun j => hq 78 j rfl
  have e79_x : ∀ j, w'.1 79 j = w.1 79 j := fun j => hq 79 j rfl
  simp only [e78_x, e79_x]
  exact h
def RX (w : MW) : Prop := ∀ i : Int32, ZL i w → ZP (w.1 79 i.toInt.toNat) w ∧ ((w.1 79 i.toInt.toNat).toInt < 0 ∨ i.toInt < (w.1 79 i.toInt.toNat).toInt)
theorem RX_fr {l : Pl} {w w' : MW} (hF : FR l w w') (ho : off l [(78, none), (79, none)] = true) (h : RX w) : RX w' := by
  unfold RX ZL ZP at *
  have hq : ∀ k j, hit [(78, none), (79, none)] k j = true → w'.1 k j = w.1 k j := fun k j hk => (hF k j (off_hit ho hk)).1
  have e78_x : ∀ j, w'.1 78 j = w.1 78 j := fun j => hq 78 j rfl
  have e79_x : ∀ j, w'.1 79 j = w.1 79 j := fun j => hq 79 j rfl
  simp only [e78_x, e79_x]
  exact h
def RK (w : MW) : Prop := ∀ i : Int32, ZL i w → 1 ≤ i.toInt → 0 ≤ (w.1 77 i.toInt.toNat).toInt ∧ (w.1 77 i.toInt.toNat).toInt < (w.1 62 1).toInt ∧ ((w.1 63 (w.1 77 i.toInt.toNat).toInt.toNat).toInt = 17 ∨ (w.1 63 (w.1 77 i.toInt.toNat).toInt.toNat).toInt = 19 ∨ (w.1 63 (w.1 77 i.toInt.toNat).toInt.toNat).toInt = 20 → 1 ≤ (w.1 78 i.toInt.toNat).toInt)
theorem RK_fr {l : Pl} {w w' : MW} (hF : FR l w w') (ho : off l [(78, none), (79, none), (77, none), (63, none), (62, some 1)] = true) (h : RK w) : RK w' := by
  unfold RK ZL at *
  have hq : ∀ k j, hit [(78, none), (79, none), (77, none), (63, none), (62, some 1)] k j = true → w'.1 k j = w.1 k j := fun k j hk => (hF k j (off_hit ho hk)).1
  have e78_x : ∀ j, w'.1 78 j = w.1 78 j := fun j => hq 78 j rfl
  have e79_x : ∀ j, w'.1 79 j = w.1 79 j := fun j => hq 79 j rfl
  have e77_x : ∀ j, w'.1 77 j = w.1 77 j := fun j => hq 77 j rfl
  have e63_x : ∀ j, w'.1 63 j = w.1 63 j := fun j => hq 63 j rfl
  have e62_1 : w'.1 62 1 = w.1 62 1 := hq 62 1 rfl
  simp only [e78_x, e79_x, e77_x, e63_x, e62_1]
  exact h
def RC (w : MW) : Prop := ∀ i : Int32, ZL i w → ¬ (w.1 80 i.toInt.toNat).toInt = 0 → ZP (w.1 81 i.toInt.toNat) w ∧ ((w.1 81 i.toInt.toNat).toInt < 0 ∨ i.toInt < (w.1 81 i.toInt.toNat).toInt)
theorem RC_fr {l : Pl} {w w' : MW} (hF : FR l w w') (ho : off l [(78, none), (79, none), (80, none), (81, none)] = true) (h : RC w) : RC w' := by
  unfold RC ZL ZP at *
  have hq : ∀ k j, hit [(78, none), (79, none), (80, none), (81, none)] k j = true → w'.1 k j = w.1 k j := fun k j hk => (hF k j (off_hit ho hk)).1
  have e78_x : ∀ j, w'.1 78 j = w.1 78 j := fun j => hq 78 j rfl
  have e79_x : ∀ j, w'.1 79 j = w.1 79 j := fun j => hq 79 j rfl
  have e80_x : ∀ j, w'.1 80 j = w.1 80 j := fun j => hq 80 j rfl
  have e81_x : ∀ j, w'.1 81 j = w.1 81 j := fun j => hq 81 j rfl
  simp only [e78_x, e79_x, e80_x, e81_x]
  exact h
def PA (w : MW) : Prop := ∀ n : Int32, 0 ≤ n.toInt → n.toInt < (w.1 62 1).toInt → ((w.1 63 n.toInt.toNat).toInt = 11 ∨ (w.1 63 n.toInt.toNat).toInt = 14 ∨ (w.1 63 n.toInt.toNat).toInt = 22 ∨ (w.1 63 n.toInt.toNat).toInt = 23 ∨ (w.1 63 n.toInt.toNat).toInt = 30) → 0 ≤ (w.1 64 n.toInt.toNat).toInt ∧ (w.1 64 n.toInt.toNat).toInt ≤ 39
theorem PA_fr {l : Pl} {w w' : MW} (hF : FR l w w') (ho : off l [(62, some 1), (63, none), (64, none)] = true) (h : PA w) : PA w' := by
  unfold PA at *
  have hq : ∀ k j, hit [(62, some 1), (63, none), (64, none)] k j = true → w'.1 k j = w.1 k j := fun k j hk => (hF k j (off_hit ho hk)).1
  have e62_1 : w'.1 62 1 = w.1 62 1 := hq 62 1 rfl
  have e63_x : ∀ j, w'.1 63 j = w.1 63 j := fun j => hq 63 j rfl
  have e64_x : ∀ j, w'.1 64 j = w.1 64 j := fun j => hq 64 j rfl
  simp only [e62_1, e63_x, e64_x]
  exact h
def PT (w : MW) : Prop := ∀ n : Int32, 0 ≤ n.toInt → n.toInt < (w.1 62 1).toInt → (w.1 66 n.toInt.toNat).toInt ≤ (w.1 62 1).toInt ∧ ((w.1 65 n.toInt.toNat).toInt < (w.1 66 n.toInt.toNat).toInt → (11 ≤ (w.1 63 n.toInt.toNat).toInt ∧ (w.1 63 n.toInt.toNat).toInt ≤ 14) ∨ (w.1 63 n.toInt.toNat).toInt = 17 ∨ (w.1 63 n.toInt.toNat).toInt = 19 ∨ (w.1 63 n.toInt.toNat).toInt = 20)
theorem PT_fr {l : Pl} {w w' : MW} (hF : FR l w w') (ho : off l [(62, some 1), (63, none), (65, none), (66, none)] = true) (h : PT w) : PT w' := by
  unfold PT at *
  have hq : ∀ k j, hit [(62, some 1), (63, none), (65, none), (66, none)] k j = true → w'.1 k j = w.1 k j := fun k j hk => (hF k j (off_hit ho hk)).1
  have e62_1 : w'.1 62 1 = w.1 62 1 := hq 62 1 rfl
  have e63_x : ∀ j, w'.1 63 j = w.1 63 j := fun j => hq 63 j rfl
  have e65_x : ∀ j, w'.1 65 j = w.1 65 j := fun j => hq 65 j rfl
  have e66_x : ∀ j, w'.1 66 j = w.1 66 j := fun j => hq 66 j rfl
  simp only [e62_1, e63_x, e65_x, e66_x]
  exact h
def FT (w : MW) : Prop := ∀ k : Int32, 0 ≤ k.toInt → k.toInt < (w.1 127 26).toInt → (w.1 182 k.toInt.toNat).toInt < (w.1 127 4).toInt
theorem FT_fr {l : Pl} {w w' : MW} (hF : FR l w w') (ho : off l [(127, some 26), (127, some 4), (182, none)] = true) (h : FT w) : FT w' := by
  unfold FT at *
  have hq : ∀ k j, hit [(127, some 26), (127, some 4), (182, none)] k j = true → w'.1 k j = w.1 k j := fun k j hk => (hF k j (off_hit ho hk)).1
  have e127_26 : w'.1 127 26 = w.1 127 26 := hq 127 26 rfl
  have e127_4 : w'.1 127 4 = w.1 127 4 := hq 127 4 rfl
  have e182_x : ∀ j, w'.1 182 j = w.1 182 j := fun j => hq 182 j rfl
  simp only [e127_26, e127_4, e182_x]
  exact h
def FT1 (w : MW) : Prop := (w.1 182 (w.1 127 26).toInt.toNat).toInt < (w.1 127 4).toInt
theorem FT1_fr {l : Pl} {w w' : MW} (hF : FR l w w') (ho : off l [(127, some 26), (127, some 4), (182, none)] = true) (h : FT1 w) : FT1 w' := by
  unfold FT1 at *
  have hq : ∀ k j, hit [(127, some 26), (127, some 4), (182, none)] k j = true → w'.1 k j = w.1 k j := fun k j hk => (hF k j (off_hit ho hk)).1
  have e127_26 : w'.1 127 26 = w.1 127 26 := hq 127 26 rfl
  have e127_4 : w'.1 127 4 = w.1 127 4 := hq 127 4 rfl
  have e182_x : ∀ j, w'.1 182 j = w.1 182 j := fun j => hq 182 j rfl
  simp only [e127_26, e127_4, e182_x]
  exact h
def MB (w : MW) : Prop := ∀ i : Int32, 0 ≤ i.toInt → i.toInt < (w.1 147 4).toInt → (w.1 149 i.toInt.toNat).toInt < (w.1 150 i.toInt.toNat).toInt ∧ (i.toInt + 1 < (w.1 147 4).toInt → (w.1 150 i.toInt.toNat).toInt ≤ (w.1 149 (i.toInt + 1).toNat).toInt)
theorem MB_fr {l : Pl} {w w' : MW} (hF : FR l w w') (ho : off l [(147, some 4), (149, none), (150, none)] = true) (h : MB w) : MB w' := by
  unfold MB at *
  have hq : ∀ k j, hit [(147, some 4), (149, none), (150, none)] k j = true → w'.1 k j = w.1 k j := fun k j hk => (hF k j (off_hit ho hk)).1
  have e147_4 : w'.1 147 4 = w.1 147 4 := hq 147 4 rfl
  have e149_x : ∀ j, w'.1 149 j = w.1 149 j := fun j => hq 149 j rfl
  have e150_x : ∀ j, w'.1 150 j = w.1 150 j := fun j => hq 150 j rfl
  simp only [e147_4, e149_x, e150_x]
  exact h
def MK (a : Int32) (w : MW) : Prop := ∀ i : Int32, 0 ≤ i.toInt → i.toInt < (w.1 147 4).toInt → (w.1 150 i.toInt.toNat).toInt ≤ a.toInt
theorem MK_fr {l : Pl} {w w' : MW} {a1 : Int32} (hF : FR l w w') (ho : off l [(147, some 4), (150, none)] = true) (h : MK a1 w) : MK a1 w' := by
  unfold MK at *
  have hq : ∀ k j, hit [(147, some 4), (150, none)] k j = true → w'.1 k j = w.1 k j := fun k j hk => (hF k j (off_hit ho hk)).1
  have e147_4 : w'.1 147 4 = w.1 147 4 := hq 147 4 rfl
  have e150_x : ∀ j, w'.1 150 j = w.1 150 j := fun j => hq 150 j rfl
  simp only [e147_4, e150_x]
  exact h
def NK (w : MW) : Prop := ∀ i : Int32, (w.1 117 i.toInt.toNat).toInt = 10 → 0 ≤ (w.1 119 i.toInt.toNat).toInt
theorem NK_fr {l : Pl} {w w' : MW} (hF : FR l w w') (ho : off l [(117, none), (119, none)] = true) (h : NK w) : NK w' := by
  unfold NK at *
  have hq : ∀ k j, hit [(117, none), (119, none)] k j = true → w'.1 k j = w.1 k j := fun k j hk => (hF k j (off_hit ho hk)).1
  have e117_x : ∀ j, w'.1 117 j = w.1 117 j := fun j => hq 117 j rfl
  have e119_x : ∀ j, w'.1 119 j = w.1 119 j := fun j => hq 119 j rfl
  simp only [e117_x, e119_x]
  exact h
def SZ (w : MW) : Prop := ∀ p : Int32, 0 ≤ p.toInt → p.toInt < (w.1 127 11).toInt → 1 ≤ (w.1 169 p.toInt.toNat).toInt
theorem SZ_fr {l : Pl} {w w' : MW} (hF : FR l w w') (ho : off l [(127, some 11), (169, none)] = true) (h : SZ w) : SZ w' := by
  unfold SZ at *
  have hq : ∀ k j, hit [(127, some 11), (169, none)] k j = true → w'.1 k j = w.1 k j := fun k j hk => (hF k j (off_hit ho hk)).1
  have e127_11 : w'.1 127 11 = w.1 127 11 := hq 127 11 rfl
  have e169_x : ∀ j, w'.1 169 j = w.1 169 j := fun j => hq 169 j rfl
  simp only [e127_11, e169_x]
  exact h
def PJ (w : MW) : Prop := ∀ i : Int32, 0 ≤ i.toInt → i.toInt < 4 * (w.1 8 0).toInt → 0 ≤ (w.1 15 i.toInt.toNat).toInt → (w.1 14 (w.1 15 i.toInt.toNat).toInt.toNat).toInt = i.toInt % 4
theorem PJ_fr {l : Pl} {w w' : MW} (hF : FR l w w') (ho : off l [(8, some 0), (14, none), (15, none)] = true) (h : PJ w) : PJ w' := by
  unfold PJ at *
  have hq : ∀ k j, hit [(8, some 0), (14, none), (15, none)] k j = true → w'.1 k j = w.1 k j := fun k j hk => (hF k j (off_hit ho hk)).1
  have e8_0 : w'.1 8 0 = w.1 8 0 := hq 8 0 rfl
  have e14_x : ∀ j, w'.1 14 j = w.1 14 j := fun j => hq 14 j rfl
  have e15_x : ∀ j, w'.1 15 j = w.1 15 j := fun j => hq 15 j rfl
  simp only [e8_0, e14_x, e15_x]
  exact h
theorem bd_0_12 {w : MW} (h : BND w) : 0 ≤ (w.1 0 12).toInt ∧ (w.1 0 12).toInt ≤ 640 := h 0 12
theorem wbd_0_12 {w : MW} (h : BND w) {v : Int32} (h1 : 0 ≤ v.toInt) (h2 : v.toInt ≤ 640) : BND (sI w 0 12 v) := bnd_set h h1 h2
theorem bd_1_1 {w : MW} (h : BND w) : 0 ≤ (w.1 1 1).toInt ∧ (w.1 1 1).toInt ≤ 4020 := h 1 1
theorem wbd_1_1 {w : MW} (h : BND w) {v : Int32} (h1 : 0 ≤ v.toInt) (h2 : v.toInt ≤ 4020) : BND (sI w 1 1 v) := bnd_set h h1 h2
theorem bd_1_2 {w : MW} (h : BND w) : 0 ≤ (w.1 1 2).toInt ∧ (w.1 1 2).toInt ≤ 4000 := h 1 2
theorem wbd_1_2 {w : MW} (h : BND w) {v : Int32} (h1 : 0 ≤ v.toInt) (h2 : v.toInt ≤ 4000) : BND (sI w 1 2 v) := bnd_set h h1 h2
theorem wbd_2 {w : MW} (h : BND w) (j : Nat) {v : Int32} : BND (sI w 2 j v) := bnd_set h (ti_lo v) (ti_hi v)
theorem bd_3_0 {w : MW} (h : BND w) : 0 ≤ (w.1 3 0).toInt ∧ (w.1 3 0).toInt ≤ 200 := h 3 0
theorem wbd_3_0 {w : MW} (h : BND w) {v : Int32} (h1 : 0 ≤ v.toInt) (h2 : v.toInt ≤ 200) : BND (sI w 3 0 v) := bnd_set h h1 h2
theorem wbd_4 {w : MW} (h : BND w) (j : Nat) {v : Int32} : BND (sI w 4 j v) := bnd_set h (ti_lo v) (ti_hi v)
theorem wbd_5 {w : MW} (h : BND w) (j : Nat) {v : Int32} : BND (sI w 5 j v) := bnd_set h (ti_lo v) (ti_hi v)
theorem wbd_6 {w : MW} (h : BND w) (j : Nat) {v : Int32} : BND (sI w 6 j v) := bnd_set h (ti_lo v) (ti_hi v)
theorem wbd_7_1 {w : MW} (h : BND w) {v : Int32} : BND (sI w 7 1 v) := bnd_set h (ti_lo v) (ti_hi v)
theorem bd_8_0 {w : MW} (h : BND w) : 0 ≤ (w.1 8 0).toInt ∧ (w.1 8 0).toInt ≤ 20 := h 8 0
theorem wbd_8_0 {w : MW} (h : BND w) {v : Int32} (h1 : 0 ≤ v.toInt) (h2 : v.toInt ≤ 20) : BND (sI w 8 0 v) := bnd_set h h1 h2
theorem bd_8_1 {w : MW} (h : BND w) : 0 ≤ (w.1 8 1).toInt ∧ (w.1 8 1).toInt ≤ 24 := h 8 1
theorem wbd_8_1 {w : MW} (h : BND w) {v : Int32} (h1 : 0 ≤ v.toInt) (h2 : v.toInt ≤ 24) : BND (sI w 8 1 v) := bnd_set h h1 h2
theorem bd_8_10 {w : MW} (h : BND w) : 0 ≤ (w.1 8 10).toInt ∧ (w.1 8 10).toInt ≤ 4000 := h 8 10
theorem wbd_8_10 {w : MW} (h : BND w) {v : Int32} (h1 : 0 ≤ v.toInt) (h2 : v.toInt ≤ 4000) : BND (sI w 8 10 v) := bnd_set h h1 h2
theorem bd_8_11 {w : MW} (h : BND w) : -1 ≤ (w.1 8 11).toInt ∧ (w.1 8 11).toInt ≤ 9999999 := h 8 11
theorem wbd_8_11 {w : MW} (h : BND w) {v : Int32} (h1 : -1 ≤ v.toInt) (h2 : v.toInt ≤ 9999999) : BND (sI w 8 11 v) := bnd_set h h1 h2
theorem bd_9 {w : MW} (h : BND w) (j : Nat) : 0 ≤ (w.1 9 j).toInt ∧ (w.1 9 j).toInt ≤ 9 := h 9 j
theorem wbd_9 {w : MW} (h : BND w) (j : Nat) {v : Int32} (h1 : 0 ≤ v.toInt) (h2 : v.toInt ≤ 9) : BND (sI w 9 j v) := bnd_set h h1 h2
theorem bd_10 {w : MW} (h : BND w) (j : Nat) : 0 ≤ (w.1 10 j).toInt ∧ (w.1 10 j).toInt ≤ 100000 := h 10 j
theorem wbd_10 {w : MW} (h : BND w) (j : Nat) {v : Int32} (h1 : 0 ≤ v.toInt) (h2 : v.toInt ≤ 100000) : BND (sI w 10 j v) := bnd_set h h1 h2
theorem bd_11 {w : MW} (h : BND w) (j : Nat) : 0 ≤ (w.1 11 j).toInt ∧ (w.1 11 j).toInt ≤ 48 := h 11 j
theorem wbd_11 {w : MW} (h : BND w) (j : Nat) {v : Int32} (h1 : 0 ≤ v.toInt) (h2 : v.toInt ≤ 48) : BND (sI w 11 j v) := bnd_set h h1 h2
theorem bd_12 {w : MW} (h : BND w) (j : Nat) : 0 ≤ (w.1 12 j).toInt ∧ (w.1 12 j).toInt ≤ 200 := h 12 j
theorem wbd_12 {w : MW} (h : BND w) (j : Nat) {v : Int32} (h1 : 0 ≤ v.toInt) (h2 : v.toInt ≤ 200) : BND (sI w 12 j v) := bnd_set h h1 h2
theorem bd_13 {w : MW} (h : BND w) (j : Nat) : -1 ≤ (w.1 13 j).toInt ∧ (w.1 13 j).toInt ≤ 9999999 := h 13 j
theorem wbd_13 {w : MW} (h : BND w) (j : Nat) {v : Int32} (h1 : -1 ≤ v.toInt) (h2 : v.toInt ≤ 9999999) : BND (sI w 13 j v) := bnd_set h h1 h2
theorem bd_14 {w : MW} (h : BND w) (j : Nat) : 0 ≤ (w.1 14 j).toInt ∧ (w.1 14 j).toInt ≤ 3 := h 14 j
theorem wbd_14 {w : MW} (h : BND w) (j : Nat) {v : Int32} (h1 : 0 ≤ v.toInt) (h2 : v.toInt ≤ 3) : BND (sI w 14 j v) := bnd_set h h1 h2
theorem bd_15 {w : MW} (h : BND w) (j : Nat) : -1 ≤ (w.1 15 j).toInt ∧ (w.1 15 j).toInt ≤ 47 := h 15 j
theorem wbd_15 {w : MW} (h : BND w) (j : Nat) {v : Int32} (h1 : -1 ≤ v.toInt) (h2 : v.toInt ≤ 47) : BND (sI w 15 j v) := bnd_set h h1 h2
theorem bd_16 {w : MW} (h : BND w) (j : Nat) : 0 ≤ (w.1 16 j).toInt ∧ (w.1 16 j).toInt ≤ 9 := h 16 j
theorem wbd_16 {w : MW} (h : BND w) (j : Nat) {v : Int32} (h1 : 0 ≤ v.toInt) (h2 : v.toInt ≤ 9) : BND (sI w 16 j v) := bnd_set h h1 h2
theorem bd_17 {w : MW} (h : BND w) (j : Nat) : 0 ≤ (w.1 17 j).toInt ∧ (w.1 17 j).toInt ≤ 14 := h 17 j
theorem wbd_17 {w : MW} (h : BND w) (j : Nat) {v : Int32} (h1 : 0 ≤ v.toInt) (h2 : v.toInt ≤ 14) : BND (sI w 17 j v) := bnd_set h h1 h2
theorem wbd_18 {w : MW} (h : BND w) (j : Nat) {v : Int32} : BND (sI w 18 j v) := bnd_set h (ti_lo v) (ti_hi v)
theorem bd_19 {w : MW} (h : BND w) (j : Nat) : 0 ≤ (w.1 19 j).toInt ∧ (w.1 19 j).toInt ≤ 14 := h 19 j
theorem wbd_19 {w : MW} (h : BND w) (j : Nat) {v : Int32} (h1 : 0 ≤ v.toInt) (h2 : v.toInt ≤ 14) : BND (sI w 19 j v) := bnd_set h h1 h2
theorem bd_21 {w : MW} (h : BND w) (j : Nat) : 0 ≤ (w.1 21 j).toInt ∧ (w.1 21 j).toInt ≤ 199 := h 21 j
theorem wbd_21 {w : MW} (h : BND w) (j : Nat) {v : Int32} (h1 : 0 ≤ v.toInt) (h2 : v.toInt ≤ 199) : BND (sI w 21 j v) := bnd_set h h1 h2
theorem wbd_22 {w : MW} (h : BND w) (j : Nat) {v : Int32} : BND (sI w 22 j v) := bnd_set h (ti_lo v) (ti_hi v)
theorem wbd_23 {w : MW} (h : BND w) (j : Nat) {v : Int32} : BND (sI w 23 j v) := bnd_set h (ti_lo v) (ti_hi v)
theorem bd_24 {w : MW} (h : BND w) (j : Nat) : 0 ≤ (w.1 24 j).toInt ∧ (w.1 24 j).toInt ≤ 5 := h 24 j
theorem wbd_24 {w : MW} (h : BND w) (j : Nat) {v : Int32} (h1 : 0 ≤ v.toInt) (h2 : v.toInt ≤ 5) : BND (sI w 24 j v) := bnd_set h h1 h2
theorem bd_25 {w : MW} (h : BND w) (j : Nat) : 0 ≤ (w.1 25 j).toInt ∧ (w.1 25 j).toInt ≤ 1000000 := h 25 j
theorem wbd_25 {w : MW} (h : BND w) (j : Nat) {v : Int32} (h1 : 0 ≤ v.toInt) (h2 : v.toInt ≤ 1000000) : BND (sI w 25 j v) := bnd_set h h1 h2
theorem bd_26_1 {w : MW} (h : BND w) : 0 ≤ (w.1 26 1).toInt ∧ (w.1 26 1).toInt ≤ 24 := h 26 1
theorem wbd_26_1 {w : MW} (h : BND w) {v : Int32} (h1 : 0 ≤ v.toInt) (h2 : v.toInt ≤ 24) : BND (sI w 26 1 v) := bnd_set h h1 h2
theorem bd_26_15 {w : MW} (h : BND w) : 0 ≤ (w.1 26 15).toInt ∧ (w.1 26 15).toInt ≤ 24 := h 26 15
theorem wbd_26_15 {w : MW} (h : BND w) {v : Int32} (h1 : 0 ≤ v.toInt) (h2 : v.toInt ≤ 24) : BND (sI w 26 15 v) := bnd_set h h1 h2
theorem bd_27 {w : MW} (h : BND w) (j : Nat) : 0 ≤ (w.1 27 j).toInt ∧ (w.1 27 j).toInt ≤ 19 := h 27 j
theorem wbd_27 {w : MW} (h : BND w) (j : Nat) {v : Int32} (h1 : 0 ≤ v.toInt) (h2 : v.toInt ≤ 19) : BND (sI w 27 j v) := bnd_set h h1 h2
theorem bd_28 {w : MW} (h : BND w) (j : Nat) : 0 ≤ (w.1 28 j).toInt ∧ (w.1 28 j).toInt ≤ 19 := h 28 j
theorem wbd_28 {w : MW} (h : BND w) (j : Nat) {v : Int32} (h1 : 0 ≤ v.toInt) (h2 : v.toInt ≤ 19) : BND (sI w 28 j v) := bnd_set h h1 h2
theorem bd_29 {w : MW} (h : BND w) (j : Nat) : 0 ≤ (w.1 29 j).toInt ∧ (w.1 29 j).toInt ≤ 100 := h 29 j
theorem wbd_29 {w : MW} (h : BND w) (j : Nat) {v : Int32} (h1 : 0 ≤ v.toInt) (h2 : v.toInt ≤ 100) : BND (sI w 29 j v) := bnd_set h h1 h2
theorem bd_30 {w : MW} (h : BND w) (j : Nat) : 0 ≤ (w.1 30 j).toInt ∧ (w.1 30 j).toInt ≤ 14 := h 30 j
theorem wbd_30 {w : MW} (h : BND w) (j : Nat) {v : Int32} (h1 : 0 ≤ v.toInt) (h2 : v.toInt ≤ 14) : BND (sI w 30 j v) := bnd_set h h1 h2
theorem bd_31 {w : MW} (h : BND w) (j : Nat) : 0 ≤ (w.1 31 j).toInt ∧ (w.1 31 j).toInt ≤ 24 := h 31 j
theorem wbd_31 {w : MW} (h : BND w) (j : Nat) {v : Int32} (h1 : 0 ≤ v.toInt) (h2 : v.toInt ≤ 24) : BND (sI w 31 j v) := bnd_set h h1 h2
theorem bd_32 {w : MW} (h : BND w) (j : Nat) : 0 ≤ (w.1 32 j).toInt ∧ (w.1 32 j).toInt ≤ 23 := h 32 j
theorem wbd_32 {w : MW} (h : BND w) (j : Nat) {v : Int32} (h1 : 0 ≤ v.toInt) (h2 : v.toInt ≤ 23) : BND (sI w 32 j v) := bnd_set h h1 h2
theorem bd_33 {w : MW} (h : BND w) (j : Nat) : 0 ≤ (w.1 33 j).toInt ∧ (w.1 33 j).toInt ≤ 23 := h 33 j
theorem wbd_33 {w : MW} (h : BND w) (j : Nat) {v : Int32} (h1 : 0 ≤ v.toInt) (h2 : v.toInt ≤ 23) : BND (sI w 33 j v) := bnd_set h h1 h2
theorem bd_34 {w : MW} (h : BND w) (j : Nat) : 0 ≤ (w.1 34 j).toInt ∧ (w.1 34 j).toInt ≤ 47 := h 34 j
theorem wbd_34 {w : MW} (h : BND w) (j : Nat) {v : Int32} (h1 : 0 ≤ v.toInt) (h2 : v.toInt ≤ 47) : BND (sI w 34 j v) := bnd_set h h1 h2
theorem bd_35 {w : MW} (h : BND w) (j : Nat) : -1 ≤ (w.1 35 j).toInt ∧ (w.1 35 j).toInt ≤ 23 := h 35 j
theorem wbd_35 {w : MW} (h : BND w) (j : Nat) {v : Int32} (h1 : -1 ≤ v.toInt) (h2 : v.toInt ≤ 23) : BND (sI w 35 j v) := bnd_set h h1 h2
theorem bd_36 {w : MW} (h : BND w) (j : Nat) : 0 ≤ (w.1 36 j).toInt ∧ (w.1 36 j).toInt ≤ 1 := h 36 j
theorem wbd_36 {w : MW} (h : BND w) (j : Nat) {v : Int32} (h1 : 0 ≤ v.toInt) (h2 : v.toInt ≤ 1) : BND (sI w 36 j v) := bnd_set h h1 h2
theorem wbd_37 {w : MW} (h : BND w) (j : Nat) {v : Int32} : BND (sI w 37 j v) := bnd_set h (ti_lo v) (ti_hi v)
theorem wbd_38 {w : MW} (h : BND w) (j : Nat) {v : Int32} : BND (sI w 38 j v) := bnd_set h (ti_lo v) (ti_hi v)
theorem bd_39 {w : MW} (h : BND w) (j : Nat) : 0 ≤ (w.1 39 j).toInt ∧ (w.1 39 j).toInt ≤ 47 := h 39 j
theorem wbd_39 {w : MW} (h : BND w) (j : Nat) {v : Int32} (h1 : 0 ≤ v.toInt) (h2 : v.toInt ≤ 47) : BND (sI w 39 j v) := bnd_set h h1 h2
theorem bd_40 {w : MW} (h : BND w) (j : Nat) : 0 ≤ (w.1 40 j).toInt ∧ (w.1 40 j).toInt ≤ 9 := h 40 j
theorem wbd_40 {w : MW} (h : BND w) (j : Nat) {v : Int32} (h1 : 0 ≤ v.toInt) (h2 : v.toInt ≤ 9) : BND (sI w 40 j v) := bnd_set h h1 h2
theorem bd_41 {w : MW} (h : BND w) (j : Nat) : -1 ≤ (w.1 41 j).toInt ∧ (w.1 41 j).toInt ≤ 9 := h 41 j
theorem wbd_41 {w : MW} (h : BND w) (j : Nat) {v : Int32} (h1 : -1 ≤ v.toInt) (h2 : v.toInt ≤ 9) : BND (sI w 41 j v) := bnd_set h h1 h2
theorem wbd_42_6 {w : MW} (h : BND w) {v : Int32} : BND (sI w 42 6 v) := bnd_set h (ti_lo v) (ti_hi v)
theorem wbd_42_7 {w : MW} (h : BND w) {v : Int32} : BND (sI w 42 7 v) := bnd_set h (ti_lo v) (ti_hi v)
theorem wbd_42_8 {w : MW} (h : BND w) {v : Int32} : BND (sI w 42 8 v) := bnd_set h (ti_lo v) (ti_hi v)
theorem wbd_42_9 {w : MW} (h : BND w) {v : Int32} : BND (sI w 42 9 v) := bnd_set h (ti_lo v) (ti_hi v)
theorem wbd_44 {w : MW} (h : BND w) (j : Nat) {v : Int32} : BND (sI w 44 j v) := bnd_set h (ti_lo v) (ti_hi v)
theorem bd_48_0 {w : MW} (h : BND w) : 0 ≤ (w.1 48 0).toInt ∧ (w.1 48 0).toInt ≤ 40 := h 48 0
theorem wbd_48_0 {w : MW} (h : BND w) {v : Int32} (h1 : 0 ≤ v.toInt) (h2 : v.toInt ≤ 40) : BND (sI w 48 0 v) := bnd_set h h1 h2
theorem wbd_48_1 {w : MW} (h : BND w) {v : Int32} : BND (sI w 48 1 v) := bnd_set h (ti_lo v) (ti_hi v)
theorem bd_48_10 {w : MW} (h : BND w) : 0 ≤ (w.1 48 10).toInt ∧ (w.1 48 10).toInt ≤ 1400 := h 48 10
theorem wbd_48_10 {w : MW} (h : BND w) {v : Int32} (h1 : 0 ≤ v.toInt) (h2 : v.toInt ≤ 1400) : BND (sI w 48 10 v) := bnd_set h h1 h2
theorem bd_48_12 {w : MW} (h : BND w) : 0 ≤ (w.1 48 12).toInt ∧ (w.1 48 12).toInt ≤ 4000 := h 48 12
theorem wbd_48_12 {w : MW} (h : BND w) {v : Int32} (h1 : 0 ≤ v.toInt) (h2 : v.toInt ≤ 4000) : BND (sI w 48 12 v) := bnd_set h h1 h2
theorem bd_48_13 {w : MW} (h : BND w) : 0 ≤ (w.1 48 13).toInt ∧ (w.1 48 13).toInt ≤ 4000 := h 48 13
theorem wbd_48_13 {w : MW} (h : BND w) {v : Int32} (h1 : 0 ≤ v.toInt) (h2 : v.toInt ≤ 4000) : BND (sI w 48 13 v) := bnd_set h h1 h2
theorem wbd_48_14 {w : MW} (h : BND w) {v : Int32} : BND (sI w 48 14 v) := bnd_set h (ti_lo v) (ti_hi v)
theorem bd_48_15 {w : MW} (h : BND w) : 0 ≤ (w.1 48 15).toInt ∧ (w.1 48 15).toInt ≤ 20 := h 48 15
theorem wbd_48_15 {w : MW} (h : BND w) {v : Int32} (h1 : 0 ≤ v.toInt) (h2 : v.toInt ≤ 20) : BND (sI w 48 15 v) := bnd_set h h1 h2
theorem bd_48_16 {w : MW} (h : BND w) : 0 ≤ (w.1 48 16).toInt ∧ (w.1 48 16).toInt ≤ 32 := h 48 16
theorem wbd_48_16 {w : MW} (h : BND w) {v : Int32} (h1 : 0 ≤ v.toInt) (h2 : v.toInt ≤ 32) : BND (sI w 48 16 v) := bnd_set h h1 h2
theorem wbd_48_17 {w : MW} (h : BND w) {v : Int32} : BND (sI w 48 17 v) := bnd_set h (ti_lo v) (ti_hi v)
theorem bd_49 {w : MW} (h : BND w) (j : Nat) : 0 ≤ (w.1 49 j).toInt ∧ (w.1 49 j).toInt ≤ 1000000 := h 49 j
theorem wbd_49 {w : MW} (h : BND w) (j : Nat) {v : Int32} (h1 : 0 ≤ v.toInt) (h2 : v.toInt ≤ 1000000) : BND (sI w 49 j v) := bnd_set h h1 h2
theorem bd_50 {w : MW} (h : BND w) (j : Nat) : 0 ≤ (w.1 50 j).toInt ∧ (w.1 50 j).toInt ≤ 1 := h 50 j
theorem wbd_50 {w : MW} (h : BND w) (j : Nat) {v : Int32} (h1 : 0 ≤ v.toInt) (h2 : v.toInt ≤ 1) : BND (sI w 50 j v) := bnd_set h h1 h2
theorem bd_51 {w : MW} (h : BND w) (j : Nat) : 0 ≤ (w.1 51 j).toInt ∧ (w.1 51 j).toInt ≤ 3600 := h 51 j
theorem wbd_51 {w : MW} (h : BND w) (j : Nat) {v : Int32} (h1 : 0 ≤ v.toInt) (h2 : v.toInt ≤ 3600) : BND (sI w 51 j v) := bnd_set h h1 h2
theorem wbd_52 {w : MW} (h : BND w) (j : Nat) {v : Int32} : BND (sI w 52 j v) := bnd_set h (ti_lo v) (ti_hi v)
theorem bd_53 {w : MW} (h : BND w) (j : Nat) : -1 ≤ (w.1 53 j).toInt ∧ (w.1 53 j).toInt ≤ 3600 := h 53 j
theorem wbd_53 {w : MW} (h : BND w) (j : Nat) {v : Int32} (h1 : -1 ≤ v.toInt) (h2 : v.toInt ≤ 3600) : BND (sI w 53 j v) := bnd_set h h1 h2
theorem bd_54 {w : MW} (h : BND w) (j : Nat) : 0 ≤ (w.1 54 j).toInt ∧ (w.1 54 j).toInt ≤ 1 := h 54 j
theorem wbd_54 {w : MW} (h : BND w) (j : Nat) {v : Int32} (h1 : 0 ≤ v.toInt) (h2 : v.toInt ≤ 1) : BND (sI w 54 j v) := bnd_set h h1 h2
theorem bd_55 {w : MW} (h : BND w) (j : Nat) : 0 ≤ (w.1 55 j).toInt ∧ (w.1 55 j).toInt ≤ 1400 := h 55 j
theorem wbd_55 {w : MW} (h : BND w) (j : Nat) {v : Int32} (h1 : 0 ≤ v.toInt) (h2 : v.toInt ≤ 1400) : BND (sI w 55 j v) := bnd_set h h1 h2
theorem bd_56 {w : MW} (h : BND w) (j : Nat) : 0 ≤ (w.1 56 j).toInt ∧ (w.1 56 j).toInt ≤ 18 := h 56 j
theorem wbd_56 {w : MW} (h : BND w) (j : Nat) {v : Int32} (h1 : 0 ≤ v.toInt) (h2 : v.toInt ≤ 18) : BND (sI w 56 j v) := bnd_set h h1 h2
theorem wbd_57 {w : MW} (h : BND w) (j : Nat) {v : Int32} : BND (sI w 57 j v) := bnd_set h (ti_lo v) (ti_hi v)
theorem wbd_58 {w : MW} (h : BND w) (j : Nat) {v : Int32} : BND (sI w 58 j v) := bnd_set h (ti_lo v) (ti_hi v)
theorem wbd_59 {w : MW} (h : BND w) (j : Nat) {v : Int32} : BND (sI w 59 j v) := bnd_set h (ti_lo v) (ti_hi v)
theorem bd_60 {w : MW} (h : BND w) (j : Nat) : -1 ≤ (w.1 60 j).toInt ∧ (w.1 60 j).toInt ≤ 4 := h 60 j
theorem wbd_60 {w : MW} (h : BND w) (j : Nat) {v : Int32} (h1 : -1 ≤ v.toInt) (h2 : v.toInt ≤ 4) : BND (sI w 60 j v) := bnd_set h h1 h2
theorem bd_61_4 {w : MW} (h : BND w) : 0 ≤ (w.1 61 4).toInt ∧ (w.1 61 4).toInt ≤ 4 := h 61 4
theorem wbd_61_4 {w : MW} (h : BND w) {v : Int32} (h1 : 0 ≤ v.toInt) (h2 : v.toInt ≤ 4) : BND (sI w 61 4 v) := bnd_set h h1 h2
theorem bd_61_5 {w : MW} (h : BND w) : 0 ≤ (w.1 61 5).toInt ∧ (w.1 61 5).toInt ≤ 501 := h 61 5
theorem wbd_61_5 {w : MW} (h : BND w) {v : Int32} (h1 : 0 ≤ v.toInt) (h2 : v.toInt ≤ 501) : BND (sI w 61 5 v) := bnd_set h h1 h2
theorem wbd_61_15 {w : MW} (h : BND w) {v : Int32} : BND (sI w 61 15 v) := bnd_set h (ti_lo v) (ti_hi v)
theorem bd_61_18 {w : MW} (h : BND w) : 0 ≤ (w.1 61 18).toInt ∧ (w.1 61 18).toInt ≤ 1 := h 61 18
theorem wbd_61_18 {w : MW} (h : BND w) {v : Int32} (h1 : 0 ≤ v.toInt) (h2 : v.toInt ≤ 1) : BND (sI w 61 18 v) := bnd_set h h1 h2
theorem bd_61_19 {w : MW} (h : BND w) : 0 ≤ (w.1 61 19).toInt ∧ (w.1 61 19).toInt ≤ 1000 := h 61 19
theorem wbd_61_19 {w : MW} (h : BND w) {v : Int32} (h1 : 0 ≤ v.toInt) (h2 : v.toInt ≤ 1000) : BND (sI w 61 19 v) := bnd_set h h1 h2
theorem bd_61_20 {w : MW} (h : BND w) : 0 ≤ (w.1 61 20).toInt ∧ (w.1 61 20).toInt ≤ 10 := h 61 20
theorem wbd_61_20 {w : MW} (h : BND w) {v : Int32} (h1 : 0 ≤ v.toInt) (h2 : v.toInt ≤ 10) : BND (sI w 61 20 v) := bnd_set h h1 h2
theorem wbd_62_0 {w : MW} (h : BND w) {v : Int32} : BND (sI w 62 0 v) := bnd_set h (ti_lo v) (ti_hi v)
theorem bd_62_1 {w : MW} (h : BND w) : 0 ≤ (w.1 62 1).toInt ∧ (w.1 62 1).toInt ≤ 301 := h 62 1
theorem wbd_62_1 {w : MW} (h : BND w) {v : Int32} (h1 : 0 ≤ v.toInt) (h2 : v.toInt ≤ 301) : BND (sI w 62 1 v) := bnd_set h h1 h2
theorem bd_62_2 {w : MW} (h : BND w) : -1 ≤ (w.1 62 2).toInt ∧ (w.1 62 2).toInt ≤ 300 := h 62 2
theorem wbd_62_2 {w : MW} (h : BND w) {v : Int32} (h1 : -1 ≤ v.toInt) (h2 : v.toInt ≤ 300) : BND (sI w 62 2 v) := bnd_set h h1 h2
theorem bd_62_10 {w : MW} (h : BND w) : 0 ≤ (w.1 62 10).toInt ∧ (w.1 62 10).toInt ≤ 40 := h 62 10
theorem wbd_62_10 {w : MW} (h : BND w) {v : Int32} (h1 : 0 ≤ v.toInt) (h2 : v.toInt ≤ 40) : BND (sI w 62 10 v) := bnd_set h h1 h2
theorem wbd_63 {w : MW} (h : BND w) (j : Nat) {v : Int32} : BND (sI w 63 j v) := bnd_set h (ti_lo v) (ti_hi v)
theorem wbd_64 {w : MW} (h : BND w) (j : Nat) {v : Int32} : BND (sI w 64 j v) := bnd_set h (ti_lo v) (ti_hi v)
theorem bd_65 {w : MW} (h : BND w) (j : Nat) : 0 ≤ (w.1 65 j).toInt ∧ (w.1 65 j).toInt ≤ 301 := h 65 j
theorem wbd_65 {w : MW} (h : BND w) (j : Nat) {v : Int32} (h1 : 0 ≤ v.toInt) (h2 : v.toInt ≤ 301) : BND (sI w 65 j v) := bnd_set h h1 h2
theorem bd_66 {w : MW} (h : BND w) (j : Nat) : 0 ≤ (w.1 66 j).toInt ∧ (w.1 66 j).toInt ≤ 301 := h 66 j
theorem wbd_66 {w : MW} (h : BND w) (j : Nat) {v : Int32} (h1 : 0 ≤ v.toInt) (h2 : v.toInt ≤ 301) : BND (sI w 66 j v) := bnd_set h h1 h2
theorem bd_67 {w : MW} (h : BND w) (j : Nat) : -1 ≤ (w.1 67 j).toInt ∧ (w.1 67 j).toInt ≤ 300 := h 67 j
theorem wbd_67 {w : MW} (h : BND w) (j : Nat) {v : Int32} (h1 : -1 ≤ v.toInt) (h2 : v.toInt ≤ 300) : BND (sI w 67 j v) := bnd_set h h1 h2
theorem bd_68 {w : MW} (h : BND w) (j : Nat) : -1 ≤ (w.1 68 j).toInt ∧ (w.1 68 j).toInt ≤ 300 := h 68 j
theorem wbd_68 {w : MW} (h : BND w) (j : Nat) {v : Int32} (h1 : -1 ≤ v.toInt) (h2 : v.toInt ≤ 300) : BND (sI w 68 j v) := bnd_set h h1 h2
theorem wbd_71 {w : MW} (h : BND w) (j : Nat) {v : Int32} : BND (sI w 71 j v) := bnd_set h (ti_lo v) (ti_hi v)
theorem wbd_72 {w : MW} (h : BND w) (j : Nat) {v : Int32} : BND (sI w 72 j v) := bnd_set h (ti_lo v) (ti_hi v)
theorem bd_73 {w : MW} (h : BND w) (j : Nat) : -1 ≤ (w.1 73 j).toInt ∧ (w.1 73 j).toInt ≤ 300 := h 73 j
theorem wbd_73 {w : MW} (h : BND w) (j : Nat) {v : Int32} (h1 : -1 ≤ v.toInt) (h2 : v.toInt ≤ 300) : BND (sI w 73 j v) := bnd_set h h1 h2
theorem bd_75 {w : MW} (h : BND w) (j : Nat) : 0 ≤ (w.1 75 j).toInt ∧ (w.1 75 j).toInt ≤ 5 := h 75 j
theorem wbd_75 {w : MW} (h : BND w) (j : Nat) {v : Int32} (h1 : 0 ≤ v.toInt) (h2 : v.toInt ≤ 5) : BND (sI w 75 j v) := bnd_set h h1 h2
theorem wbd_76 {w : MW} (h : BND w) (j : Nat) {v : Int32} : BND (sI w 76 j v) := bnd_set h (ti_lo v) (ti_hi v)
theorem bd_77 {w : MW} (h : BND w) (j : Nat) : -1 ≤ (w.1 77 j).toInt ∧ (w.1 77 j).toInt ≤ 300 := h 77 j
theorem wbd_77 {w : MW} (h : BND w) (j : Nat) {v : Int32} (h1 : -1 ≤ v.toInt) (h2 : v.toInt ≤ 300) : BND (sI w 77 j v) := bnd_set h h1 h2
theorem bd_78 {w : MW} (h : BND w) (j : Nat) : -1 ≤ (w.1 78 j).toInt ∧ (w.1 78 j).toInt ≤ 500 := h 78 j
theorem wbd_78 {w : MW} (h : BND w) (j : Nat) {v : Int32} (h1 : -1 ≤ v.toInt) (h2 : v.toInt ≤ 500) : BND (sI w 78 j v) := bnd_set h h1 h2
theorem bd_79 {w : MW} (h : BND w) (j : Nat) : -1 ≤ (w.1 79 j).toInt ∧ (w.1 79 j).toInt ≤ 500 := h 79 j
theorem wbd_79 {w : MW} (h : BND w) (j : Nat) {v : Int32} (h1 : -1 ≤ v.toInt) (h2 : v.toInt ≤ 500) : BND (sI w 79 j v) := bnd_set h h1 h2
theorem bd_80 {w : MW} (h : BND w) (j : Nat) : 0 ≤ (w.1 80 j).toInt ∧ (w.1 80 j).toInt ≤ 2 := h 80 j
theorem wbd_80 {w : MW} (h : BND w) (j : Nat) {v : Int32} (h1 : 0 ≤ v.toInt) (h2 : v.toInt ≤ 2) : BND (sI w 80 j v) := bnd_set h h1 h2
theorem bd_81 {w : MW} (h : BND w) (j : Nat) : -1 ≤ (w.1 81 j).toInt ∧ (w.1 81 j).toInt ≤ 500 := h 81 j
theorem wbd_81 {w : MW} (h : BND w) (j : Nat) {v : Int32} (h1 : -1 ≤ v.toInt) (h2 : v.toInt ≤ 500) : BND (sI w 81 j v) := bnd_set h h1 h2
theorem bd_87_2 {w : MW} (h : BND w) : 0 ≤ (w.1 87 2).toInt ∧ (w.1 87 2).toInt ≤ 4000 := h 87 2
theorem wbd_87_2 {w : MW} (h : BND w) {v : Int32} (h1 : 0 ≤ v.toInt) (h2 : v.toInt ≤ 4000) : BND (sI w 87 2 v) := bnd_set h h1 h2
theorem wbd_87_3 {w : MW} (h : BND w) {v : Int32} : BND (sI w 87 3 v) := bnd_set h (ti_lo v) (ti_hi v)
theorem wbd_87_4 {w : MW} (h : BND w) {v : Int32} : BND (sI w 87 4 v) := bnd_set h (ti_lo v) (ti_hi v)
theorem bd_87_7 {w : MW} (h : BND w) : 0 ≤ (w.1 87 7).toInt ∧ (w.1 87 7).toInt ≤ 1 := h 87 7
theorem wbd_87_7 {w : MW} (h : BND w) {v : Int32} (h1 : 0 ≤ v.toInt) (h2 : v.toInt ≤ 1) : BND (sI w 87 7 v) := bnd_set h h1 h2
theorem bd_87_8 {w : MW} (h : BND w) : 0 ≤ (w.1 87 8).toInt ∧ (w.1 87 8).toInt ≤ 20 := h 87 8
theorem wbd_87_8 {w : MW} (h : BND w) {v : Int32} (h1 : 0 ≤ v.toInt) (h2 : v.toInt ≤ 20) : BND (sI w 87 8 v) := bnd_set h h1 h2
theorem wbd_87_9 {w : MW} (h : BND w) {v : Int32} : BND (sI w 87 9 v) := bnd_set h (ti_lo v) (ti_hi v)
theorem wbd_88 {w : MW} (h : BND w) (j : Nat) {v : Int32} : BND (sI w 88 j v) := bnd_set h (ti_lo v) (ti_hi v)
theorem wbd_89 {w : MW} (h : BND w) (j : Nat) {v : Int32} : BND (sI w 89 j v) := bnd_set h (ti_lo v) (ti_hi v)
theorem bd_91_0 {w : MW} (h : BND w) : 0 ≤ (w.1 91 0).toInt ∧ (w.1 91 0).toInt ≤ 20 := h 91 0
theorem wbd_91_0 {w : MW} (h : BND w) {v : Int32} (h1 : 0 ≤ v.toInt) (h2 : v.toInt ≤ 20) : BND (sI w 91 0 v) := bnd_set h h1 h2
theorem bd_91_1 {w : MW} (h : BND w) : 0 ≤ (w.1 91 1).toInt ∧ (w.1 91 1).toInt ≤ 24 := h 91 1
theorem wbd_91_1 {w : MW} (h : BND w) {v : Int32} (h1 : 0 ≤ v.toInt) (h2 : v.toInt ≤ 24) : BND (sI w 91 1 v) := bnd_set h h1 h2
theorem bd_91_10 {w : MW} (h : BND w) : 0 ≤ (w.1 91 10).toInt ∧ (w.1 91 10).toInt ≤ 4000 := h 91 10
theorem wbd_91_10 {w : MW} (h : BND w) {v : Int32} (h1 : 0 ≤ v.toInt) (h2 : v.toInt ≤ 4000) : BND (sI w 91 10 v) := bnd_set h h1 h2
theorem bd_91_11 {w : MW} (h : BND w) : -1 ≤ (w.1 91 11).toInt ∧ (w.1 91 11).toInt ≤ 9999999 := h 91 11
theorem wbd_91_11 {w : MW} (h : BND w) {v : Int32} (h1 : -1 ≤ v.toInt) (h2 : v.toInt ≤ 9999999) : BND (sI w 91 11 v) := bnd_set h h1 h2
theorem bd_92 {w : MW} (h : BND w) (j : Nat) : 0 ≤ (w.1 92 j).toInt ∧ (w.1 92 j).toInt ≤ 9 := h 92 j
theorem wbd_92 {w : MW} (h : BND w) (j : Nat) {v : Int32} (h1 : 0 ≤ v.toInt) (h2 : v.toInt ≤ 9) : BND (sI w 92 j v) := bnd_set h h1 h2
theorem bd_93 {w : MW} (h : BND w) (j : Nat) : 0 ≤ (w.1 93 j).toInt ∧ (w.1 93 j).toInt ≤ 100000 := h 93 j
theorem wbd_93 {w : MW} (h : BND w) (j : Nat) {v : Int32} (h1 : 0 ≤ v.toInt) (h2 : v.toInt ≤ 100000) : BND (sI w 93 j v) := bnd_set h h1 h2
theorem bd_94 {w : MW} (h : BND w) (j : Nat) : 0 ≤ (w.1 94 j).toInt ∧ (w.1 94 j).toInt ≤ 48 := h 94 j
theorem wbd_94 {w : MW} (h : BND w) (j : Nat) {v : Int32} (h1 : 0 ≤ v.toInt) (h2 : v.toInt ≤ 48) : BND (sI w 94 j v) := bnd_set h h1 h2
theorem bd_95 {w : MW} (h : BND w) (j : Nat) : 0 ≤ (w.1 95 j).toInt ∧ (w.1 95 j).toInt ≤ 200 := h 95 j
theorem wbd_95 {w : MW} (h : BND w) (j : Nat) {v : Int32} (h1 : 0 ≤ v.toInt) (h2 : v.toInt ≤ 200) : BND (sI w 95 j v) := bnd_set h h1 h2
theorem bd_96 {w : MW} (h : BND w) (j : Nat) : -1 ≤ (w.1 96 j).toInt ∧ (w.1 96 j).toInt ≤ 9999999 := h 96 j
theorem wbd_96 {w : MW} (h : BND w) (j : Nat) {v : Int32} (h1 : -1 ≤ v.toInt) (h2 : v.toInt ≤ 9999999) : BND (sI w 96 j v) := bnd_set h h1 h2
theorem bd_97 {w : MW} (h : BND w) (j : Nat) : 0 ≤ (w.1 97 j).toInt ∧ (w.1 97 j).toInt ≤ 3 := h 97 j
theorem wbd_97 {w : MW} (h : BND w) (j : Nat) {v : Int32} (h1 : 0 ≤ v.toInt) (h2 : v.toInt ≤ 3) : BND (sI w 97 j v) := bnd_set h h1 h2
theorem bd_98 {w : MW} (h : BND w) (j : Nat) : -1 ≤ (w.1 98 j).toInt ∧ (w.1 98 j).toInt ≤ 47 := h 98 j
theorem wbd_98 {w : MW} (h : BND w) (j : Nat) {v : Int32} (h1 : -1 ≤ v.toInt) (h2 : v.toInt ≤ 47) : BND (sI w 98 j v) := bnd_set h h1 h2
theorem bd_99_0 {w : MW} (h : BND w) : 0 ≤ (w.1 99 0).toInt ∧ (w.1 99 0).toInt ≤ 40 := h 99 0
theorem wbd_99_0 {w : MW} (h : BND w) {v : Int32} (h1 : 0 ≤ v.toInt) (h2 : v.toInt ≤ 40) : BND (sI w 99 0 v) := bnd_set h h1 h2
theorem wbd_99_1 {w : MW} (h : BND w) {v : Int32} : BND (sI w 99 1 v) := bnd_set h (ti_lo v) (ti_hi v)
theorem bd_99_10 {w : MW} (h : BND w) : 0 ≤ (w.1 99 10).toInt ∧ (w.1 99 10).toInt ≤ 1400 := h 99 10
theorem wbd_99_10 {w : MW} (h : BND w) {v : Int32} (h1 : 0 ≤ v.toInt) (h2 : v.toInt ≤ 1400) : BND (sI w 99 10 v) := bnd_set h h1 h2
theorem bd_99_12 {w : MW} (h : BND w) : 0 ≤ (w.1 99 12).toInt ∧ (w.1 99 12).toInt ≤ 4000 := h 99 12
theorem wbd_99_12 {w : MW} (h : BND w) {v : Int32} (h1 : 0 ≤ v.toInt) (h2 : v.toInt ≤ 4000) : BND (sI w 99 12 v) := bnd_set h h1 h2
theorem bd_99_13 {w : MW} (h : BND w) : 0 ≤ (w.1 99 13).toInt ∧ (w.1 99 13).toInt ≤ 4000 := h 99 13
theorem wbd_99_13 {w : MW} (h : BND w) {v : Int32} (h1 : 0 ≤ v.toInt) (h2 : v.toInt ≤ 4000) : BND (sI w 99 13 v) := bnd_set h h1 h2
theorem wbd_99_14 {w : MW} (h : BND w) {v : Int32} : BND (sI w 99 14 v) := bnd_set h (ti_lo v) (ti_hi v)
theorem bd_99_15 {w : MW} (h : BND w) : 0 ≤ (w.1 99 15).toInt ∧ (w.1 99 15).toInt ≤ 20 := h 99 15
theorem wbd_99_15 {w : MW} (h : BND w) {v : Int32} (h1 : 0 ≤ v.toInt) (h2 : v.toInt ≤ 20) : BND (sI w 99 15 v) := bnd_set h h1 h2
theorem bd_99_16 {w : MW} (h : BND w) : 0 ≤ (w.1 99 16).toInt ∧ (w.1 99 16).toInt ≤ 32 := h 99 16
theorem wbd_99_16 {w : MW} (h : BND w) {v : Int32} (h1 : 0 ≤ v.toInt) (h2 : v.toInt ≤ 32) : BND (sI w 99 16 v) := bnd_set h h1 h2
theorem wbd_99_17 {w : MW} (h : BND w) {v : Int32} : BND (sI w 99 17 v) := bnd_set h (ti_lo v) (ti_hi v)
theorem bd_100 {w : MW} (h : BND w) (j : Nat) : 0 ≤ (w.1 100 j).toInt ∧ (w.1 100 j).toInt ≤ 1000000 := h 100 j
theorem wbd_100 {w : MW} (h : BND w) (j : Nat) {v : Int32} (h1 : 0 ≤ v.toInt) (h2 : v.toInt ≤ 1000000) : BND (sI w 100 j v) := bnd_set h h1 h2
theorem bd_101 {w : MW} (h : BND w) (j : Nat) : 0 ≤ (w.1 101 j).toInt ∧ (w.1 101 j).toInt ≤ 1 := h 101 j
theorem wbd_101 {w : MW} (h : BND w) (j : Nat) {v : Int32} (h1 : 0 ≤ v.toInt) (h2 : v.toInt ≤ 1) : BND (sI w 101 j v) := bnd_set h h1 h2
theorem bd_102 {w : MW} (h : BND w) (j : Nat) : 0 ≤ (w.1 102 j).toInt ∧ (w.1 102 j).toInt ≤ 3600 := h 102 j
theorem wbd_102 {w : MW} (h : BND w) (j : Nat) {v : Int32} (h1 : 0 ≤ v.toInt) (h2 : v.toInt ≤ 3600) : BND (sI w 102 j v) := bnd_set h h1 h2
theorem wbd_103 {w : MW} (h : BND w) (j : Nat) {v : Int32} : BND (sI w 103 j v) := bnd_set h (ti_lo v) (ti_hi v)
theorem bd_104 {w : MW} (h : BND w) (j : Nat) : -1 ≤ (w.1 104 j).toInt ∧ (w.1 104 j).toInt ≤ 3600 := h 104 j
theorem wbd_104 {w : MW} (h : BND w) (j : Nat) {v : Int32} (h1 : -1 ≤ v.toInt) (h2 : v.toInt ≤ 3600) : BND (sI w 104 j v) := bnd_set h h1 h2
theorem bd_105 {w : MW} (h : BND w) (j : Nat) : 0 ≤ (w.1 105 j).toInt ∧ (w.1 105 j).toInt ≤ 1 := h 105 j
theorem wbd_105 {w : MW} (h : BND w) (j : Nat) {v : Int32} (h1 : 0 ≤ v.toInt) (h2 : v.toInt ≤ 1) : BND (sI w 105 j v) := bnd_set h h1 h2
theorem bd_106 {w : MW} (h : BND w) (j : Nat) : 0 ≤ (w.1 106 j).toInt ∧ (w.1 106 j).toInt ≤ 1400 := h 106 j
theorem wbd_106 {w : MW} (h : BND w) (j : Nat) {v : Int32} (h1 : 0 ≤ v.toInt) (h2 : v.toInt ≤ 1400) : BND (sI w 106 j v) := bnd_set h h1 h2
theorem bd_107 {w : MW} (h : BND w) (j : Nat) : 0 ≤ (w.1 107 j).toInt ∧ (w.1 107 j).toInt ≤ 18 := h 107 j
theorem wbd_107 {w : MW} (h : BND w) (j : Nat) {v : Int32} (h1 : 0 ≤ v.toInt) (h2 : v.toInt ≤ 18) : BND (sI w 107 j v) := bnd_set h h1 h2
theorem wbd_108_0 {w : MW} (h : BND w) {v : Int32} : BND (sI w 108 0 v) := bnd_set h (ti_lo v) (ti_hi v)
theorem bd_108_1 {w : MW} (h : BND w) : 0 ≤ (w.1 108 1).toInt ∧ (w.1 108 1).toInt ≤ 301 := h 108 1
theorem wbd_108_1 {w : MW} (h : BND w) {v : Int32} (h1 : 0 ≤ v.toInt) (h2 : v.toInt ≤ 301) : BND (sI w 108 1 v) := bnd_set h h1 h2
theorem bd_108_2 {w : MW} (h : BND w) : -1 ≤ (w.1 108 2).toInt ∧ (w.1 108 2).toInt ≤ 300 := h 108 2
theorem wbd_108_2 {w : MW} (h : BND w) {v : Int32} (h1 : -1 ≤ v.toInt) (h2 : v.toInt ≤ 300) : BND (sI w 108 2 v) := bnd_set h h1 h2
theorem bd_108_10 {w : MW} (h : BND w) : 0 ≤ (w.1 108 10).toInt ∧ (w.1 108 10).toInt ≤ 40 := h 108 10
theorem wbd_108_10 {w : MW} (h : BND w) {v : Int32} (h1 : 0 ≤ v.toInt) (h2 : v.toInt ≤ 40) : BND (sI w 108 10 v) := bnd_set h h1 h2
theorem wbd_109 {w : MW} (h : BND w) (j : Nat) {v : Int32} : BND (sI w 109 j v) := bnd_set h (ti_lo v) (ti_hi v)
theorem wbd_110 {w : MW} (h : BND w) (j : Nat) {v : Int32} : BND (sI w 110 j v) := bnd_set h (ti_lo v) (ti_hi v)
theorem bd_111 {w : MW} (h : BND w) (j : Nat) : 0 ≤ (w.1 111 j).toInt ∧ (w.1 111 j).toInt ≤ 301 := h 111 j
theorem wbd_111 {w : MW} (h : BND w) (j : Nat) {v : Int32} (h1 : 0 ≤ v.toInt) (h2 : v.toInt ≤ 301) : BND (sI w 111 j v) := bnd_set h h1 h2
theorem bd_112 {w : MW} (h : BND w) (j : Nat) : 0 ≤ (w.1 112 j).toInt ∧ (w.1 112 j).toInt ≤ 301 := h 112 j
theorem wbd_112 {w : MW} (h : BND w) (j : Nat) {v : Int32} (h1 : 0 ≤ v.toInt) (h2 : v.toInt ≤ 301) : BND (sI w 112 j v) := bnd_set h h1 h2
theorem bd_113 {w : MW} (h : BND w) (j : Nat) : -1 ≤ (w.1 113 j).toInt ∧ (w.1 113 j).toInt ≤ 300 := h 113 j
theorem wbd_113 {w : MW} (h : BND w) (j : Nat) {v : Int32} (h1 : -1 ≤ v.toInt) (h2 : v.toInt ≤ 300) : BND (sI w 113 j v) := bnd_set h h1 h2
theorem bd_114 {w : MW} (h : BND w) (j : Nat) : -1 ≤ (w.1 114 j).toInt ∧ (w.1 114 j).toInt ≤ 300 := h 114 j
theorem wbd_114 {w : MW} (h : BND w) (j : Nat) {v : Int32} (h1 : -1 ≤ v.toInt) (h2 : v.toInt ≤ 300) : BND (sI w 114 j v) := bnd_set h h1 h2
theorem wbd_117 {w : MW} (h : BND w) (j : Nat) {v : Int32} : BND (sI w 117 j v) := bnd_set h (ti_lo v) (ti_hi v)
theorem wbd_118 {w : MW} (h : BND w) (j : Nat) {v : Int32} : BND (sI w 118 j v) := bnd_set h (ti_lo v) (ti_hi v)
theorem bd_119 {w : MW} (h : BND w) (j : Nat) : -1 ≤ (w.1 119 j).toInt ∧ (w.1 119 j).toInt ≤ 300 := h 119 j
theorem wbd_119 {w : MW} (h : BND w) (j : Nat) {v : Int32} (h1 : -1 ≤ v.toInt) (h2 : v.toInt ≤ 300) : BND (sI w 119 j v) := bnd_set h h1 h2
theorem bd_121 {w : MW} (h : BND w) (j : Nat) : 0 ≤ (w.1 121 j).toInt ∧ (w.1 121 j).toInt ≤ 5 := h 121 j
theorem wbd_121 {w : MW} (h : BND w) (j : Nat) {v : Int32} (h1 : 0 ≤ v.toInt) (h2 : v.toInt ≤ 5) : BND (sI w 121 j v) := bnd_set h h1 h2
theorem wbd_122 {w : MW} (h : BND w) (j : Nat) {v : Int32} : BND (sI w 122 j v) := bnd_set h (ti_lo v) (ti_hi v)
theorem bd_123 {w : MW} (h : BND w) (j : Nat) : -128 ≤ (w.1 123 j).toInt ∧ (w.1 123 j).toInt ≤ 127 := h 123 j
theorem wbd_123 {w : MW} (h : BND w) (j : Nat) {v : Int32} (h1 : -128 ≤ v.toInt) (h2 : v.toInt ≤ 127) : BND (sI w 123 j v) := bnd_set h h1 h2
theorem wbd_124 {w : MW} (h : BND w) (j : Nat) {v : Int32} : BND (sI w 124 j v) := bnd_set h (ti_lo v) (ti_hi v)
theorem bd_126 {w : MW} (h : BND w) (j : Nat) : 0 ≤ (w.1 126 j).toInt ∧ (w.1 126 j).toInt ≤ 5 := h 126 j
theorem wbd_126 {w : MW} (h : BND w) (j : Nat) {v : Int32} (h1 : 0 ≤ v.toInt) (h2 : v.toInt ≤ 5) : BND (sI w 126 j v) := bnd_set h h1 h2
theorem bd_127_1 {w : MW} (h : BND w) : 0 ≤ (w.1 127 1).toInt ∧ (w.1 127 1).toInt ≤ 4020 := h 127 1
theorem wbd_127_1 {w : MW} (h : BND w) {v : Int32} (h1 : 0 ≤ v.toInt) (h2 : v.toInt ≤ 4020) : BND (sI w 127 1 v) := bnd_set h h1 h2
theorem bd_127_4 {w : MW} (h : BND w) : 0 ≤ (w.1 127 4).toInt ∧ (w.1 127 4).toInt ≤ 20 := h 127 4
theorem wbd_127_4 {w : MW} (h : BND w) {v : Int32} (h1 : 0 ≤ v.toInt) (h2 : v.toInt ≤ 20) : BND (sI w 127 4 v) := bnd_set h h1 h2
theorem bd_127_11 {w : MW} (h : BND w) : 0 ≤ (w.1 127 11).toInt ∧ (w.1 127 11).toInt ≤ 24 := h 127 11
theorem wbd_127_11 {w : MW} (h : BND w) {v : Int32} (h1 : 0 ≤ v.toInt) (h2 : v.toInt ≤ 24) : BND (sI w 127 11 v) := bnd_set h h1 h2
theorem bd_127_21 {w : MW} (h : BND w) : 0 ≤ (w.1 127 21).toInt ∧ (w.1 127 21).toInt ≤ 4020 := h 127 21
theorem wbd_127_21 {w : MW} (h : BND w) {v : Int32} (h1 : 0 ≤ v.toInt) (h2 : v.toInt ≤ 4020) : BND (sI w 127 21 v) := bnd_set h h1 h2
theorem bd_127_22 {w : MW} (h : BND w) : 0 ≤ (w.1 127 22).toInt ∧ (w.1 127 22).toInt ≤ 4000 := h 127 22
theorem wbd_127_22 {w : MW} (h : BND w) {v : Int32} (h1 : 0 ≤ v.toInt) (h2 : v.toInt ≤ 4000) : BND (sI w 127 22 v) := bnd_set h h1 h2
theorem bd_127_26 {w : MW} (h : BND w) : 0 ≤ (w.1 127 26).toInt ∧ (w.1 127 26).toInt ≤ 24 := h 127 26
theorem wbd_127_26 {w : MW} (h : BND w) {v : Int32} (h1 : 0 ≤ v.toInt) (h2 : v.toInt ≤ 24) : BND (sI w 127 26 v) := bnd_set h h1 h2
theorem bd_127_39 {w : MW} (h : BND w) : 0 ≤ (w.1 127 39).toInt ∧ (w.1 127 39).toInt ≤ 24 := h 127 39
theorem wbd_127_39 {w : MW} (h : BND w) {v : Int32} (h1 : 0 ≤ v.toInt) (h2 : v.toInt ≤ 24) : BND (sI w 127 39 v) := bnd_set h h1 h2
theorem wbd_127_45 {w : MW} (h : BND w) {v : Int32} : BND (sI w 127 45 v) := bnd_set h (ti_lo v) (ti_hi v)
theorem wbd_127_46 {w : MW} (h : BND w) {v : Int32} : BND (sI w 127 46 v) := bnd_set h (ti_lo v) (ti_hi v)
theorem wbd_127_47 {w : MW} (h : BND w) {v : Int32} : BND (sI w 127 47 v) := bnd_set h (ti_lo v) (ti_hi v)
theorem wbd_127_48 {w : MW} (h : BND w) {v : Int32} : BND (sI w 127 48 v) := bnd_set h (ti_lo v) (ti_hi v)
theorem bd_127_59 {w : MW} (h : BND w) : 0 ≤ (w.1 127 59).toInt ∧ (w.1 127 59).toInt ≤ 4 := h 127 59
theorem wbd_127_59 {w : MW} (h : BND w) {v : Int32} (h1 : 0 ≤ v.toInt) (h2 : v.toInt ≤ 4) : BND (sI w 127 59 v) := bnd_set h h1 h2
theorem bd_127_60 {w : MW} (h : BND w) : 0 ≤ (w.1 127 60).toInt ∧ (w.1 127 60).toInt ≤ 502 := h 127 60
theorem wbd_127_60 {w : MW} (h : BND w) {v : Int32} (h1 : 0 ≤ v.toInt) (h2 : v.toInt ≤ 502) : BND (sI w 127 60 v) := bnd_set h h1 h2
theorem bd_127_72 {w : MW} (h : BND w) : 0 ≤ (w.1 127 72).toInt ∧ (w.1 127 72).toInt ≤ 1000 := h 127 72
theorem wbd_127_72 {w : MW} (h : BND w) {v : Int32} (h1 : 0 ≤ v.toInt) (h2 : v.toInt ≤ 1000) : BND (sI w 127 72 v) := bnd_set h h1 h2
theorem bd_127_73 {w : MW} (h : BND w) : 0 ≤ (w.1 127 73).toInt ∧ (w.1 127 73).toInt ≤ 10 := h 127 73
theorem wbd_127_73 {w : MW} (h : BND w) {v : Int32} (h1 : 0 ≤ v.toInt) (h2 : v.toInt ≤ 10) : BND (sI w 127 73 v) := bnd_set h h1 h2
theorem wbd_127_74 {w : MW} (h : BND w) {v : Int32} : BND (sI w 127 74 v) := bnd_set h (ti_lo v) (ti_hi v)
theorem bd_127_75 {w : MW} (h : BND w) : 0 ≤ (w.1 127 75).toInt ∧ (w.1 127 75).toInt ≤ 1 := h 127 75
theorem wbd_127_75 {w : MW} (h : BND w) {v : Int32} (h1 : 0 ≤ v.toInt) (h2 : v.toInt ≤ 1) : BND (sI w 127 75 v) := bnd_set h h1 h2
theorem wbd_127_76 {w : MW} (h : BND w) {v : Int32} : BND (sI w 127 76 v) := bnd_set h (ti_lo v) (ti_hi v)
theorem wbd_127_77 {w : MW} (h : BND w) {v : Int32} : BND (sI w 127 77 v) := bnd_set h (ti_lo v) (ti_hi v)
theorem wbd_127_78 {w : MW} (h : BND w) {v : Int32} : BND (sI w 127 78 v) := bnd_set h (ti_lo v) (ti_hi v)
theorem bd_127_79 {w : MW} (h : BND w) : 0 ≤ (w.1 127 79).toInt ∧ (w.1 127 79).toInt ≤ 200 := h 127 79
theorem wbd_127_79 {w : MW} (h : BND w) {v : Int32} (h1 : 0 ≤ v.toInt) (h2 : v.toInt ≤ 200) : BND (sI w 127 79 v) := bnd_set h h1 h2
theorem wbd_127_83 {w : MW} (h : BND w) {v : Int32} : BND (sI w 127 83 v) := bnd_set h (ti_lo v) (ti_hi v)
theorem wbd_127_84 {w : MW} (h : BND w) {v : Int32} : BND (sI w 127 84 v) := bnd_set h (ti_lo v) (ti_hi v)
theorem bd_127_85 {w : MW} (h : BND w) : 0 ≤ (w.1 127 85).toInt ∧ (w.1 127 85).toInt ≤ 20 := h 127 85
theorem wbd_127_85 {w : MW} (h : BND w) {v : Int32} (h1 : 0 ≤ v.toInt) (h2 : v.toInt ≤ 20) : BND (sI w 127 85 v) := bnd_set h h1 h2
theorem bd_127_86 {w : MW} (h : BND w) : 0 ≤ (w.1 127 86).toInt ∧ (w.1 127 86).toInt ≤ 24 := h 127 86
theorem wbd_127_86 {w : MW} (h : BND w) {v : Int32} (h1 : 0 ≤ v.toInt) (h2 : v.toInt ≤ 24) : BND (sI w 127 86 v) := bnd_set h h1 h2
theorem bd_128 {w : MW} (h : BND w) (j : Nat) : -128 ≤ (w.1 128 j).toInt ∧ (w.1 128 j).toInt ≤ 127 := h 128 j
theorem wbd_128 {w : MW} (h : BND w) (j : Nat) {v : Int32} (h1 : -128 ≤ v.toInt) (h2 : v.toInt ≤ 127) : BND (sI w 128 j v) := bnd_set h h1 h2
theorem bd_129_1 {w : MW} (h : BND w) : 0 ≤ (w.1 129 1).toInt ∧ (w.1 129 1).toInt ≤ 4020 := h 129 1
theorem wbd_129_1 {w : MW} (h : BND w) {v : Int32} (h1 : 0 ≤ v.toInt) (h2 : v.toInt ≤ 4020) : BND (sI w 129 1 v) := bnd_set h h1 h2
theorem bd_129_2 {w : MW} (h : BND w) : 0 ≤ (w.1 129 2).toInt ∧ (w.1 129 2).toInt ≤ 4020 := h 129 2
theorem wbd_129_2 {w : MW} (h : BND w) {v : Int32} (h1 : 0 ≤ v.toInt) (h2 : v.toInt ≤ 4020) : BND (sI w 129 2 v) := bnd_set h h1 h2
theorem wbd_129_3 {w : MW} (h : BND w) {v : Int32} : BND (sI w 129 3 v) := bnd_set h (ti_lo v) (ti_hi v)
theorem bd_129_4 {w : MW} (h : BND w) : -128 ≤ (w.1 129 4).toInt ∧ (w.1 129 4).toInt ≤ 2000 := h 129 4
theorem wbd_129_4 {w : MW} (h : BND w) {v : Int32} (h1 : -128 ≤ v.toInt) (h2 : v.toInt ≤ 2000) : BND (sI w 129 4 v) := bnd_set h h1 h2
theorem bd_129_5 {w : MW} (h : BND w) : 0 ≤ (w.1 129 5).toInt ∧ (w.1 129 5).toInt ≤ 4020 := h 129 5
theorem wbd_129_5 {w : MW} (h : BND w) {v : Int32} (h1 : 0 ≤ v.toInt) (h2 : v.toInt ≤ 4020) : BND (sI w 129 5 v) := bnd_set h h1 h2
theorem bd_129_6 {w : MW} (h : BND w) : 0 ≤ (w.1 129 6).toInt ∧ (w.1 129 6).toInt ≤ 4020 := h 129 6
theorem wbd_129_6 {w : MW} (h : BND w) {v : Int32} (h1 : 0 ≤ v.toInt) (h2 : v.toInt ≤ 4020) : BND (sI w 129 6 v) := bnd_set h h1 h2
theorem wbd_129_7 {w : MW} (h : BND w) {v : Int32} : BND (sI w 129 7 v) := bnd_set h (ti_lo v) (ti_hi v)
theorem bd_129_9 {w : MW} (h : BND w) : 0 ≤ (w.1 129 9).toInt ∧ (w.1 129 9).toInt ≤ 1 := h 129 9
theorem wbd_129_9 {w : MW} (h : BND w) {v : Int32} (h1 : 0 ≤ v.toInt) (h2 : v.toInt ≤ 1) : BND (sI w 129 9 v) := bnd_set h h1 h2
theorem wbd_129_10 {w : MW} (h : BND w) {v : Int32} : BND (sI w 129 10 v) := bnd_set h (ti_lo v) (ti_hi v)
theorem bd_129_11 {w : MW} (h : BND w) : 0 ≤ (w.1 129 11).toInt ∧ (w.1 129 11).toInt ≤ 20 := h 129 11
theorem wbd_129_11 {w : MW} (h : BND w) {v : Int32} (h1 : 0 ≤ v.toInt) (h2 : v.toInt ≤ 20) : BND (sI w 129 11 v) := bnd_set h h1 h2
theorem bd_129_12 {w : MW} (h : BND w) : 0 ≤ (w.1 129 12).toInt ∧ (w.1 129 12).toInt ≤ 1 := h 129 12
theorem wbd_129_12 {w : MW} (h : BND w) {v : Int32} (h1 : 0 ≤ v.toInt) (h2 : v.toInt ≤ 1) : BND (sI w 129 12 v) := bnd_set h h1 h2
theorem bd_129_13 {w : MW} (h : BND w) : 0 ≤ (w.1 129 13).toInt ∧ (w.1 129 13).toInt ≤ 300 := h 129 13
theorem wbd_129_13 {w : MW} (h : BND w) {v : Int32} (h1 : 0 ≤ v.toInt) (h2 : v.toInt ≤ 300) : BND (sI w 129 13 v) := bnd_set h h1 h2
theorem bd_129_21 {w : MW} (h : BND w) : 0 ≤ (w.1 129 21).toInt ∧ (w.1 129 21).toInt ≤ 300 := h 129 21
theorem wbd_129_21 {w : MW} (h : BND w) {v : Int32} (h1 : 0 ≤ v.toInt) (h2 : v.toInt ≤ 300) : BND (sI w 129 21 v) := bnd_set h h1 h2
theorem bd_129_23 {w : MW} (h : BND w) : 0 ≤ (w.1 129 23).toInt ∧ (w.1 129 23).toInt ≤ 300 := h 129 23
theorem wbd_129_23 {w : MW} (h : BND w) {v : Int32} (h1 : 0 ≤ v.toInt) (h2 : v.toInt ≤ 300) : BND (sI w 129 23 v) := bnd_set h h1 h2
theorem bd_129_24 {w : MW} (h : BND w) : 0 ≤ (w.1 129 24).toInt ∧ (w.1 129 24).toInt ≤ 40 := h 129 24
theorem wbd_129_24 {w : MW} (h : BND w) {v : Int32} (h1 : 0 ≤ v.toInt) (h2 : v.toInt ≤ 40) : BND (sI w 129 24 v) := bnd_set h h1 h2
theorem bd_129_30 {w : MW} (h : BND w) : 0 ≤ (w.1 129 30).toInt ∧ (w.1 129 30).toInt ≤ 300 := h 129 30
theorem wbd_129_30 {w : MW} (h : BND w) {v : Int32} (h1 : 0 ≤ v.toInt) (h2 : v.toInt ≤ 300) : BND (sI w 129 30 v) := bnd_set h h1 h2
theorem bd_129_31 {w : MW} (h : BND w) : 0 ≤ (w.1 129 31).toInt ∧ (w.1 129 31).toInt ≤ 300 := h 129 31
theorem wbd_129_31 {w : MW} (h : BND w) {v : Int32} (h1 : 0 ≤ v.toInt) (h2 : v.toInt ≤ 300) : BND (sI w 129 31 v) := bnd_set h h1 h2
theorem bd_129_32 {w : MW} (h : BND w) : 0 ≤ (w.1 129 32).toInt ∧ (w.1 129 32).toInt ≤ 40 := h 129 32
theorem wbd_129_32 {w : MW} (h : BND w) {v : Int32} (h1 : 0 ≤ v.toInt) (h2 : v.toInt ≤ 40) : BND (sI w 129 32 v) := bnd_set h h1 h2
theorem wbd_129_33 {w : MW} (h : BND w) {v : Int32} : BND (sI w 129 33 v) := bnd_set h (ti_lo v) (ti_hi v)
theorem bd_129_35 {w : MW} (h : BND w) : 0 ≤ (w.1 129 35).toInt ∧ (w.1 129 35).toInt ≤ 300 := h 129 35
theorem wbd_129_35 {w : MW} (h : BND w) {v : Int32} (h1 : 0 ≤ v.toInt) (h2 : v.toInt ≤ 300) : BND (sI w 129 35 v) := bnd_set h h1 h2
theorem wbd_129_38 {w : MW} (h : BND w) {v : Int32} : BND (sI w 129 38 v) := bnd_set h (ti_lo v) (ti_hi v)
theorem bd_130 {w : MW} (h : BND w) (j : Nat) : -128 ≤ (w.1 130 j).toInt ∧ (w.1 130 j).toInt ≤ 127 := h 130 j
theorem wbd_130 {w : MW} (h : BND w) (j : Nat) {v : Int32} (h1 : -128 ≤ v.toInt) (h2 : v.toInt ≤ 127) : BND (sI w 130 j v) := bnd_set h h1 h2
theorem bd_131 {w : MW} (h : BND w) (j : Nat) : 0 ≤ (w.1 131 j).toInt ∧ (w.1 131 j).toInt ≤ 24 := h 131 j
theorem wbd_131 {w : MW} (h : BND w) (j : Nat) {v : Int32} (h1 : 0 ≤ v.toInt) (h2 : v.toInt ≤ 24) : BND (sI w 131 j v) := bnd_set h h1 h2
theorem wbd_133 {w : MW} (h : BND w) (j : Nat) {v : Int32} : BND (sI w 133 j v) := bnd_set h (ti_lo v) (ti_hi v)
theorem bd_134 {w : MW} (h : BND w) (j : Nat) : -1 ≤ (w.1 134 j).toInt ∧ (w.1 134 j).toInt ≤ 5 := h 134 j
theorem wbd_134 {w : MW} (h : BND w) (j : Nat) {v : Int32} (h1 : -1 ≤ v.toInt) (h2 : v.toInt ≤ 5) : BND (sI w 134 j v) := bnd_set h h1 h2
theorem bd_135 {w : MW} (h : BND w) (j : Nat) : 0 ≤ (w.1 135 j).toInt ∧ (w.1 135 j).toInt ≤ 300 := h 135 j
theorem wbd_135 {w : MW} (h : BND w) (j : Nat) {v : Int32} (h1 : 0 ≤ v.toInt) (h2 : v.toInt ≤ 300) : BND (sI w 135 j v) := bnd_set h h1 h2
theorem bd_136 {w : MW} (h : BND w) (j : Nat) : 0 ≤ (w.1 136 j).toInt ∧ (w.1 136 j).toInt ≤ 300 := h 136 j
theorem wbd_136 {w : MW} (h : BND w) (j : Nat) {v : Int32} (h1 : 0 ≤ v.toInt) (h2 : v.toInt ≤ 300) : BND (sI w 136 j v) := bnd_set h h1 h2
theorem bd_137 {w : MW} (h : BND w) (j : Nat) : 0 ≤ (w.1 137 j).toInt ∧ (w.1 137 j).toInt ≤ 299 := h 137 j
theorem wbd_137 {w : MW} (h : BND w) (j : Nat) {v : Int32} (h1 : 0 ≤ v.toInt) (h2 : v.toInt ≤ 299) : BND (sI w 137 j v) := bnd_set h h1 h2
theorem bd_138 {w : MW} (h : BND w) (j : Nat) : 0 ≤ (w.1 138 j).toInt ∧ (w.1 138 j).toInt ≤ 299 := h 138 j
theorem wbd_138 {w : MW} (h : BND w) (j : Nat) {v : Int32} (h1 : 0 ≤ v.toInt) (h2 : v.toInt ≤ 299) : BND (sI w 138 j v) := bnd_set h h1 h2
theorem bd_139 {w : MW} (h : BND w) (j : Nat) : -128 ≤ (w.1 139 j).toInt ∧ (w.1 139 j).toInt ≤ 127 := h 139 j
theorem wbd_139 {w : MW} (h : BND w) (j : Nat) {v : Int32} (h1 : -128 ≤ v.toInt) (h2 : v.toInt ≤ 127) : BND (sI w 139 j v) := bnd_set h h1 h2
theorem bd_140 {w : MW} (h : BND w) (j : Nat) : 0 ≤ (w.1 140 j).toInt ∧ (w.1 140 j).toInt ≤ 12 := h 140 j
theorem wbd_140 {w : MW} (h : BND w) (j : Nat) {v : Int32} (h1 : 0 ≤ v.toInt) (h2 : v.toInt ≤ 12) : BND (sI w 140 j v) := bnd_set h h1 h2
theorem wbd_141 {w : MW} (h : BND w) (j : Nat) {v : Int32} : BND (sI w 141 j v) := bnd_set h (ti_lo v) (ti_hi v)
theorem bd_142 {w : MW} (h : BND w) (j : Nat) : 0 ≤ (w.1 142 j).toInt ∧ (w.1 142 j).toInt ≤ 5 := h 142 j
theorem wbd_142 {w : MW} (h : BND w) (j : Nat) {v : Int32} (h1 : 0 ≤ v.toInt) (h2 : v.toInt ≤ 5) : BND (sI w 142 j v) := bnd_set h h1 h2
theorem bd_143 {w : MW} (h : BND w) (j : Nat) : -1 ≤ (w.1 143 j).toInt ∧ (w.1 143 j).toInt ≤ 299 := h 143 j
theorem wbd_143 {w : MW} (h : BND w) (j : Nat) {v : Int32} (h1 : -1 ≤ v.toInt) (h2 : v.toInt ≤ 299) : BND (sI w 143 j v) := bnd_set h h1 h2
theorem bd_144 {w : MW} (h : BND w) (j : Nat) : 0 ≤ (w.1 144 j).toInt ∧ (w.1 144 j).toInt ≤ 299 := h 144 j
theorem wbd_144 {w : MW} (h : BND w) (j : Nat) {v : Int32} (h1 : 0 ≤ v.toInt) (h2 : v.toInt ≤ 299) : BND (sI w 144 j v) := bnd_set h h1 h2
theorem bd_145 {w : MW} (h : BND w) (j : Nat) : 0 ≤ (w.1 145 j).toInt ∧ (w.1 145 j).toInt ≤ 501 := h 145 j
theorem wbd_145 {w : MW} (h : BND w) (j : Nat) {v : Int32} (h1 : 0 ≤ v.toInt) (h2 : v.toInt ≤ 501) : BND (sI w 145 j v) := bnd_set h h1 h2
theorem bd_146 {w : MW} (h : BND w) (j : Nat) : 0 ≤ (w.1 146 j).toInt ∧ (w.1 146 j).toInt ≤ 301 := h 146 j
theorem wbd_146 {w : MW} (h : BND w) (j : Nat) {v : Int32} (h1 : 0 ≤ v.toInt) (h2 : v.toInt ≤ 301) : BND (sI w 146 j v) := bnd_set h h1 h2
theorem bd_147_1 {w : MW} (h : BND w) : 0 ≤ (w.1 147 1).toInt ∧ (w.1 147 1).toInt ≤ 4020 := h 147 1
theorem wbd_147_1 {w : MW} (h : BND w) {v : Int32} (h1 : 0 ≤ v.toInt) (h2 : v.toInt ≤ 4020) : BND (sI w 147 1 v) := bnd_set h h1 h2
theorem bd_147_4 {w : MW} (h : BND w) : 0 ≤ (w.1 147 4).toInt ∧ (w.1 147 4).toInt ≤ 4020 := h 147 4
theorem wbd_147_4 {w : MW} (h : BND w) {v : Int32} (h1 : 0 ≤ v.toInt) (h2 : v.toInt ≤ 4020) : BND (sI w 147 4 v) := bnd_set h h1 h2
theorem bd_147_5 {w : MW} (h : BND w) : 0 ≤ (w.1 147 5).toInt ∧ (w.1 147 5).toInt ≤ 4021 := h 147 5
theorem wbd_147_5 {w : MW} (h : BND w) {v : Int32} (h1 : 0 ≤ v.toInt) (h2 : v.toInt ≤ 4021) : BND (sI w 147 5 v) := bnd_set h h1 h2
theorem bd_147_6 {w : MW} (h : BND w) : 0 ≤ (w.1 147 6).toInt ∧ (w.1 147 6).toInt ≤ 20 := h 147 6
theorem wbd_147_6 {w : MW} (h : BND w) {v : Int32} (h1 : 0 ≤ v.toInt) (h2 : v.toInt ≤ 20) : BND (sI w 147 6 v) := bnd_set h h1 h2
theorem bd_147_7 {w : MW} (h : BND w) : 0 ≤ (w.1 147 7).toInt ∧ (w.1 147 7).toInt ≤ 32 := h 147 7
theorem wbd_147_7 {w : MW} (h : BND w) {v : Int32} (h1 : 0 ≤ v.toInt) (h2 : v.toInt ≤ 32) : BND (sI w 147 7 v) := bnd_set h h1 h2
theorem bd_147_11 {w : MW} (h : BND w) : 0 ≤ (w.1 147 11).toInt ∧ (w.1 147 11).toInt ≤ 3000 := h 147 11
theorem wbd_147_11 {w : MW} (h : BND w) {v : Int32} (h1 : 0 ≤ v.toInt) (h2 : v.toInt ≤ 3000) : BND (sI w 147 11 v) := bnd_set h h1 h2
theorem bd_147_12 {w : MW} (h : BND w) : 0 ≤ (w.1 147 12).toInt ∧ (w.1 147 12).toInt ≤ 1 := h 147 12
theorem wbd_147_12 {w : MW} (h : BND w) {v : Int32} (h1 : 0 ≤ v.toInt) (h2 : v.toInt ≤ 1) : BND (sI w 147 12 v) := bnd_set h h1 h2
theorem bd_147_13 {w : MW} (h : BND w) : 0 ≤ (w.1 147 13).toInt ∧ (w.1 147 13).toInt ≤ 40 := h 147 13
theorem wbd_147_13 {w : MW} (h : BND w) {v : Int32} (h1 : 0 ≤ v.toInt) (h2 : v.toInt ≤ 40) : BND (sI w 147 13 v) := bnd_set h h1 h2
theorem bd_147_20 {w : MW} (h : BND w) : 0 ≤ (w.1 147 20).toInt ∧ (w.1 147 20).toInt ≤ 40 := h 147 20
theorem wbd_147_20 {w : MW} (h : BND w) {v : Int32} (h1 : 0 ≤ v.toInt) (h2 : v.toInt ≤ 40) : BND (sI w 147 20 v) := bnd_set h h1 h2
theorem wbd_147_24 {w : MW} (h : BND w) {v : Int32} : BND (sI w 147 24 v) := bnd_set h (ti_lo v) (ti_hi v)
theorem bd_148 {w : MW} (h : BND w) (j : Nat) : -128 ≤ (w.1 148 j).toInt ∧ (w.1 148 j).toInt ≤ 127 := h 148 j
theorem wbd_148 {w : MW} (h : BND w) (j : Nat) {v : Int32} (h1 : -128 ≤ v.toInt) (h2 : v.toInt ≤ 127) : BND (sI w 148 j v) := bnd_set h h1 h2
theorem bd_149 {w : MW} (h : BND w) (j : Nat) : 0 ≤ (w.1 149 j).toInt ∧ (w.1 149 j).toInt ≤ 4020 := h 149 j
theorem wbd_149 {w : MW} (h : BND w) (j : Nat) {v : Int32} (h1 : 0 ≤ v.toInt) (h2 : v.toInt ≤ 4020) : BND (sI w 149 j v) := bnd_set h h1 h2
theorem bd_150 {w : MW} (h : BND w) (j : Nat) : 0 ≤ (w.1 150 j).toInt ∧ (w.1 150 j).toInt ≤ 4020 := h 150 j
theorem wbd_150 {w : MW} (h : BND w) (j : Nat) {v : Int32} (h1 : 0 ≤ v.toInt) (h2 : v.toInt ≤ 4020) : BND (sI w 150 j v) := bnd_set h h1 h2
theorem bd_151 {w : MW} (h : BND w) (j : Nat) : 0 ≤ (w.1 151 j).toInt ∧ (w.1 151 j).toInt ≤ 18 := h 151 j
theorem wbd_151 {w : MW} (h : BND w) (j : Nat) {v : Int32} (h1 : 0 ≤ v.toInt) (h2 : v.toInt ≤ 18) : BND (sI w 151 j v) := bnd_set h h1 h2
theorem bd_152 {w : MW} (h : BND w) (j : Nat) : -1 ≤ (w.1 152 j).toInt ∧ (w.1 152 j).toInt ≤ 5999 := h 152 j
theorem wbd_152 {w : MW} (h : BND w) (j : Nat) {v : Int32} (h1 : -1 ≤ v.toInt) (h2 : v.toInt ≤ 5999) : BND (sI w 152 j v) := bnd_set h h1 h2
theorem bd_153 {w : MW} (h : BND w) (j : Nat) : -1 ≤ (w.1 153 j).toInt ∧ (w.1 153 j).toInt ≤ 5999 := h 153 j
theorem wbd_153 {w : MW} (h : BND w) (j : Nat) {v : Int32} (h1 : -1 ≤ v.toInt) (h2 : v.toInt ≤ 5999) : BND (sI w 153 j v) := bnd_set h h1 h2
theorem bd_154 {w : MW} (h : BND w) (j : Nat) : -1 ≤ (w.1 154 j).toInt ∧ (w.1 154 j).toInt ≤ 5999 := h 154 j
theorem wbd_154 {w : MW} (h : BND w) (j : Nat) {v : Int32} (h1 : -1 ≤ v.toInt) (h2 : v.toInt ≤ 5999) : BND (sI w 154 j v) := bnd_set h h1 h2
theorem bd_155 {w : MW} (h : BND w) (j : Nat) : 0 ≤ (w.1 155 j).toInt ∧ (w.1 155 j).toInt ≤ 8 := h 155 j
theorem wbd_155 {w : MW} (h : BND w) (j : Nat) {v : Int32} (h1 : 0 ≤ v.toInt) (h2 : v.toInt ≤ 8) : BND (sI w 155 j v) := bnd_set h h1 h2
theorem bd_156 {w : MW} (h : BND w) (j : Nat) : 0 ≤ (w.1 156 j).toInt ∧ (w.1 156 j).toInt ≤ 31 := h 156 j
theorem wbd_156 {w : MW} (h : BND w) (j : Nat) {v : Int32} (h1 : 0 ≤ v.toInt) (h2 : v.toInt ≤ 31) : BND (sI w 156 j v) := bnd_set h h1 h2
theorem bd_157 {w : MW} (h : BND w) (j : Nat) : 0 ≤ (w.1 157 j).toInt ∧ (w.1 157 j).toInt ≤ 3600 := h 157 j
theorem wbd_157 {w : MW} (h : BND w) (j : Nat) {v : Int32} (h1 : 0 ≤ v.toInt) (h2 : v.toInt ≤ 3600) : BND (sI w 157 j v) := bnd_set h h1 h2
theorem bd_158 {w : MW} (h : BND w) (j : Nat) : 0 ≤ (w.1 158 j).toInt ∧ (w.1 158 j).toInt ≤ 1 := h 158 j
theorem wbd_158 {w : MW} (h : BND w) (j : Nat) {v : Int32} (h1 : 0 ≤ v.toInt) (h2 : v.toInt ≤ 1) : BND (sI w 158 j v) := bnd_set h h1 h2
theorem wbd_159 {w : MW} (h : BND w) (j : Nat) {v : Int32} : BND (sI w 159 j v) := bnd_set h (ti_lo v) (ti_hi v)
theorem bd_160 {w : MW} (h : BND w) (j : Nat) : 0 ≤ (w.1 160 j).toInt ∧ (w.1 160 j).toInt ≤ 1000000 := h 160 j
theorem wbd_160 {w : MW} (h : BND w) (j : Nat) {v : Int32} (h1 : 0 ≤ v.toInt) (h2 : v.toInt ≤ 1000000) : BND (sI w 160 j v) := bnd_set h h1 h2
theorem bd_161 {w : MW} (h : BND w) (j : Nat) : 0 ≤ (w.1 161 j).toInt ∧ (w.1 161 j).toInt ≤ 1 := h 161 j
theorem wbd_161 {w : MW} (h : BND w) (j : Nat) {v : Int32} (h1 : 0 ≤ v.toInt) (h2 : v.toInt ≤ 1) : BND (sI w 161 j v) := bnd_set h h1 h2
theorem bd_162 {w : MW} (h : BND w) (j : Nat) : 0 ≤ (w.1 162 j).toInt ∧ (w.1 162 j).toInt ≤ 3600 := h 162 j
theorem wbd_162 {w : MW} (h : BND w) (j : Nat) {v : Int32} (h1 : 0 ≤ v.toInt) (h2 : v.toInt ≤ 3600) : BND (sI w 162 j v) := bnd_set h h1 h2
theorem bd_163 {w : MW} (h : BND w) (j : Nat) : 0 ≤ (w.1 163 j).toInt ∧ (w.1 163 j).toInt ≤ 9 := h 163 j
theorem wbd_163 {w : MW} (h : BND w) (j : Nat) {v : Int32} (h1 : 0 ≤ v.toInt) (h2 : v.toInt ≤ 9) : BND (sI w 163 j v) := bnd_set h h1 h2
theorem bd_164 {w : MW} (h : BND w) (j : Nat) : 0 ≤ (w.1 164 j).toInt ∧ (w.1 164 j).toInt ≤ 100000 := h 164 j
theorem wbd_164 {w : MW} (h : BND w) (j : Nat) {v : Int32} (h1 : 0 ≤ v.toInt) (h2 : v.toInt ≤ 100000) : BND (sI w 164 j v) := bnd_set h h1 h2
theorem wbd_165 {w : MW} (h : BND w) (j : Nat) {v : Int32} : BND (sI w 165 j v) := bnd_set h (ti_lo v) (ti_hi v)
theorem bd_166 {w : MW} (h : BND w) (j : Nat) : 0 ≤ (w.1 166 j).toInt ∧ (w.1 166 j).toInt ≤ 15 := h 166 j
theorem wbd_166 {w : MW} (h : BND w) (j : Nat) {v : Int32} (h1 : 0 ≤ v.toInt) (h2 : v.toInt ≤ 15) : BND (sI w 166 j v) := bnd_set h h1 h2
theorem bd_167 {w : MW} (h : BND w) (j : Nat) : 0 ≤ (w.1 167 j).toInt ∧ (w.1 167 j).toInt ≤ 9 := h 167 j
theorem wbd_167 {w : MW} (h : BND w) (j : Nat) {v : Int32} (h1 : 0 ≤ v.toInt) (h2 : v.toInt ≤ 9) : BND (sI w 167 j v) := bnd_set h h1 h2
theorem wbd_168 {w : MW} (h : BND w) (j : Nat) {v : Int32} : BND (sI w 168 j v) := bnd_set h (ti_lo v) (ti_hi v)
theorem bd_169 {w : MW} (h : BND w) (j : Nat) : 0 ≤ (w.1 169 j).toInt ∧ (w.1 169 j).toInt ≤ 200 := h 169 j
theorem wbd_169 {w : MW} (h : BND w) (j : Nat) {v : Int32} (h1 : 0 ≤ v.toInt) (h2 : v.toInt ≤ 200) : BND (sI w 169 j v) := bnd_set h h1 h2
theorem bd_170 {w : MW} (h : BND w) (j : Nat) : -1 ≤ (w.1 170 j).toInt ∧ (w.1 170 j).toInt ≤ 19 := h 170 j
theorem wbd_170 {w : MW} (h : BND w) (j : Nat) {v : Int32} (h1 : -1 ≤ v.toInt) (h2 : v.toInt ≤ 19) : BND (sI w 170 j v) := bnd_set h h1 h2
theorem wbd_171 {w : MW} (h : BND w) (j : Nat) {v : Int32} : BND (sI w 171 j v) := bnd_set h (ti_lo v) (ti_hi v)
theorem bd_172 {w : MW} (h : BND w) (j : Nat) : 0 ≤ (w.1 172 j).toInt ∧ (w.1 172 j).toInt ≤ 15 := h 172 j
theorem wbd_172 {w : MW} (h : BND w) (j : Nat) {v : Int32} (h1 : 0 ≤ v.toInt) (h2 : v.toInt ≤ 15) : BND (sI w 172 j v) := bnd_set h h1 h2
theorem bd_173 {w : MW} (h : BND w) (j : Nat) : 0 ≤ (w.1 173 j).toInt ∧ (w.1 173 j).toInt ≤ 15 := h 173 j
theorem wbd_173 {w : MW} (h : BND w) (j : Nat) {v : Int32} (h1 : 0 ≤ v.toInt) (h2 : v.toInt ≤ 15) : BND (sI w 173 j v) := bnd_set h h1 h2
theorem wbd_174 {w : MW} (h : BND w) (j : Nat) {v : Int32} : BND (sI w 174 j v) := bnd_set h (ti_lo v) (ti_hi v)
theorem bd_175 {w : MW} (h : BND w) (j : Nat) : 0 ≤ (w.1 175 j).toInt ∧ (w.1 175 j).toInt ≤ 1 := h 175 j
theorem wbd_175 {w : MW} (h : BND w) (j : Nat) {v : Int32} (h1 : 0 ≤ v.toInt) (h2 : v.toInt ≤ 1) : BND (sI w 175 j v) := bnd_set h h1 h2
theorem bd_176 {w : MW} (h : BND w) (j : Nat) : 0 ≤ (w.1 176 j).toInt ∧ (w.1 176 j).toInt ≤ 5 := h 176 j
theorem wbd_176 {w : MW} (h : BND w) (j : Nat) {v : Int32} (h1 : 0 ≤ v.toInt) (h2 : v.toInt ≤ 5) : BND (sI w 176 j v) := bnd_set h h1 h2
theorem bd_177 {w : MW} (h : BND w) (j : Nat) : 0 ≤ (w.1 177 j).toInt ∧ (w.1 177 j).toInt ≤ 1000000 := h 177 j
theorem wbd_177 {w : MW} (h : BND w) (j : Nat) {v : Int32} (h1 : 0 ≤ v.toInt) (h2 : v.toInt ≤ 1000000) : BND (sI w 177 j v) := bnd_set h h1 h2
theorem bd_178 {w : MW} (h : BND w) (j : Nat) : -2 ≤ (w.1 178 j).toInt ∧ (w.1 178 j).toInt ≤ 9999999 := h 178 j
theorem wbd_178 {w : MW} (h : BND w) (j : Nat) {v : Int32} (h1 : -2 ≤ v.toInt) (h2 : v.toInt ≤ 9999999) : BND (sI w 178 j v) := bnd_set h h1 h2
theorem bd_179 {w : MW} (h : BND w) (j : Nat) : 0 ≤ (w.1 179 j).toInt ∧ (w.1 179 j).toInt ≤ 9 := h 179 j
theorem wbd_179 {w : MW} (h : BND w) (j : Nat) {v : Int32} (h1 : 0 ≤ v.toInt) (h2 : v.toInt ≤ 9) : BND (sI w 179 j v) := bnd_set h h1 h2
theorem wbd_180 {w : MW} (h : BND w) (j : Nat) {v : Int32} : BND (sI w 180 j v) := bnd_set h (ti_lo v) (ti_hi v)
theorem bd_181 {w : MW} (h : BND w) (j : Nat) : 0 ≤ (w.1 181 j).toInt ∧ (w.1 181 j).toInt ≤ 19 := h 181 j
theorem wbd_181 {w : MW} (h : BND w) (j : Nat) {v : Int32} (h1 : 0 ≤ v.toInt) (h2 : v.toInt ≤ 19) : BND (sI w 181 j v) := bnd_set h h1 h2
theorem bd_182 {w : MW} (h : BND w) (j : Nat) : 0 ≤ (w.1 182 j).toInt ∧ (w.1 182 j).toInt ≤ 19 := h 182 j
theorem wbd_182 {w : MW} (h : BND w) (j : Nat) {v : Int32} (h1 : 0 ≤ v.toInt) (h2 : v.toInt ≤ 19) : BND (sI w 182 j v) := bnd_set h h1 h2
theorem bd_183 {w : MW} (h : BND w) (j : Nat) : 0 ≤ (w.1 183 j).toInt ∧ (w.1 183 j).toInt ≤ 15 := h 183 j
theorem wbd_183 {w : MW} (h : BND w) (j : Nat) {v : Int32} (h1 : 0 ≤ v.toInt) (h2 : v.toInt ≤ 15) : BND (sI w 183 j v) := bnd_set h h1 h2
theorem bd_184 {w : MW} (h : BND w) (j : Nat) : 0 ≤ (w.1 184 j).toInt ∧ (w.1 184 j).toInt ≤ 100 := h 184 j
theorem wbd_184 {w : MW} (h : BND w) (j : Nat) {v : Int32} (h1 : 0 ≤ v.toInt) (h2 : v.toInt ≤ 100) : BND (sI w 184 j v) := bnd_set h h1 h2
theorem bd_185 {w : MW} (h : BND w) (j : Nat) : 0 ≤ (w.1 185 j).toInt ∧ (w.1 185 j).toInt ≤ 24 := h 185 j
theorem wbd_185 {w : MW} (h : BND w) (j : Nat) {v : Int32} (h1 : 0 ≤ v.toInt) (h2 : v.toInt ≤ 24) : BND (sI w 185 j v) := bnd_set h h1 h2
theorem bd_186 {w : MW} (h : BND w) (j : Nat) : 0 ≤ (w.1 186 j).toInt ∧ (w.1 186 j).toInt ≤ 47 := h 186 j
theorem wbd_186 {w : MW} (h : BND w) (j : Nat) {v : Int32} (h1 : 0 ≤ v.toInt) (h2 : v.toInt ≤ 47) : BND (sI w 186 j v) := bnd_set h h1 h2
theorem bd_187 {w : MW} (h : BND w) (j : Nat) : -1 ≤ (w.1 187 j).toInt ∧ (w.1 187 j).toInt ≤ 9 := h 187 j
theorem wbd_187 {w : MW} (h : BND w) (j : Nat) {v : Int32} (h1 : -1 ≤ v.toInt) (h2 : v.toInt ≤ 9) : BND (sI w 187 j v) := bnd_set h h1 h2
theorem wbd_188 {w : MW} (h : BND w) (j : Nat) {v : Int32} : BND (sI w 188 j v) := bnd_set h (ti_lo v) (ti_hi v)
theorem wbd_189 {w : MW} (h : BND w) (j : Nat) {v : Int32} : BND (sI w 189 j v) := bnd_set h (ti_lo v) (ti_hi v)
theorem bd_190 {w : MW} (h : BND w) (j : Nat) : 0 ≤ (w.1 190 j).toInt ∧ (w.1 190 j).toInt ≤ 9 := h 190 j
theorem wbd_190 {w : MW} (h : BND w) (j : Nat) {v : Int32} (h1 : 0 ≤ v.toInt) (h2 : v.toInt ≤ 9) : BND (sI w 190 j v) := bnd_set h h1 h2
theorem bd_191 {w : MW} (h : BND w) (j : Nat) : 0 ≤ (w.1 191 j).toInt ∧ (w.1 191 j).toInt ≤ 47 := h 191 j
theorem wbd_191 {w : MW} (h : BND w) (j : Nat) {v : Int32} (h1 : 0 ≤ v.toInt) (h2 : v.toInt ≤ 47) : BND (sI w 191 j v) := bnd_set h h1 h2
theorem bd_192 {w : MW} (h : BND w) (j : Nat) : -1 ≤ (w.1 192 j).toInt ∧ (w.1 192 j).toInt ≤ 9 := h 192 j
theorem wbd_192 {w : MW} (h : BND w) (j : Nat) {v : Int32} (h1 : -1 ≤ v.toInt) (h2 : v.toInt ≤ 9) : BND (sI w 192 j v) := bnd_set h h1 h2
theorem bd_193 {w : MW} (h : BND w) (j : Nat) : 0 ≤ (w.1 193 j).toInt ∧ (w.1 193 j).toInt ≤ 15 := h 193 j
theorem wbd_193 {w : MW} (h : BND w) (j : Nat) {v : Int32} (h1 : 0 ≤ v.toInt) (h2 : v.toInt ≤ 15) : BND (sI w 193 j v) := bnd_set h h1 h2
theorem bd_194 {w : MW} (h : BND w) (j : Nat) : 0 ≤ (w.1 194 j).toInt ∧ (w.1 194 j).toInt ≤ 15 := h 194 j
theorem wbd_194 {w : MW} (h : BND w) (j : Nat) {v : Int32} (h1 : 0 ≤ v.toInt) (h2 : v.toInt ≤ 15) : BND (sI w 194 j v) := bnd_set h h1 h2
theorem bd_197 {w : MW} (h : BND w) (j : Nat) : -1 ≤ (w.1 197 j).toInt ∧ (w.1 197 j).toInt ≤ 4 := h 197 j
theorem wbd_197 {w : MW} (h : BND w) (j : Nat) {v : Int32} (h1 : -1 ≤ v.toInt) (h2 : v.toInt ≤ 4) : BND (sI w 197 j v) := bnd_set h h1 h2
theorem wbd_198 {w : MW} (h : BND w) (j : Nat) {v : Int32} : BND (sI w 198 j v) := bnd_set h (ti_lo v) (ti_hi v)
theorem wbd_199 {w : MW} (h : BND w) (j : Nat) {v : Int32} : BND (sI w 199 j v) := bnd_set h (ti_lo v) (ti_hi v)
theorem wbd_200 {w : MW} (h : BND w) (j : Nat) {v : Int32} : BND (sI w 200 j v) := bnd_set h (ti_lo v) (ti_hi v)
theorem bd_201 {w : MW} (h : BND w) (j : Nat) : -1 ≤ (w.1 201 j).toInt ∧ (w.1 201 j).toInt ≤ 5 := h 201 j
theorem wbd_201 {w : MW} (h : BND w) (j : Nat) {v : Int32} (h1 : -1 ≤ v.toInt) (h2 : v.toInt ≤ 5) : BND (sI w 201 j v) := bnd_set h h1 h2
theorem wbd_202 {w : MW} (h : BND w) (j : Nat) {v : Int32} : BND (sI w 202 j v) := bnd_set h (ti_lo v) (ti_hi v)
theorem bd_203 {w : MW} (h : BND w) (j : Nat) : -1 ≤ (w.1 203 j).toInt ∧ (w.1 203 j).toInt ≤ 5 := h 203 j
theorem wbd_203 {w : MW} (h : BND w) (j : Nat) {v : Int32} (h1 : -1 ≤ v.toInt) (h2 : v.toInt ≤ 5) : BND (sI w 203 j v) := bnd_set h h1 h2
theorem wbd_204 {w : MW} (h : BND w) (j : Nat) {v : Int32} : BND (sI w 204 j v) := bnd_set h (ti_lo v) (ti_hi v)
theorem bd_207 {w : MW} (h : BND w) (j : Nat) : -1 ≤ (w.1 207 j).toInt ∧ (w.1 207 j).toInt ≤ 299 := h 207 j
theorem wbd_207 {w : MW} (h : BND w) (j : Nat) {v : Int32} (h1 : -1 ≤ v.toInt) (h2 : v.toInt ≤ 299) : BND (sI w 207 j v) := bnd_set h h1 h2
theorem bd_208 {w : MW} (h : BND w) (j : Nat) : -1 ≤ (w.1 208 j).toInt ∧ (w.1 208 j).toInt ≤ 501 := h 208 j
theorem wbd_208 {w : MW} (h : BND w) (j : Nat) {v : Int32} (h1 : -1 ≤ v.toInt) (h2 : v.toInt ≤ 501) : BND (sI w 208 j v) := bnd_set h h1 h2
theorem bd_209 {w : MW} (h : BND w) (j : Nat) : -1 ≤ (w.1 209 j).toInt ∧ (w.1 209 j).toInt ≤ 501 := h 209 j
theorem wbd_209 {w : MW} (h : BND w) (j : Nat) {v : Int32} (h1 : -1 ≤ v.toInt) (h2 : v.toInt ≤ 501) : BND (sI w 209 j v) := bnd_set h h1 h2
theorem bd_210 {w : MW} (h : BND w) (j : Nat) : 0 ≤ (w.1 210 j).toInt ∧ (w.1 210 j).toInt ≤ 1 := h 210 j
theorem wbd_210 {w : MW} (h : BND w) (j : Nat) {v : Int32} (h1 : 0 ≤ v.toInt) (h2 : v.toInt ≤ 1) : BND (sI w 210 j v) := bnd_set h h1 h2
theorem bd_211 {w : MW} (h : BND w) (j : Nat) : 0 ≤ (w.1 211 j).toInt ∧ (w.1 211 j).toInt ≤ 1 := h 211 j
theorem wbd_211 {w : MW} (h : BND w) (j : Nat) {v : Int32} (h1 : 0 ≤ v.toInt) (h2 : v.toInt ≤ 1) : BND (sI w 211 j v) := bnd_set h h1 h2
theorem bd_212 {w : MW} (h : BND w) (j : Nat) : 0 ≤ (w.1 212 j).toInt ∧ (w.1 212 j).toInt ≤ 1 := h 212 j
theorem wbd_212 {w : MW} (h : BND w) (j : Nat) {v : Int32} (h1 : 0 ≤ v.toInt) (h2 : v.toInt ≤ 1) : BND (sI w 212 j v) := bnd_set h h1 h2
theorem bd_213 {w : MW} (h : BND w) (j : Nat) : -1 ≤ (w.1 213 j).toInt ∧ (w.1 213 j).toInt ≤ 501 := h 213 j
theorem wbd_213 {w : MW} (h : BND w) (j : Nat) {v : Int32} (h1 : -1 ≤ v.toInt) (h2 : v.toInt ≤ 501) : BND (sI w 213 j v) := bnd_set h h1 h2
theorem wbd_214 {w : MW} (h : BND w) (j : Nat) {v : Int32} : BND (sI w 214 j v) := bnd_set h (ti_lo v) (ti_hi v)
theorem wbd_218 {w : MW} (h : BND w) (j : Nat) {v : Int32} : BND (sI w 218 j v) := bnd_set h (ti_lo v) (ti_hi v)
theorem wbd_219 {w : MW} (h : BND w) (j : Nat) {v : Int32} : BND (sI w 219 j v) := bnd_set h (ti_lo v) (ti_hi v)
theorem wbd_220 {w : MW} (h : BND w) (j : Nat) {v : Int32} : BND (sI w 220 j v) := bnd_set h (ti_lo v) (ti_hi v)
