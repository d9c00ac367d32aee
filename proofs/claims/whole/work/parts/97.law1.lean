/-! the law's code -/
abbrev t_Lw_law_1215 : List UInt8 := 172 :: []
abbrev t_Lw_law_1214 : List UInt8 := 4 :: t_Lw_law_1215
abbrev t_Lw_law_1211 : List UInt8 := 167 :: 251 :: 87 :: t_Lw_law_1214
abbrev t_Lw_law_1208 : List UInt8 := 132 :: 3 :: 6 :: t_Lw_law_1211
abbrev t_Lw_law_1207 : List UInt8 := 172 :: t_Lw_law_1208
abbrev t_Lw_law_1206 : List UInt8 := 3 :: t_Lw_law_1207
abbrev t_Lw_law_1203 : List UInt8 := 159 :: 0 :: 5 :: t_Lw_law_1206
abbrev t_Lw_law_1200 : List UInt8 := 182 :: 0 :: 146 :: t_Lw_law_1203
abbrev t_Lw_law_1199 : List UInt8 := 44 :: t_Lw_law_1200
abbrev t_Lw_law_1196 : List UInt8 := 182 :: 0 :: 143 :: t_Lw_law_1199
abbrev t_Lw_law_1195 : List UInt8 := 43 :: t_Lw_law_1196
abbrev t_Lw_law_1194 : List UInt8 := 172 :: t_Lw_law_1195
abbrev t_Lw_law_1193 : List UInt8 := 3 :: t_Lw_law_1194
abbrev t_Lw_law_1190 : List UInt8 := 159 :: 0 :: 18 :: t_Lw_law_1193
abbrev t_Lw_law_1187 : List UInt8 := 182 :: 0 :: 142 :: t_Lw_law_1190
abbrev t_Lw_law_1186 : List UInt8 := 46 :: t_Lw_law_1187
abbrev t_Lw_law_1185 : List UInt8 := 96 :: t_Lw_law_1186
abbrev t_Lw_law_1184 : List UInt8 := 4 :: t_Lw_law_1185
abbrev t_Lw_law_1183 : List UInt8 := 29 :: t_Lw_law_1184
abbrev t_Lw_law_1182 : List UInt8 := 42 :: t_Lw_law_1183
abbrev t_Lw_law_1181 : List UInt8 := 44 :: t_Lw_law_1182
abbrev t_Lw_law_1178 : List UInt8 := 182 :: 0 :: 139 :: t_Lw_law_1181
abbrev t_Lw_law_1177 : List UInt8 := 46 :: t_Lw_law_1178
abbrev t_Lw_law_1176 : List UInt8 := 96 :: t_Lw_law_1177
abbrev t_Lw_law_1175 : List UInt8 := 4 :: t_Lw_law_1176
abbrev t_Lw_law_1174 : List UInt8 := 29 :: t_Lw_law_1175
abbrev t_Lw_law_1173 : List UInt8 := 42 :: t_Lw_law_1174
abbrev t_Lw_law_1172 : List UInt8 := 43 :: t_Lw_law_1173
abbrev t_Lw_law_1171 : List UInt8 := 172 :: t_Lw_law_1172
abbrev t_Lw_law_1170 : List UInt8 := 3 :: t_Lw_law_1171
abbrev t_Lw_law_1167 : List UInt8 := 159 :: 0 :: 41 :: t_Lw_law_1170
abbrev t_Lw_law_1164 : List UInt8 := 182 :: 0 :: 138 :: t_Lw_law_1167
abbrev t_Lw_law_1163 : List UInt8 := 46 :: t_Lw_law_1164
abbrev t_Lw_law_1162 : List UInt8 := 96 :: t_Lw_law_1163
abbrev t_Lw_law_1161 : List UInt8 := 4 :: t_Lw_law_1162
abbrev t_Lw_law_1160 : List UInt8 := 29 :: t_Lw_law_1161
abbrev t_Lw_law_1159 : List UInt8 := 42 :: t_Lw_law_1160
abbrev t_Lw_law_1158 : List UInt8 := 44 :: t_Lw_law_1159
abbrev t_Lw_law_1155 : List UInt8 := 182 :: 0 :: 135 :: t_Lw_law_1158
abbrev t_Lw_law_1154 : List UInt8 := 46 :: t_Lw_law_1155
abbrev t_Lw_law_1153 : List UInt8 := 96 :: t_Lw_law_1154
abbrev t_Lw_law_1152 : List UInt8 := 4 :: t_Lw_law_1153
abbrev t_Lw_law_1151 : List UInt8 := 29 :: t_Lw_law_1152
abbrev t_Lw_law_1150 : List UInt8 := 42 :: t_Lw_law_1151
abbrev t_Lw_law_1149 : List UInt8 := 43 :: t_Lw_law_1150
abbrev t_Lw_law_1148 : List UInt8 := 172 :: t_Lw_law_1149
abbrev t_Lw_law_1147 : List UInt8 := 3 :: t_Lw_law_1148
abbrev t_Lw_law_1144 : List UInt8 := 159 :: 0 :: 64 :: t_Lw_law_1147
abbrev t_Lw_law_1141 : List UInt8 := 182 :: 0 :: 134 :: t_Lw_law_1144
abbrev t_Lw_law_1140 : List UInt8 := 46 :: t_Lw_law_1141
abbrev t_Lw_law_1139 : List UInt8 := 96 :: t_Lw_law_1140
abbrev t_Lw_law_1138 : List UInt8 := 5 :: t_Lw_law_1139
abbrev t_Lw_law_1137 : List UInt8 := 29 :: t_Lw_law_1138
abbrev t_Lw_law_1136 : List UInt8 := 42 :: t_Lw_law_1137
abbrev t_Lw_law_1135 : List UInt8 := 46 :: t_Lw_law_1136
abbrev t_Lw_law_1134 : List UInt8 := 96 :: t_Lw_law_1135
abbrev t_Lw_law_1133 : List UInt8 := 4 :: t_Lw_law_1134
abbrev t_Lw_law_1132 : List UInt8 := 29 :: t_Lw_law_1133
abbrev t_Lw_law_1131 : List UInt8 := 42 :: t_Lw_law_1132
abbrev t_Lw_law_1130 : List UInt8 := 44 :: t_Lw_law_1131
abbrev t_Lw_law_1127 : List UInt8 := 182 :: 0 :: 131 :: t_Lw_law_1130
abbrev t_Lw_law_1126 : List UInt8 := 46 :: t_Lw_law_1127
abbrev t_Lw_law_1125 : List UInt8 := 96 :: t_Lw_law_1126
abbrev t_Lw_law_1124 : List UInt8 := 5 :: t_Lw_law_1125
abbrev t_Lw_law_1123 : List UInt8 := 29 :: t_Lw_law_1124
abbrev t_Lw_law_1122 : List UInt8 := 42 :: t_Lw_law_1123
abbrev t_Lw_law_1121 : List UInt8 := 46 :: t_Lw_law_1122
abbrev t_Lw_law_1120 : List UInt8 := 96 :: t_Lw_law_1121
abbrev t_Lw_law_1119 : List UInt8 := 4 :: t_Lw_law_1120
abbrev t_Lw_law_1118 : List UInt8 := 29 :: t_Lw_law_1119
abbrev t_Lw_law_1117 : List UInt8 := 42 :: t_Lw_law_1118
abbrev t_Lw_law_1116 : List UInt8 := 43 :: t_Lw_law_1117
abbrev t_Lw_law_1115 : List UInt8 := 172 :: t_Lw_law_1116
abbrev t_Lw_law_1114 : List UInt8 := 3 :: t_Lw_law_1115
abbrev t_Lw_law_1111 : List UInt8 := 159 :: 0 :: 97 :: t_Lw_law_1114
abbrev t_Lw_law_1108 : List UInt8 := 182 :: 0 :: 130 :: t_Lw_law_1111
abbrev t_Lw_law_1107 : List UInt8 := 46 :: t_Lw_law_1108
abbrev t_Lw_law_1106 : List UInt8 := 96 :: t_Lw_law_1107
abbrev t_Lw_law_1105 : List UInt8 := 5 :: t_Lw_law_1106
abbrev t_Lw_law_1104 : List UInt8 := 29 :: t_Lw_law_1105
abbrev t_Lw_law_1103 : List UInt8 := 42 :: t_Lw_law_1104
abbrev t_Lw_law_1102 : List UInt8 := 46 :: t_Lw_law_1103
abbrev t_Lw_law_1101 : List UInt8 := 96 :: t_Lw_law_1102
abbrev t_Lw_law_1100 : List UInt8 := 4 :: t_Lw_law_1101
abbrev t_Lw_law_1099 : List UInt8 := 29 :: t_Lw_law_1100
abbrev t_Lw_law_1098 : List UInt8 := 42 :: t_Lw_law_1099
abbrev t_Lw_law_1097 : List UInt8 := 44 :: t_Lw_law_1098
abbrev t_Lw_law_1094 : List UInt8 := 182 :: 0 :: 127 :: t_Lw_law_1097
abbrev t_Lw_law_1093 : List UInt8 := 46 :: t_Lw_law_1094
abbrev t_Lw_law_1092 : List UInt8 := 96 :: t_Lw_law_1093
abbrev t_Lw_law_1091 : List UInt8 := 5 :: t_Lw_law_1092
abbrev t_Lw_law_1090 : List UInt8 := 29 :: t_Lw_law_1091
abbrev t_Lw_law_1089 : List UInt8 := 42 :: t_Lw_law_1090
abbrev t_Lw_law_1088 : List UInt8 := 46 :: t_Lw_law_1089
abbrev t_Lw_law_1087 : List UInt8 := 96 :: t_Lw_law_1088
abbrev t_Lw_law_1086 : List UInt8 := 4 :: t_Lw_law_1087
abbrev t_Lw_law_1085 : List UInt8 := 29 :: t_Lw_law_1086
abbrev t_Lw_law_1084 : List UInt8 := 42 :: t_Lw_law_1085
abbrev t_Lw_law_1083 : List UInt8 := 43 :: t_Lw_law_1084
abbrev t_Lw_law_1082 : List UInt8 := 172 :: t_Lw_law_1083
abbrev t_Lw_law_1081 : List UInt8 := 3 :: t_Lw_law_1082
abbrev t_Lw_law_1078 : List UInt8 := 159 :: 0 :: 130 :: t_Lw_law_1081
abbrev t_Lw_law_1075 : List UInt8 := 182 :: 0 :: 126 :: t_Lw_law_1078
abbrev t_Lw_law_1074 : List UInt8 := 46 :: t_Lw_law_1075
abbrev t_Lw_law_1073 : List UInt8 := 96 :: t_Lw_law_1074
abbrev t_Lw_law_1072 : List UInt8 := 5 :: t_Lw_law_1073
abbrev t_Lw_law_1071 : List UInt8 := 29 :: t_Lw_law_1072
abbrev t_Lw_law_1070 : List UInt8 := 42 :: t_Lw_law_1071
abbrev t_Lw_law_1069 : List UInt8 := 46 :: t_Lw_law_1070
abbrev t_Lw_law_1068 : List UInt8 := 96 :: t_Lw_law_1069
abbrev t_Lw_law_1067 : List UInt8 := 4 :: t_Lw_law_1068
abbrev t_Lw_law_1066 : List UInt8 := 29 :: t_Lw_law_1067
abbrev t_Lw_law_1065 : List UInt8 := 42 :: t_Lw_law_1066
abbrev t_Lw_law_1064 : List UInt8 := 44 :: t_Lw_law_1065
abbrev t_Lw_law_1061 : List UInt8 := 182 :: 0 :: 123 :: t_Lw_law_1064
abbrev t_Lw_law_1060 : List UInt8 := 46 :: t_Lw_law_1061
abbrev t_Lw_law_1059 : List UInt8 := 96 :: t_Lw_law_1060
abbrev t_Lw_law_1058 : List UInt8 := 5 :: t_Lw_law_1059
abbrev t_Lw_law_1057 : List UInt8 := 29 :: t_Lw_law_1058
abbrev t_Lw_law_1056 : List UInt8 := 42 :: t_Lw_law_1057
abbrev t_Lw_law_1055 : List UInt8 := 46 :: t_Lw_law_1056
abbrev t_Lw_law_1054 : List UInt8 := 96 :: t_Lw_law_1055
abbrev t_Lw_law_1053 : List UInt8 := 4 :: t_Lw_law_1054
abbrev t_Lw_law_1052 : List UInt8 := 29 :: t_Lw_law_1053
abbrev t_Lw_law_1051 : List UInt8 := 42 :: t_Lw_law_1052
abbrev t_Lw_law_1050 : List UInt8 := 43 :: t_Lw_law_1051
abbrev t_Lw_law_1049 : List UInt8 := 172 :: t_Lw_law_1050
abbrev t_Lw_law_1048 : List UInt8 := 3 :: t_Lw_law_1049
abbrev t_Lw_law_1045 : List UInt8 := 159 :: 0 :: 163 :: t_Lw_law_1048
abbrev t_Lw_law_1042 : List UInt8 := 182 :: 0 :: 122 :: t_Lw_law_1045
abbrev t_Lw_law_1041 : List UInt8 := 46 :: t_Lw_law_1042
abbrev t_Lw_law_1040 : List UInt8 := 96 :: t_Lw_law_1041
abbrev t_Lw_law_1039 : List UInt8 := 4 :: t_Lw_law_1040
abbrev t_Lw_law_1038 : List UInt8 := 29 :: t_Lw_law_1039
abbrev t_Lw_law_1037 : List UInt8 := 42 :: t_Lw_law_1038
abbrev t_Lw_law_1036 : List UInt8 := 44 :: t_Lw_law_1037
abbrev t_Lw_law_1033 : List UInt8 := 182 :: 0 :: 119 :: t_Lw_law_1036
abbrev t_Lw_law_1032 : List UInt8 := 46 :: t_Lw_law_1033
abbrev t_Lw_law_1031 : List UInt8 := 96 :: t_Lw_law_1032
abbrev t_Lw_law_1030 : List UInt8 := 4 :: t_Lw_law_1031
abbrev t_Lw_law_1029 : List UInt8 := 29 :: t_Lw_law_1030
abbrev t_Lw_law_1028 : List UInt8 := 42 :: t_Lw_law_1029
abbrev t_Lw_law_1027 : List UInt8 := 43 :: t_Lw_law_1028
abbrev t_Lw_law_1026 : List UInt8 := 172 :: t_Lw_law_1027
abbrev t_Lw_law_1025 : List UInt8 := 3 :: t_Lw_law_1026
abbrev t_Lw_law_1022 : List UInt8 := 153 :: 0 :: 186 :: t_Lw_law_1025
abbrev t_Lw_law_1021 : List UInt8 := 148 :: t_Lw_law_1022
abbrev t_Lw_law_1018 : List UInt8 := 182 :: 0 :: 118 :: t_Lw_law_1021
abbrev t_Lw_law_1017 : List UInt8 := 46 :: t_Lw_law_1018
abbrev t_Lw_law_1016 : List UInt8 := 96 :: t_Lw_law_1017
abbrev t_Lw_law_1015 : List UInt8 := 4 :: t_Lw_law_1016
abbrev t_Lw_law_1014 : List UInt8 := 29 :: t_Lw_law_1015
abbrev t_Lw_law_1013 : List UInt8 := 42 :: t_Lw_law_1014
abbrev t_Lw_law_1012 : List UInt8 := 44 :: t_Lw_law_1013
abbrev t_Lw_law_1009 : List UInt8 := 182 :: 0 :: 114 :: t_Lw_law_1012
abbrev t_Lw_law_1008 : List UInt8 := 46 :: t_Lw_law_1009
abbrev t_Lw_law_1007 : List UInt8 := 96 :: t_Lw_law_1008
abbrev t_Lw_law_1006 : List UInt8 := 4 :: t_Lw_law_1007
abbrev t_Lw_law_1005 : List UInt8 := 29 :: t_Lw_law_1006
abbrev t_Lw_law_1004 : List UInt8 := 42 :: t_Lw_law_1005
abbrev t_Lw_law_1003 : List UInt8 := 43 :: t_Lw_law_1004
abbrev t_Lw_law_1002 : List UInt8 := 172 :: t_Lw_law_1003
abbrev t_Lw_law_1001 : List UInt8 := 3 :: t_Lw_law_1002
abbrev t_Lw_law_998 : List UInt8 := 159 :: 0 :: 210 :: t_Lw_law_1001
abbrev t_Lw_law_995 : List UInt8 := 182 :: 0 :: 113 :: t_Lw_law_998
abbrev t_Lw_law_994 : List UInt8 := 44 :: t_Lw_law_995
abbrev t_Lw_law_991 : List UInt8 := 182 :: 0 :: 109 :: t_Lw_law_994
abbrev t_Lw_law_990 : List UInt8 := 43 :: t_Lw_law_991
abbrev t_Lw_law_989 : List UInt8 := 172 :: t_Lw_law_990
abbrev t_Lw_law_988 : List UInt8 := 3 :: t_Lw_law_989
abbrev t_Lw_law_985 : List UInt8 := 159 :: 0 :: 223 :: t_Lw_law_988
abbrev t_Lw_law_982 : List UInt8 := 182 :: 0 :: 108 :: t_Lw_law_985
abbrev t_Lw_law_981 : List UInt8 := 46 :: t_Lw_law_982
abbrev t_Lw_law_980 : List UInt8 := 96 :: t_Lw_law_981
abbrev t_Lw_law_979 : List UInt8 := 5 :: t_Lw_law_980
abbrev t_Lw_law_978 : List UInt8 := 29 :: t_Lw_law_979
abbrev t_Lw_law_977 : List UInt8 := 42 :: t_Lw_law_978
abbrev t_Lw_law_976 : List UInt8 := 46 :: t_Lw_law_977
abbrev t_Lw_law_975 : List UInt8 := 96 :: t_Lw_law_976
abbrev t_Lw_law_974 : List UInt8 := 4 :: t_Lw_law_975
abbrev t_Lw_law_973 : List UInt8 := 29 :: t_Lw_law_974
abbrev t_Lw_law_972 : List UInt8 := 42 :: t_Lw_law_973
abbrev t_Lw_law_971 : List UInt8 := 44 :: t_Lw_law_972
abbrev t_Lw_law_968 : List UInt8 := 182 :: 0 :: 105 :: t_Lw_law_971
abbrev t_Lw_law_967 : List UInt8 := 46 :: t_Lw_law_968
abbrev t_Lw_law_966 : List UInt8 := 96 :: t_Lw_law_967
abbrev t_Lw_law_965 : List UInt8 := 5 :: t_Lw_law_966
abbrev t_Lw_law_964 : List UInt8 := 29 :: t_Lw_law_965
abbrev t_Lw_law_963 : List UInt8 := 42 :: t_Lw_law_964
abbrev t_Lw_law_962 : List UInt8 := 46 :: t_Lw_law_963
abbrev t_Lw_law_961 : List UInt8 := 96 :: t_Lw_law_962
abbrev t_Lw_law_960 : List UInt8 := 4 :: t_Lw_law_961
abbrev t_Lw_law_959 : List UInt8 := 29 :: t_Lw_law_960
abbrev t_Lw_law_958 : List UInt8 := 42 :: t_Lw_law_959
abbrev t_Lw_law_957 : List UInt8 := 43 :: t_Lw_law_958
abbrev t_Lw_law_956 : List UInt8 := 172 :: t_Lw_law_957
abbrev t_Lw_law_955 : List UInt8 := 3 :: t_Lw_law_956
abbrev t_Lw_law_952 : List UInt8 := 159 :: 1 :: 0 :: t_Lw_law_955
abbrev t_Lw_law_949 : List UInt8 := 182 :: 0 :: 104 :: t_Lw_law_952
abbrev t_Lw_law_948 : List UInt8 := 46 :: t_Lw_law_949
abbrev t_Lw_law_947 : List UInt8 := 96 :: t_Lw_law_948
abbrev t_Lw_law_946 : List UInt8 := 4 :: t_Lw_law_947
abbrev t_Lw_law_945 : List UInt8 := 29 :: t_Lw_law_946
abbrev t_Lw_law_944 : List UInt8 := 42 :: t_Lw_law_945
abbrev t_Lw_law_943 : List UInt8 := 44 :: t_Lw_law_944
abbrev t_Lw_law_940 : List UInt8 := 182 :: 0 :: 101 :: t_Lw_law_943
abbrev t_Lw_law_939 : List UInt8 := 46 :: t_Lw_law_940
abbrev t_Lw_law_938 : List UInt8 := 96 :: t_Lw_law_939
abbrev t_Lw_law_937 : List UInt8 := 4 :: t_Lw_law_938
abbrev t_Lw_law_936 : List UInt8 := 29 :: t_Lw_law_937
abbrev t_Lw_law_935 : List UInt8 := 42 :: t_Lw_law_936
abbrev t_Lw_law_934 : List UInt8 := 43 :: t_Lw_law_935
abbrev t_Lw_law_933 : List UInt8 := 172 :: t_Lw_law_934
abbrev t_Lw_law_932 : List UInt8 := 3 :: t_Lw_law_933
abbrev t_Lw_law_929 : List UInt8 := 159 :: 1 :: 23 :: t_Lw_law_932
abbrev t_Lw_law_926 : List UInt8 := 182 :: 0 :: 100 :: t_Lw_law_929
abbrev t_Lw_law_925 : List UInt8 := 46 :: t_Lw_law_926
abbrev t_Lw_law_924 : List UInt8 := 96 :: t_Lw_law_925
abbrev t_Lw_law_923 : List UInt8 := 4 :: t_Lw_law_924
abbrev t_Lw_law_922 : List UInt8 := 29 :: t_Lw_law_923
abbrev t_Lw_law_921 : List UInt8 := 42 :: t_Lw_law_922
abbrev t_Lw_law_920 : List UInt8 := 44 :: t_Lw_law_921
abbrev t_Lw_law_917 : List UInt8 := 182 :: 0 :: 96 :: t_Lw_law_920
abbrev t_Lw_law_916 : List UInt8 := 46 :: t_Lw_law_917
abbrev t_Lw_law_915 : List UInt8 := 96 :: t_Lw_law_916
abbrev t_Lw_law_914 : List UInt8 := 4 :: t_Lw_law_915
abbrev t_Lw_law_913 : List UInt8 := 29 :: t_Lw_law_914
abbrev t_Lw_law_912 : List UInt8 := 42 :: t_Lw_law_913
abbrev t_Lw_law_911 : List UInt8 := 43 :: t_Lw_law_912
abbrev t_Lw_law_910 : List UInt8 := 172 :: t_Lw_law_911
abbrev t_Lw_law_909 : List UInt8 := 3 :: t_Lw_law_910
abbrev t_Lw_law_906 : List UInt8 := 159 :: 1 :: 46 :: t_Lw_law_909
abbrev t_Lw_law_903 : List UInt8 := 182 :: 0 :: 95 :: t_Lw_law_906
abbrev t_Lw_law_902 : List UInt8 := 46 :: t_Lw_law_903
abbrev t_Lw_law_901 : List UInt8 := 96 :: t_Lw_law_902
abbrev t_Lw_law_900 : List UInt8 := 7 :: t_Lw_law_901
abbrev t_Lw_law_899 : List UInt8 := 29 :: t_Lw_law_900
abbrev t_Lw_law_898 : List UInt8 := 42 :: t_Lw_law_899
abbrev t_Lw_law_897 : List UInt8 := 46 :: t_Lw_law_898
abbrev t_Lw_law_896 : List UInt8 := 96 :: t_Lw_law_897
abbrev t_Lw_law_895 : List UInt8 := 6 :: t_Lw_law_896
abbrev t_Lw_law_894 : List UInt8 := 29 :: t_Lw_law_895
abbrev t_Lw_law_893 : List UInt8 := 42 :: t_Lw_law_894
abbrev t_Lw_law_892 : List UInt8 := 46 :: t_Lw_law_893
abbrev t_Lw_law_891 : List UInt8 := 96 :: t_Lw_law_892
abbrev t_Lw_law_890 : List UInt8 := 5 :: t_Lw_law_891
abbrev t_Lw_law_889 : List UInt8 := 29 :: t_Lw_law_890
abbrev t_Lw_law_888 : List UInt8 := 42 :: t_Lw_law_889
abbrev t_Lw_law_887 : List UInt8 := 46 :: t_Lw_law_888
abbrev t_Lw_law_886 : List UInt8 := 96 :: t_Lw_law_887
abbrev t_Lw_law_885 : List UInt8 := 4 :: t_Lw_law_886
abbrev t_Lw_law_884 : List UInt8 := 29 :: t_Lw_law_885
abbrev t_Lw_law_883 : List UInt8 := 42 :: t_Lw_law_884
abbrev t_Lw_law_882 : List UInt8 := 44 :: t_Lw_law_883
abbrev t_Lw_law_879 : List UInt8 := 182 :: 0 :: 91 :: t_Lw_law_882
abbrev t_Lw_law_878 : List UInt8 := 46 :: t_Lw_law_879
abbrev t_Lw_law_877 : List UInt8 := 96 :: t_Lw_law_878
abbrev t_Lw_law_876 : List UInt8 := 7 :: t_Lw_law_877
abbrev t_Lw_law_875 : List UInt8 := 29 :: t_Lw_law_876
abbrev t_Lw_law_874 : List UInt8 := 42 :: t_Lw_law_875
abbrev t_Lw_law_873 : List UInt8 := 46 :: t_Lw_law_874
abbrev t_Lw_law_872 : List UInt8 := 96 :: t_Lw_law_873
abbrev t_Lw_law_871 : List UInt8 := 6 :: t_Lw_law_872
abbrev t_Lw_law_870 : List UInt8 := 29 :: t_Lw_law_871
abbrev t_Lw_law_869 : List UInt8 := 42 :: t_Lw_law_870
abbrev t_Lw_law_868 : List UInt8 := 46 :: t_Lw_law_869
abbrev t_Lw_law_867 : List UInt8 := 96 :: t_Lw_law_868
abbrev t_Lw_law_866 : List UInt8 := 5 :: t_Lw_law_867
abbrev t_Lw_law_865 : List UInt8 := 29 :: t_Lw_law_866
abbrev t_Lw_law_864 : List UInt8 := 42 :: t_Lw_law_865
abbrev t_Lw_law_863 : List UInt8 := 46 :: t_Lw_law_864
abbrev t_Lw_law_862 : List UInt8 := 96 :: t_Lw_law_863
abbrev t_Lw_law_861 : List UInt8 := 4 :: t_Lw_law_862
abbrev t_Lw_law_860 : List UInt8 := 29 :: t_Lw_law_861
abbrev t_Lw_law_859 : List UInt8 := 42 :: t_Lw_law_860
abbrev t_Lw_law_858 : List UInt8 := 43 :: t_Lw_law_859
abbrev t_Lw_law_857 : List UInt8 := 172 :: t_Lw_law_858
abbrev t_Lw_law_856 : List UInt8 := 3 :: t_Lw_law_857
abbrev t_Lw_law_853 : List UInt8 := 159 :: 1 :: 99 :: t_Lw_law_856
abbrev t_Lw_law_850 : List UInt8 := 182 :: 0 :: 90 :: t_Lw_law_853
abbrev t_Lw_law_849 : List UInt8 := 44 :: t_Lw_law_850
abbrev t_Lw_law_846 : List UInt8 := 182 :: 0 :: 87 :: t_Lw_law_849
abbrev t_Lw_law_845 : List UInt8 := 43 :: t_Lw_law_846
abbrev t_Lw_law_844 : List UInt8 := 172 :: t_Lw_law_845
abbrev t_Lw_law_843 : List UInt8 := 3 :: t_Lw_law_844
abbrev t_Lw_law_840 : List UInt8 := 159 :: 1 :: 112 :: t_Lw_law_843
abbrev t_Lw_law_837 : List UInt8 := 182 :: 0 :: 86 :: t_Lw_law_840
abbrev t_Lw_law_836 : List UInt8 := 3 :: t_Lw_law_837
abbrev t_Lw_law_833 : List UInt8 := 167 :: 0 :: 4 :: t_Lw_law_836
abbrev t_Lw_law_832 : List UInt8 := 4 :: t_Lw_law_833
abbrev t_Lw_law_829 : List UInt8 := 153 :: 0 :: 7 :: t_Lw_law_832
abbrev t_Lw_law_828 : List UInt8 := 46 :: t_Lw_law_829
abbrev t_Lw_law_827 : List UInt8 := 96 :: t_Lw_law_828
abbrev t_Lw_law_826 : List UInt8 := 4 :: t_Lw_law_827
abbrev t_Lw_law_825 : List UInt8 := 29 :: t_Lw_law_826
abbrev t_Lw_law_824 : List UInt8 := 42 :: t_Lw_law_825
abbrev t_Lw_law_823 : List UInt8 := 44 :: t_Lw_law_824
abbrev t_Lw_law_820 : List UInt8 := 182 :: 0 :: 82 :: t_Lw_law_823
abbrev t_Lw_law_819 : List UInt8 := 3 :: t_Lw_law_820
abbrev t_Lw_law_816 : List UInt8 := 167 :: 0 :: 4 :: t_Lw_law_819
abbrev t_Lw_law_815 : List UInt8 := 4 :: t_Lw_law_816
abbrev t_Lw_law_812 : List UInt8 := 153 :: 0 :: 7 :: t_Lw_law_815
abbrev t_Lw_law_811 : List UInt8 := 46 :: t_Lw_law_812
abbrev t_Lw_law_810 : List UInt8 := 96 :: t_Lw_law_811
abbrev t_Lw_law_809 : List UInt8 := 4 :: t_Lw_law_810
abbrev t_Lw_law_808 : List UInt8 := 29 :: t_Lw_law_809
abbrev t_Lw_law_807 : List UInt8 := 42 :: t_Lw_law_808
abbrev t_Lw_law_806 : List UInt8 := 43 :: t_Lw_law_807
abbrev t_Lw_law_805 : List UInt8 := 172 :: t_Lw_law_806
abbrev t_Lw_law_804 : List UInt8 := 3 :: t_Lw_law_805
abbrev t_Lw_law_801 : List UInt8 := 159 :: 1 :: 151 :: t_Lw_law_804
abbrev t_Lw_law_798 : List UInt8 := 182 :: 0 :: 81 :: t_Lw_law_801
abbrev t_Lw_law_797 : List UInt8 := 129 :: t_Lw_law_798
abbrev t_Lw_law_796 : List UInt8 := 127 :: t_Lw_law_797
abbrev t_Lw_law_793 : List UInt8 := 20 :: 0 :: 23 :: t_Lw_law_796
abbrev t_Lw_law_792 : List UInt8 := 133 :: t_Lw_law_793
abbrev t_Lw_law_791 : List UInt8 := 46 :: t_Lw_law_792
abbrev t_Lw_law_790 : List UInt8 := 96 :: t_Lw_law_791
abbrev t_Lw_law_789 : List UInt8 := 5 :: t_Lw_law_790
abbrev t_Lw_law_788 : List UInt8 := 29 :: t_Lw_law_789
abbrev t_Lw_law_787 : List UInt8 := 42 :: t_Lw_law_788
abbrev t_Lw_law_786 : List UInt8 := 121 :: t_Lw_law_787
abbrev t_Lw_law_784 : List UInt8 := 16 :: 32 :: t_Lw_law_786
abbrev t_Lw_law_783 : List UInt8 := 133 :: t_Lw_law_784
abbrev t_Lw_law_782 : List UInt8 := 46 :: t_Lw_law_783
abbrev t_Lw_law_781 : List UInt8 := 96 :: t_Lw_law_782
abbrev t_Lw_law_780 : List UInt8 := 4 :: t_Lw_law_781
abbrev t_Lw_law_779 : List UInt8 := 29 :: t_Lw_law_780
abbrev t_Lw_law_778 : List UInt8 := 42 :: t_Lw_law_779
abbrev t_Lw_law_777 : List UInt8 := 44 :: t_Lw_law_778
abbrev t_Lw_law_774 : List UInt8 := 182 :: 0 :: 77 :: t_Lw_law_777
abbrev t_Lw_law_773 : List UInt8 := 129 :: t_Lw_law_774
abbrev t_Lw_law_772 : List UInt8 := 127 :: t_Lw_law_773
abbrev t_Lw_law_769 : List UInt8 := 20 :: 0 :: 23 :: t_Lw_law_772
abbrev t_Lw_law_768 : List UInt8 := 133 :: t_Lw_law_769
abbrev t_Lw_law_767 : List UInt8 := 46 :: t_Lw_law_768
abbrev t_Lw_law_766 : List UInt8 := 96 :: t_Lw_law_767
abbrev t_Lw_law_765 : List UInt8 := 5 :: t_Lw_law_766
abbrev t_Lw_law_764 : List UInt8 := 29 :: t_Lw_law_765
abbrev t_Lw_law_763 : List UInt8 := 42 :: t_Lw_law_764
abbrev t_Lw_law_762 : List UInt8 := 121 :: t_Lw_law_763
abbrev t_Lw_law_760 : List UInt8 := 16 :: 32 :: t_Lw_law_762
abbrev t_Lw_law_759 : List UInt8 := 133 :: t_Lw_law_760
abbrev t_Lw_law_758 : List UInt8 := 46 :: t_Lw_law_759
abbrev t_Lw_law_757 : List UInt8 := 96 :: t_Lw_law_758
abbrev t_Lw_law_756 : List UInt8 := 4 :: t_Lw_law_757
abbrev t_Lw_law_755 : List UInt8 := 29 :: t_Lw_law_756
abbrev t_Lw_law_754 : List UInt8 := 42 :: t_Lw_law_755
abbrev t_Lw_law_753 : List UInt8 := 43 :: t_Lw_law_754
abbrev t_Lw_law_752 : List UInt8 := 172 :: t_Lw_law_753
abbrev t_Lw_law_751 : List UInt8 := 3 :: t_Lw_law_752
abbrev t_Lw_law_748 : List UInt8 := 159 :: 1 :: 204 :: t_Lw_law_751
abbrev t_Lw_law_745 : List UInt8 := 182 :: 0 :: 76 :: t_Lw_law_748
abbrev t_Lw_law_744 : List UInt8 := 46 :: t_Lw_law_745
abbrev t_Lw_law_743 : List UInt8 := 96 :: t_Lw_law_744
abbrev t_Lw_law_742 : List UInt8 := 4 :: t_Lw_law_743
abbrev t_Lw_law_741 : List UInt8 := 29 :: t_Lw_law_742
abbrev t_Lw_law_740 : List UInt8 := 42 :: t_Lw_law_741
abbrev t_Lw_law_739 : List UInt8 := 44 :: t_Lw_law_740
abbrev t_Lw_law_736 : List UInt8 := 182 :: 0 :: 73 :: t_Lw_law_739
abbrev t_Lw_law_735 : List UInt8 := 46 :: t_Lw_law_736
abbrev t_Lw_law_734 : List UInt8 := 96 :: t_Lw_law_735
abbrev t_Lw_law_733 : List UInt8 := 4 :: t_Lw_law_734
abbrev t_Lw_law_732 : List UInt8 := 29 :: t_Lw_law_733
abbrev t_Lw_law_731 : List UInt8 := 42 :: t_Lw_law_732
abbrev t_Lw_law_730 : List UInt8 := 43 :: t_Lw_law_731
abbrev t_Lw_law_729 : List UInt8 := 172 :: t_Lw_law_730
abbrev t_Lw_law_728 : List UInt8 := 3 :: t_Lw_law_729
abbrev t_Lw_law_725 : List UInt8 := 159 :: 1 :: 227 :: t_Lw_law_728
abbrev t_Lw_law_722 : List UInt8 := 182 :: 0 :: 72 :: t_Lw_law_725
abbrev t_Lw_law_721 : List UInt8 := 44 :: t_Lw_law_722
abbrev t_Lw_law_718 : List UInt8 := 182 :: 0 :: 68 :: t_Lw_law_721
abbrev t_Lw_law_717 : List UInt8 := 43 :: t_Lw_law_718
abbrev t_Lw_law_716 : List UInt8 := 172 :: t_Lw_law_717
abbrev t_Lw_law_715 : List UInt8 := 3 :: t_Lw_law_716
abbrev t_Lw_law_712 : List UInt8 := 159 :: 1 :: 240 :: t_Lw_law_715
abbrev t_Lw_law_709 : List UInt8 := 182 :: 0 :: 67 :: t_Lw_law_712
abbrev t_Lw_law_708 : List UInt8 := 46 :: t_Lw_law_709
abbrev t_Lw_law_707 : List UInt8 := 96 :: t_Lw_law_708
abbrev t_Lw_law_706 : List UInt8 := 4 :: t_Lw_law_707
abbrev t_Lw_law_705 : List UInt8 := 29 :: t_Lw_law_706
abbrev t_Lw_law_704 : List UInt8 := 42 :: t_Lw_law_705
abbrev t_Lw_law_703 : List UInt8 := 44 :: t_Lw_law_704
abbrev t_Lw_law_700 : List UInt8 := 182 :: 0 :: 63 :: t_Lw_law_703
abbrev t_Lw_law_699 : List UInt8 := 46 :: t_Lw_law_700
abbrev t_Lw_law_698 : List UInt8 := 96 :: t_Lw_law_699
abbrev t_Lw_law_697 : List UInt8 := 4 :: t_Lw_law_698
abbrev t_Lw_law_696 : List UInt8 := 29 :: t_Lw_law_697
abbrev t_Lw_law_695 : List UInt8 := 42 :: t_Lw_law_696
abbrev t_Lw_law_694 : List UInt8 := 43 :: t_Lw_law_695
abbrev t_Lw_law_693 : List UInt8 := 172 :: t_Lw_law_694
abbrev t_Lw_law_692 : List UInt8 := 3 :: t_Lw_law_693
abbrev t_Lw_law_689 : List UInt8 := 159 :: 2 :: 7 :: t_Lw_law_692
abbrev t_Lw_law_686 : List UInt8 := 182 :: 0 :: 62 :: t_Lw_law_689
abbrev t_Lw_law_685 : List UInt8 := 46 :: t_Lw_law_686
abbrev t_Lw_law_684 : List UInt8 := 96 :: t_Lw_law_685
abbrev t_Lw_law_683 : List UInt8 := 8 :: t_Lw_law_684
abbrev t_Lw_law_682 : List UInt8 := 29 :: t_Lw_law_683
abbrev t_Lw_law_681 : List UInt8 := 42 :: t_Lw_law_682
abbrev t_Lw_law_680 : List UInt8 := 46 :: t_Lw_law_681
abbrev t_Lw_law_679 : List UInt8 := 96 :: t_Lw_law_680
abbrev t_Lw_law_678 : List UInt8 := 7 :: t_Lw_law_679
abbrev t_Lw_law_677 : List UInt8 := 29 :: t_Lw_law_678
abbrev t_Lw_law_676 : List UInt8 := 42 :: t_Lw_law_677
abbrev t_Lw_law_675 : List UInt8 := 46 :: t_Lw_law_676
abbrev t_Lw_law_674 : List UInt8 := 96 :: t_Lw_law_675
abbrev t_Lw_law_673 : List UInt8 := 6 :: t_Lw_law_674
abbrev t_Lw_law_672 : List UInt8 := 29 :: t_Lw_law_673
abbrev t_Lw_law_671 : List UInt8 := 42 :: t_Lw_law_672
abbrev t_Lw_law_670 : List UInt8 := 46 :: t_Lw_law_671
abbrev t_Lw_law_669 : List UInt8 := 96 :: t_Lw_law_670
abbrev t_Lw_law_668 : List UInt8 := 5 :: t_Lw_law_669
abbrev t_Lw_law_667 : List UInt8 := 29 :: t_Lw_law_668
abbrev t_Lw_law_666 : List UInt8 := 42 :: t_Lw_law_667
abbrev t_Lw_law_665 : List UInt8 := 46 :: t_Lw_law_666
abbrev t_Lw_law_664 : List UInt8 := 96 :: t_Lw_law_665
abbrev t_Lw_law_663 : List UInt8 := 4 :: t_Lw_law_664
abbrev t_Lw_law_662 : List UInt8 := 29 :: t_Lw_law_663
abbrev t_Lw_law_661 : List UInt8 := 42 :: t_Lw_law_662
abbrev t_Lw_law_660 : List UInt8 := 44 :: t_Lw_law_661
abbrev t_Lw_law_657 : List UInt8 := 182 :: 0 :: 58 :: t_Lw_law_660
abbrev t_Lw_law_656 : List UInt8 := 46 :: t_Lw_law_657
abbrev t_Lw_law_655 : List UInt8 := 96 :: t_Lw_law_656
abbrev t_Lw_law_654 : List UInt8 := 8 :: t_Lw_law_655
abbrev t_Lw_law_653 : List UInt8 := 29 :: t_Lw_law_654
abbrev t_Lw_law_652 : List UInt8 := 42 :: t_Lw_law_653
abbrev t_Lw_law_651 : List UInt8 := 46 :: t_Lw_law_652
abbrev t_Lw_law_650 : List UInt8 := 96 :: t_Lw_law_651
abbrev t_Lw_law_649 : List UInt8 := 7 :: t_Lw_law_650
abbrev t_Lw_law_648 : List UInt8 := 29 :: t_Lw_law_649
abbrev t_Lw_law_647 : List UInt8 := 42 :: t_Lw_law_648
abbrev t_Lw_law_646 : List UInt8 := 46 :: t_Lw_law_647
abbrev t_Lw_law_645 : List UInt8 := 96 :: t_Lw_law_646
abbrev t_Lw_law_644 : List UInt8 := 6 :: t_Lw_law_645
abbrev t_Lw_law_643 : List UInt8 := 29 :: t_Lw_law_644
abbrev t_Lw_law_642 : List UInt8 := 42 :: t_Lw_law_643
abbrev t_Lw_law_641 : List UInt8 := 46 :: t_Lw_law_642
abbrev t_Lw_law_640 : List UInt8 := 96 :: t_Lw_law_641
abbrev t_Lw_law_639 : List UInt8 := 5 :: t_Lw_law_640
abbrev t_Lw_law_638 : List UInt8 := 29 :: t_Lw_law_639
abbrev t_Lw_law_637 : List UInt8 := 42 :: t_Lw_law_638
abbrev t_Lw_law_636 : List UInt8 := 46 :: t_Lw_law_637
abbrev t_Lw_law_635 : List UInt8 := 96 :: t_Lw_law_636
abbrev t_Lw_law_634 : List UInt8 := 4 :: t_Lw_law_635
abbrev t_Lw_law_633 : List UInt8 := 29 :: t_Lw_law_634
abbrev t_Lw_law_632 : List UInt8 := 42 :: t_Lw_law_633
abbrev t_Lw_law_631 : List UInt8 := 43 :: t_Lw_law_632
abbrev t_Lw_law_630 : List UInt8 := 172 :: t_Lw_law_631
abbrev t_Lw_law_629 : List UInt8 := 3 :: t_Lw_law_630
abbrev t_Lw_law_626 : List UInt8 := 159 :: 2 :: 70 :: t_Lw_law_629
abbrev t_Lw_law_623 : List UInt8 := 182 :: 0 :: 57 :: t_Lw_law_626
abbrev t_Lw_law_622 : List UInt8 := 129 :: t_Lw_law_623
abbrev t_Lw_law_621 : List UInt8 := 127 :: t_Lw_law_622
abbrev t_Lw_law_618 : List UInt8 := 20 :: 0 :: 23 :: t_Lw_law_621
abbrev t_Lw_law_617 : List UInt8 := 133 :: t_Lw_law_618
abbrev t_Lw_law_616 : List UInt8 := 46 :: t_Lw_law_617
abbrev t_Lw_law_615 : List UInt8 := 96 :: t_Lw_law_616
abbrev t_Lw_law_614 : List UInt8 := 6 :: t_Lw_law_615
abbrev t_Lw_law_613 : List UInt8 := 29 :: t_Lw_law_614
abbrev t_Lw_law_612 : List UInt8 := 42 :: t_Lw_law_613
abbrev t_Lw_law_611 : List UInt8 := 121 :: t_Lw_law_612
abbrev t_Lw_law_609 : List UInt8 := 16 :: 32 :: t_Lw_law_611
abbrev t_Lw_law_608 : List UInt8 := 133 :: t_Lw_law_609
abbrev t_Lw_law_607 : List UInt8 := 46 :: t_Lw_law_608
abbrev t_Lw_law_606 : List UInt8 := 96 :: t_Lw_law_607
abbrev t_Lw_law_605 : List UInt8 := 5 :: t_Lw_law_606
abbrev t_Lw_law_604 : List UInt8 := 29 :: t_Lw_law_605
abbrev t_Lw_law_603 : List UInt8 := 42 :: t_Lw_law_604
abbrev t_Lw_law_602 : List UInt8 := 46 :: t_Lw_law_603
abbrev t_Lw_law_601 : List UInt8 := 96 :: t_Lw_law_602
abbrev t_Lw_law_600 : List UInt8 := 4 :: t_Lw_law_601
abbrev t_Lw_law_599 : List UInt8 := 29 :: t_Lw_law_600
abbrev t_Lw_law_598 : List UInt8 := 42 :: t_Lw_law_599
abbrev t_Lw_law_597 : List UInt8 := 44 :: t_Lw_law_598
abbrev t_Lw_law_594 : List UInt8 := 182 :: 0 :: 53 :: t_Lw_law_597
abbrev t_Lw_law_593 : List UInt8 := 129 :: t_Lw_law_594
abbrev t_Lw_law_592 : List UInt8 := 127 :: t_Lw_law_593
abbrev t_Lw_law_589 : List UInt8 := 20 :: 0 :: 23 :: t_Lw_law_592
abbrev t_Lw_law_588 : List UInt8 := 133 :: t_Lw_law_589
abbrev t_Lw_law_587 : List UInt8 := 46 :: t_Lw_law_588
abbrev t_Lw_law_586 : List UInt8 := 96 :: t_Lw_law_587
abbrev t_Lw_law_585 : List UInt8 := 6 :: t_Lw_law_586
abbrev t_Lw_law_584 : List UInt8 := 29 :: t_Lw_law_585
abbrev t_Lw_law_583 : List UInt8 := 42 :: t_Lw_law_584
abbrev t_Lw_law_582 : List UInt8 := 121 :: t_Lw_law_583
abbrev t_Lw_law_580 : List UInt8 := 16 :: 32 :: t_Lw_law_582
abbrev t_Lw_law_579 : List UInt8 := 133 :: t_Lw_law_580
abbrev t_Lw_law_578 : List UInt8 := 46 :: t_Lw_law_579
abbrev t_Lw_law_577 : List UInt8 := 96 :: t_Lw_law_578
abbrev t_Lw_law_576 : List UInt8 := 5 :: t_Lw_law_577
abbrev t_Lw_law_575 : List UInt8 := 29 :: t_Lw_law_576
abbrev t_Lw_law_574 : List UInt8 := 42 :: t_Lw_law_575
abbrev t_Lw_law_573 : List UInt8 := 46 :: t_Lw_law_574
abbrev t_Lw_law_572 : List UInt8 := 96 :: t_Lw_law_573
abbrev t_Lw_law_571 : List UInt8 := 4 :: t_Lw_law_572
abbrev t_Lw_law_570 : List UInt8 := 29 :: t_Lw_law_571
abbrev t_Lw_law_569 : List UInt8 := 42 :: t_Lw_law_570
abbrev t_Lw_law_568 : List UInt8 := 43 :: t_Lw_law_569
abbrev t_Lw_law_567 : List UInt8 := 172 :: t_Lw_law_568
abbrev t_Lw_law_566 : List UInt8 := 3 :: t_Lw_law_567
abbrev t_Lw_law_563 : List UInt8 := 159 :: 2 :: 133 :: t_Lw_law_566
abbrev t_Lw_law_560 : List UInt8 := 182 :: 0 :: 52 :: t_Lw_law_563
abbrev t_Lw_law_559 : List UInt8 := 129 :: t_Lw_law_560
abbrev t_Lw_law_558 : List UInt8 := 127 :: t_Lw_law_559
abbrev t_Lw_law_555 : List UInt8 := 20 :: 0 :: 23 :: t_Lw_law_558
abbrev t_Lw_law_554 : List UInt8 := 133 :: t_Lw_law_555
abbrev t_Lw_law_553 : List UInt8 := 46 :: t_Lw_law_554
abbrev t_Lw_law_552 : List UInt8 := 96 :: t_Lw_law_553
abbrev t_Lw_law_551 : List UInt8 := 8 :: t_Lw_law_552
abbrev t_Lw_law_550 : List UInt8 := 29 :: t_Lw_law_551
abbrev t_Lw_law_549 : List UInt8 := 42 :: t_Lw_law_550
abbrev t_Lw_law_548 : List UInt8 := 121 :: t_Lw_law_549
abbrev t_Lw_law_546 : List UInt8 := 16 :: 32 :: t_Lw_law_548
abbrev t_Lw_law_545 : List UInt8 := 133 :: t_Lw_law_546
abbrev t_Lw_law_544 : List UInt8 := 46 :: t_Lw_law_545
abbrev t_Lw_law_543 : List UInt8 := 96 :: t_Lw_law_544
abbrev t_Lw_law_542 : List UInt8 := 7 :: t_Lw_law_543
abbrev t_Lw_law_541 : List UInt8 := 29 :: t_Lw_law_542
abbrev t_Lw_law_540 : List UInt8 := 42 :: t_Lw_law_541
abbrev t_Lw_law_539 : List UInt8 := 46 :: t_Lw_law_540
abbrev t_Lw_law_538 : List UInt8 := 96 :: t_Lw_law_539
abbrev t_Lw_law_537 : List UInt8 := 6 :: t_Lw_law_538
abbrev t_Lw_law_536 : List UInt8 := 29 :: t_Lw_law_537
abbrev t_Lw_law_535 : List UInt8 := 42 :: t_Lw_law_536
abbrev t_Lw_law_534 : List UInt8 := 46 :: t_Lw_law_535
abbrev t_Lw_law_533 : List UInt8 := 96 :: t_Lw_law_534
abbrev t_Lw_law_532 : List UInt8 := 5 :: t_Lw_law_533
abbrev t_Lw_law_531 : List UInt8 := 29 :: t_Lw_law_532
abbrev t_Lw_law_530 : List UInt8 := 42 :: t_Lw_law_531
abbrev t_Lw_law_529 : List UInt8 := 46 :: t_Lw_law_530
abbrev t_Lw_law_528 : List UInt8 := 96 :: t_Lw_law_529
abbrev t_Lw_law_527 : List UInt8 := 4 :: t_Lw_law_528
abbrev t_Lw_law_526 : List UInt8 := 29 :: t_Lw_law_527
abbrev t_Lw_law_525 : List UInt8 := 42 :: t_Lw_law_526
abbrev t_Lw_law_524 : List UInt8 := 44 :: t_Lw_law_525
abbrev t_Lw_law_521 : List UInt8 := 182 :: 0 :: 48 :: t_Lw_law_524
abbrev t_Lw_law_520 : List UInt8 := 129 :: t_Lw_law_521
abbrev t_Lw_law_519 : List UInt8 := 127 :: t_Lw_law_520
abbrev t_Lw_law_516 : List UInt8 := 20 :: 0 :: 23 :: t_Lw_law_519
abbrev t_Lw_law_515 : List UInt8 := 133 :: t_Lw_law_516
abbrev t_Lw_law_514 : List UInt8 := 46 :: t_Lw_law_515
abbrev t_Lw_law_513 : List UInt8 := 96 :: t_Lw_law_514
abbrev t_Lw_law_512 : List UInt8 := 8 :: t_Lw_law_513
abbrev t_Lw_law_511 : List UInt8 := 29 :: t_Lw_law_512
abbrev t_Lw_law_510 : List UInt8 := 42 :: t_Lw_law_511
abbrev t_Lw_law_509 : List UInt8 := 121 :: t_Lw_law_510
abbrev t_Lw_law_507 : List UInt8 := 16 :: 32 :: t_Lw_law_509
abbrev t_Lw_law_506 : List UInt8 := 133 :: t_Lw_law_507
abbrev t_Lw_law_505 : List UInt8 := 46 :: t_Lw_law_506
abbrev t_Lw_law_504 : List UInt8 := 96 :: t_Lw_law_505
abbrev t_Lw_law_503 : List UInt8 := 7 :: t_Lw_law_504
abbrev t_Lw_law_502 : List UInt8 := 29 :: t_Lw_law_503
abbrev t_Lw_law_501 : List UInt8 := 42 :: t_Lw_law_502
abbrev t_Lw_law_500 : List UInt8 := 46 :: t_Lw_law_501
abbrev t_Lw_law_499 : List UInt8 := 96 :: t_Lw_law_500
abbrev t_Lw_law_498 : List UInt8 := 6 :: t_Lw_law_499
abbrev t_Lw_law_497 : List UInt8 := 29 :: t_Lw_law_498
abbrev t_Lw_law_496 : List UInt8 := 42 :: t_Lw_law_497
abbrev t_Lw_law_495 : List UInt8 := 46 :: t_Lw_law_496
abbrev t_Lw_law_494 : List UInt8 := 96 :: t_Lw_law_495
abbrev t_Lw_law_493 : List UInt8 := 5 :: t_Lw_law_494
abbrev t_Lw_law_492 : List UInt8 := 29 :: t_Lw_law_493
abbrev t_Lw_law_491 : List UInt8 := 42 :: t_Lw_law_492
abbrev t_Lw_law_490 : List UInt8 := 46 :: t_Lw_law_491
abbrev t_Lw_law_489 : List UInt8 := 96 :: t_Lw_law_490
abbrev t_Lw_law_488 : List UInt8 := 4 :: t_Lw_law_489
abbrev t_Lw_law_487 : List UInt8 := 29 :: t_Lw_law_488
abbrev t_Lw_law_486 : List UInt8 := 42 :: t_Lw_law_487
abbrev t_Lw_law_485 : List UInt8 := 43 :: t_Lw_law_486
abbrev t_Lw_law_484 : List UInt8 := 172 :: t_Lw_law_485
abbrev t_Lw_law_483 : List UInt8 := 3 :: t_Lw_law_484
abbrev t_Lw_law_480 : List UInt8 := 159 :: 2 :: 216 :: t_Lw_law_483
abbrev t_Lw_law_477 : List UInt8 := 182 :: 0 :: 47 :: t_Lw_law_480
abbrev t_Lw_law_476 : List UInt8 := 46 :: t_Lw_law_477
abbrev t_Lw_law_475 : List UInt8 := 96 :: t_Lw_law_476
abbrev t_Lw_law_474 : List UInt8 := 6 :: t_Lw_law_475
abbrev t_Lw_law_473 : List UInt8 := 29 :: t_Lw_law_474
abbrev t_Lw_law_472 : List UInt8 := 42 :: t_Lw_law_473
abbrev t_Lw_law_471 : List UInt8 := 46 :: t_Lw_law_472
abbrev t_Lw_law_470 : List UInt8 := 96 :: t_Lw_law_471
abbrev t_Lw_law_469 : List UInt8 := 5 :: t_Lw_law_470
abbrev t_Lw_law_468 : List UInt8 := 29 :: t_Lw_law_469
abbrev t_Lw_law_467 : List UInt8 := 42 :: t_Lw_law_468
abbrev t_Lw_law_466 : List UInt8 := 46 :: t_Lw_law_467
abbrev t_Lw_law_465 : List UInt8 := 96 :: t_Lw_law_466
abbrev t_Lw_law_464 : List UInt8 := 4 :: t_Lw_law_465
abbrev t_Lw_law_463 : List UInt8 := 29 :: t_Lw_law_464
abbrev t_Lw_law_462 : List UInt8 := 42 :: t_Lw_law_463
abbrev t_Lw_law_461 : List UInt8 := 44 :: t_Lw_law_462
abbrev t_Lw_law_458 : List UInt8 := 182 :: 0 :: 44 :: t_Lw_law_461
abbrev t_Lw_law_457 : List UInt8 := 46 :: t_Lw_law_458
abbrev t_Lw_law_456 : List UInt8 := 96 :: t_Lw_law_457
abbrev t_Lw_law_455 : List UInt8 := 6 :: t_Lw_law_456
abbrev t_Lw_law_454 : List UInt8 := 29 :: t_Lw_law_455
abbrev t_Lw_law_453 : List UInt8 := 42 :: t_Lw_law_454
abbrev t_Lw_law_452 : List UInt8 := 46 :: t_Lw_law_453
abbrev t_Lw_law_451 : List UInt8 := 96 :: t_Lw_law_452
abbrev t_Lw_law_450 : List UInt8 := 5 :: t_Lw_law_451
abbrev t_Lw_law_449 : List UInt8 := 29 :: t_Lw_law_450
abbrev t_Lw_law_448 : List UInt8 := 42 :: t_Lw_law_449
abbrev t_Lw_law_447 : List UInt8 := 46 :: t_Lw_law_448
abbrev t_Lw_law_446 : List UInt8 := 96 :: t_Lw_law_447
abbrev t_Lw_law_445 : List UInt8 := 4 :: t_Lw_law_446
abbrev t_Lw_law_444 : List UInt8 := 29 :: t_Lw_law_445
abbrev t_Lw_law_443 : List UInt8 := 42 :: t_Lw_law_444
abbrev t_Lw_law_442 : List UInt8 := 43 :: t_Lw_law_443
abbrev t_Lw_law_441 : List UInt8 := 172 :: t_Lw_law_442
abbrev t_Lw_law_440 : List UInt8 := 3 :: t_Lw_law_441
abbrev t_Lw_law_437 : List UInt8 := 159 :: 3 :: 3 :: t_Lw_law_440
abbrev t_Lw_law_434 : List UInt8 := 182 :: 0 :: 43 :: t_Lw_law_437
abbrev t_Lw_law_433 : List UInt8 := 46 :: t_Lw_law_434
abbrev t_Lw_law_432 : List UInt8 := 96 :: t_Lw_law_433
abbrev t_Lw_law_431 : List UInt8 := 5 :: t_Lw_law_432
abbrev t_Lw_law_430 : List UInt8 := 29 :: t_Lw_law_431
abbrev t_Lw_law_429 : List UInt8 := 42 :: t_Lw_law_430
abbrev t_Lw_law_428 : List UInt8 := 46 :: t_Lw_law_429
abbrev t_Lw_law_427 : List UInt8 := 96 :: t_Lw_law_428
abbrev t_Lw_law_426 : List UInt8 := 4 :: t_Lw_law_427
abbrev t_Lw_law_425 : List UInt8 := 29 :: t_Lw_law_426
abbrev t_Lw_law_424 : List UInt8 := 42 :: t_Lw_law_425
abbrev t_Lw_law_423 : List UInt8 := 44 :: t_Lw_law_424
abbrev t_Lw_law_420 : List UInt8 := 182 :: 0 :: 40 :: t_Lw_law_423
abbrev t_Lw_law_419 : List UInt8 := 46 :: t_Lw_law_420
abbrev t_Lw_law_418 : List UInt8 := 96 :: t_Lw_law_419
abbrev t_Lw_law_417 : List UInt8 := 5 :: t_Lw_law_418
abbrev t_Lw_law_416 : List UInt8 := 29 :: t_Lw_law_417
abbrev t_Lw_law_415 : List UInt8 := 42 :: t_Lw_law_416
abbrev t_Lw_law_414 : List UInt8 := 46 :: t_Lw_law_415
abbrev t_Lw_law_413 : List UInt8 := 96 :: t_Lw_law_414
abbrev t_Lw_law_412 : List UInt8 := 4 :: t_Lw_law_413
abbrev t_Lw_law_411 : List UInt8 := 29 :: t_Lw_law_412
abbrev t_Lw_law_410 : List UInt8 := 42 :: t_Lw_law_411
abbrev t_Lw_law_409 : List UInt8 := 43 :: t_Lw_law_410
abbrev t_Lw_law_408 : List UInt8 := 172 :: t_Lw_law_409
abbrev t_Lw_law_407 : List UInt8 := 3 :: t_Lw_law_408
abbrev t_Lw_law_404 : List UInt8 := 159 :: 3 :: 36 :: t_Lw_law_407
abbrev t_Lw_law_401 : List UInt8 := 182 :: 0 :: 39 :: t_Lw_law_404
abbrev t_Lw_law_400 : List UInt8 := 46 :: t_Lw_law_401
abbrev t_Lw_law_399 : List UInt8 := 96 :: t_Lw_law_400
abbrev t_Lw_law_398 : List UInt8 := 6 :: t_Lw_law_399
abbrev t_Lw_law_397 : List UInt8 := 29 :: t_Lw_law_398
abbrev t_Lw_law_396 : List UInt8 := 42 :: t_Lw_law_397
abbrev t_Lw_law_395 : List UInt8 := 46 :: t_Lw_law_396
abbrev t_Lw_law_394 : List UInt8 := 96 :: t_Lw_law_395
abbrev t_Lw_law_393 : List UInt8 := 5 :: t_Lw_law_394
abbrev t_Lw_law_392 : List UInt8 := 29 :: t_Lw_law_393
abbrev t_Lw_law_391 : List UInt8 := 42 :: t_Lw_law_392
abbrev t_Lw_law_390 : List UInt8 := 46 :: t_Lw_law_391
abbrev t_Lw_law_389 : List UInt8 := 96 :: t_Lw_law_390
abbrev t_Lw_law_388 : List UInt8 := 4 :: t_Lw_law_389
abbrev t_Lw_law_387 : List UInt8 := 29 :: t_Lw_law_388
abbrev t_Lw_law_386 : List UInt8 := 42 :: t_Lw_law_387
abbrev t_Lw_law_385 : List UInt8 := 44 :: t_Lw_law_386
abbrev t_Lw_law_382 : List UInt8 := 182 :: 0 :: 35 :: t_Lw_law_385
abbrev t_Lw_law_381 : List UInt8 := 46 :: t_Lw_law_382
abbrev t_Lw_law_380 : List UInt8 := 96 :: t_Lw_law_381
abbrev t_Lw_law_379 : List UInt8 := 6 :: t_Lw_law_380
abbrev t_Lw_law_378 : List UInt8 := 29 :: t_Lw_law_379
abbrev t_Lw_law_377 : List UInt8 := 42 :: t_Lw_law_378
abbrev t_Lw_law_376 : List UInt8 := 46 :: t_Lw_law_377
abbrev t_Lw_law_375 : List UInt8 := 96 :: t_Lw_law_376
abbrev t_Lw_law_374 : List UInt8 := 5 :: t_Lw_law_375
abbrev t_Lw_law_373 : List UInt8 := 29 :: t_Lw_law_374
abbrev t_Lw_law_372 : List UInt8 := 42 :: t_Lw_law_373
abbrev t_Lw_law_371 : List UInt8 := 46 :: t_Lw_law_372
abbrev t_Lw_law_370 : List UInt8 := 96 :: t_Lw_law_371
abbrev t_Lw_law_369 : List UInt8 := 4 :: t_Lw_law_370
abbrev t_Lw_law_368 : List UInt8 := 29 :: t_Lw_law_369
abbrev t_Lw_law_367 : List UInt8 := 42 :: t_Lw_law_368
abbrev t_Lw_law_366 : List UInt8 := 43 :: t_Lw_law_367
abbrev t_Lw_law_365 : List UInt8 := 172 :: t_Lw_law_366
abbrev t_Lw_law_364 : List UInt8 := 3 :: t_Lw_law_365
abbrev t_Lw_law_361 : List UInt8 := 159 :: 3 :: 79 :: t_Lw_law_364
abbrev t_Lw_law_358 : List UInt8 := 182 :: 0 :: 34 :: t_Lw_law_361
abbrev t_Lw_law_357 : List UInt8 := 46 :: t_Lw_law_358
abbrev t_Lw_law_356 : List UInt8 := 96 :: t_Lw_law_357
abbrev t_Lw_law_355 : List UInt8 := 5 :: t_Lw_law_356
abbrev t_Lw_law_354 : List UInt8 := 29 :: t_Lw_law_355
abbrev t_Lw_law_353 : List UInt8 := 42 :: t_Lw_law_354
abbrev t_Lw_law_352 : List UInt8 := 46 :: t_Lw_law_353
abbrev t_Lw_law_351 : List UInt8 := 96 :: t_Lw_law_352
abbrev t_Lw_law_350 : List UInt8 := 4 :: t_Lw_law_351
abbrev t_Lw_law_349 : List UInt8 := 29 :: t_Lw_law_350
abbrev t_Lw_law_348 : List UInt8 := 42 :: t_Lw_law_349
abbrev t_Lw_law_347 : List UInt8 := 44 :: t_Lw_law_348
abbrev t_Lw_law_344 : List UInt8 := 182 :: 0 :: 30 :: t_Lw_law_347
abbrev t_Lw_law_343 : List UInt8 := 46 :: t_Lw_law_344
abbrev t_Lw_law_342 : List UInt8 := 96 :: t_Lw_law_343
abbrev t_Lw_law_341 : List UInt8 := 5 :: t_Lw_law_342
abbrev t_Lw_law_340 : List UInt8 := 29 :: t_Lw_law_341
abbrev t_Lw_law_339 : List UInt8 := 42 :: t_Lw_law_340
abbrev t_Lw_law_338 : List UInt8 := 46 :: t_Lw_law_339
abbrev t_Lw_law_337 : List UInt8 := 96 :: t_Lw_law_338
abbrev t_Lw_law_336 : List UInt8 := 4 :: t_Lw_law_337
abbrev t_Lw_law_335 : List UInt8 := 29 :: t_Lw_law_336
abbrev t_Lw_law_334 : List UInt8 := 42 :: t_Lw_law_335
abbrev t_Lw_law_333 : List UInt8 := 43 :: t_Lw_law_334
abbrev t_Lw_law_332 : List UInt8 := 172 :: t_Lw_law_333
abbrev t_Lw_law_331 : List UInt8 := 3 :: t_Lw_law_332
abbrev t_Lw_law_328 : List UInt8 := 159 :: 3 :: 112 :: t_Lw_law_331
abbrev t_Lw_law_325 : List UInt8 := 182 :: 0 :: 29 :: t_Lw_law_328
abbrev t_Lw_law_324 : List UInt8 := 129 :: t_Lw_law_325
abbrev t_Lw_law_323 : List UInt8 := 127 :: t_Lw_law_324
abbrev t_Lw_law_320 : List UInt8 := 20 :: 0 :: 23 :: t_Lw_law_323
abbrev t_Lw_law_319 : List UInt8 := 133 :: t_Lw_law_320
abbrev t_Lw_law_318 : List UInt8 := 46 :: t_Lw_law_319
abbrev t_Lw_law_317 : List UInt8 := 96 :: t_Lw_law_318
abbrev t_Lw_law_316 : List UInt8 := 7 :: t_Lw_law_317
abbrev t_Lw_law_315 : List UInt8 := 29 :: t_Lw_law_316
abbrev t_Lw_law_314 : List UInt8 := 42 :: t_Lw_law_315
abbrev t_Lw_law_313 : List UInt8 := 121 :: t_Lw_law_314
abbrev t_Lw_law_311 : List UInt8 := 16 :: 32 :: t_Lw_law_313
abbrev t_Lw_law_310 : List UInt8 := 133 :: t_Lw_law_311
abbrev t_Lw_law_309 : List UInt8 := 46 :: t_Lw_law_310
abbrev t_Lw_law_308 : List UInt8 := 96 :: t_Lw_law_309
abbrev t_Lw_law_307 : List UInt8 := 6 :: t_Lw_law_308
abbrev t_Lw_law_306 : List UInt8 := 29 :: t_Lw_law_307
abbrev t_Lw_law_305 : List UInt8 := 42 :: t_Lw_law_306
abbrev t_Lw_law_304 : List UInt8 := 46 :: t_Lw_law_305
abbrev t_Lw_law_303 : List UInt8 := 96 :: t_Lw_law_304
abbrev t_Lw_law_302 : List UInt8 := 5 :: t_Lw_law_303
abbrev t_Lw_law_301 : List UInt8 := 29 :: t_Lw_law_302
abbrev t_Lw_law_300 : List UInt8 := 42 :: t_Lw_law_301
abbrev t_Lw_law_299 : List UInt8 := 46 :: t_Lw_law_300
abbrev t_Lw_law_298 : List UInt8 := 96 :: t_Lw_law_299
abbrev t_Lw_law_297 : List UInt8 := 4 :: t_Lw_law_298
abbrev t_Lw_law_296 : List UInt8 := 29 :: t_Lw_law_297
abbrev t_Lw_law_295 : List UInt8 := 42 :: t_Lw_law_296
abbrev t_Lw_law_294 : List UInt8 := 44 :: t_Lw_law_295
abbrev t_Lw_law_291 : List UInt8 := 182 :: 0 :: 25 :: t_Lw_law_294
abbrev t_Lw_law_290 : List UInt8 := 129 :: t_Lw_law_291
abbrev t_Lw_law_289 : List UInt8 := 127 :: t_Lw_law_290
abbrev t_Lw_law_286 : List UInt8 := 20 :: 0 :: 23 :: t_Lw_law_289
abbrev t_Lw_law_285 : List UInt8 := 133 :: t_Lw_law_286
abbrev t_Lw_law_284 : List UInt8 := 46 :: t_Lw_law_285
abbrev t_Lw_law_283 : List UInt8 := 96 :: t_Lw_law_284
abbrev t_Lw_law_282 : List UInt8 := 7 :: t_Lw_law_283
abbrev t_Lw_law_281 : List UInt8 := 29 :: t_Lw_law_282
abbrev t_Lw_law_280 : List UInt8 := 42 :: t_Lw_law_281
abbrev t_Lw_law_279 : List UInt8 := 121 :: t_Lw_law_280
abbrev t_Lw_law_277 : List UInt8 := 16 :: 32 :: t_Lw_law_279
abbrev t_Lw_law_276 : List UInt8 := 133 :: t_Lw_law_277
abbrev t_Lw_law_275 : List UInt8 := 46 :: t_Lw_law_276
abbrev t_Lw_law_274 : List UInt8 := 96 :: t_Lw_law_275
abbrev t_Lw_law_273 : List UInt8 := 6 :: t_Lw_law_274
abbrev t_Lw_law_272 : List UInt8 := 29 :: t_Lw_law_273
abbrev t_Lw_law_271 : List UInt8 := 42 :: t_Lw_law_272
abbrev t_Lw_law_270 : List UInt8 := 46 :: t_Lw_law_271
abbrev t_Lw_law_269 : List UInt8 := 96 :: t_Lw_law_270
abbrev t_Lw_law_268 : List UInt8 := 5 :: t_Lw_law_269
abbrev t_Lw_law_267 : List UInt8 := 29 :: t_Lw_law_268
abbrev t_Lw_law_266 : List UInt8 := 42 :: t_Lw_law_267
abbrev t_Lw_law_265 : List UInt8 := 46 :: t_Lw_law_266
abbrev t_Lw_law_264 : List UInt8 := 96 :: t_Lw_law_265
abbrev t_Lw_law_263 : List UInt8 := 4 :: t_Lw_law_264
abbrev t_Lw_law_262 : List UInt8 := 29 :: t_Lw_law_263
abbrev t_Lw_law_261 : List UInt8 := 42 :: t_Lw_law_262
abbrev t_Lw_law_260 : List UInt8 := 43 :: t_Lw_law_261
abbrev t_Lw_law_259 : List UInt8 := 172 :: t_Lw_law_260
abbrev t_Lw_law_258 : List UInt8 := 3 :: t_Lw_law_259
abbrev t_Lw_law_255 : List UInt8 := 159 :: 3 :: 185 :: t_Lw_law_258
abbrev t_Lw_law_252 : List UInt8 := 182 :: 0 :: 22 :: t_Lw_law_255
abbrev t_Lw_law_251 : List UInt8 := 46 :: t_Lw_law_252
abbrev t_Lw_law_250 : List UInt8 := 96 :: t_Lw_law_251
abbrev t_Lw_law_249 : List UInt8 := 5 :: t_Lw_law_250
abbrev t_Lw_law_248 : List UInt8 := 29 :: t_Lw_law_249
abbrev t_Lw_law_247 : List UInt8 := 42 :: t_Lw_law_248
abbrev t_Lw_law_246 : List UInt8 := 46 :: t_Lw_law_247
abbrev t_Lw_law_245 : List UInt8 := 96 :: t_Lw_law_246
abbrev t_Lw_law_244 : List UInt8 := 4 :: t_Lw_law_245
abbrev t_Lw_law_243 : List UInt8 := 29 :: t_Lw_law_244
abbrev t_Lw_law_242 : List UInt8 := 42 :: t_Lw_law_243
abbrev t_Lw_law_241 : List UInt8 := 44 :: t_Lw_law_242
abbrev t_Lw_law_238 : List UInt8 := 182 :: 0 :: 18 :: t_Lw_law_241
abbrev t_Lw_law_237 : List UInt8 := 46 :: t_Lw_law_238
abbrev t_Lw_law_236 : List UInt8 := 96 :: t_Lw_law_237
abbrev t_Lw_law_235 : List UInt8 := 5 :: t_Lw_law_236
abbrev t_Lw_law_234 : List UInt8 := 29 :: t_Lw_law_235
abbrev t_Lw_law_233 : List UInt8 := 42 :: t_Lw_law_234
abbrev t_Lw_law_232 : List UInt8 := 46 :: t_Lw_law_233
abbrev t_Lw_law_231 : List UInt8 := 96 :: t_Lw_law_232
abbrev t_Lw_law_230 : List UInt8 := 4 :: t_Lw_law_231
abbrev t_Lw_law_229 : List UInt8 := 29 :: t_Lw_law_230
abbrev t_Lw_law_228 : List UInt8 := 42 :: t_Lw_law_229
abbrev t_Lw_law_227 : List UInt8 := 43 :: t_Lw_law_228
abbrev t_Lw_law_226 : List UInt8 := 172 :: t_Lw_law_227
abbrev t_Lw_law_225 : List UInt8 := 3 :: t_Lw_law_226
abbrev t_Lw_law_222 : List UInt8 := 159 :: 3 :: 218 :: t_Lw_law_225
abbrev t_Lw_law_219 : List UInt8 := 182 :: 0 :: 17 :: t_Lw_law_222
abbrev t_Lw_law_218 : List UInt8 := 46 :: t_Lw_law_219
abbrev t_Lw_law_217 : List UInt8 := 96 :: t_Lw_law_218
abbrev t_Lw_law_216 : List UInt8 := 8 :: t_Lw_law_217
abbrev t_Lw_law_215 : List UInt8 := 29 :: t_Lw_law_216
abbrev t_Lw_law_214 : List UInt8 := 42 :: t_Lw_law_215
abbrev t_Lw_law_213 : List UInt8 := 46 :: t_Lw_law_214
abbrev t_Lw_law_212 : List UInt8 := 96 :: t_Lw_law_213
abbrev t_Lw_law_211 : List UInt8 := 7 :: t_Lw_law_212
abbrev t_Lw_law_210 : List UInt8 := 29 :: t_Lw_law_211
abbrev t_Lw_law_209 : List UInt8 := 42 :: t_Lw_law_210
abbrev t_Lw_law_208 : List UInt8 := 46 :: t_Lw_law_209
abbrev t_Lw_law_207 : List UInt8 := 96 :: t_Lw_law_208
abbrev t_Lw_law_206 : List UInt8 := 6 :: t_Lw_law_207
abbrev t_Lw_law_205 : List UInt8 := 29 :: t_Lw_law_206
abbrev t_Lw_law_204 : List UInt8 := 42 :: t_Lw_law_205
abbrev t_Lw_law_203 : List UInt8 := 46 :: t_Lw_law_204
abbrev t_Lw_law_202 : List UInt8 := 96 :: t_Lw_law_203
abbrev t_Lw_law_201 : List UInt8 := 5 :: t_Lw_law_202
abbrev t_Lw_law_200 : List UInt8 := 29 :: t_Lw_law_201
abbrev t_Lw_law_199 : List UInt8 := 42 :: t_Lw_law_200
abbrev t_Lw_law_198 : List UInt8 := 46 :: t_Lw_law_199
abbrev t_Lw_law_197 : List UInt8 := 96 :: t_Lw_law_198
abbrev t_Lw_law_196 : List UInt8 := 4 :: t_Lw_law_197
abbrev t_Lw_law_195 : List UInt8 := 29 :: t_Lw_law_196
abbrev t_Lw_law_194 : List UInt8 := 42 :: t_Lw_law_195
abbrev t_Lw_law_193 : List UInt8 := 44 :: t_Lw_law_194
abbrev t_Lw_law_190 : List UInt8 := 182 :: 0 :: 13 :: t_Lw_law_193
abbrev t_Lw_law_189 : List UInt8 := 46 :: t_Lw_law_190
abbrev t_Lw_law_188 : List UInt8 := 96 :: t_Lw_law_189
abbrev t_Lw_law_187 : List UInt8 := 8 :: t_Lw_law_188
abbrev t_Lw_law_186 : List UInt8 := 29 :: t_Lw_law_187
abbrev t_Lw_law_185 : List UInt8 := 42 :: t_Lw_law_186
abbrev t_Lw_law_184 : List UInt8 := 46 :: t_Lw_law_185
abbrev t_Lw_law_183 : List UInt8 := 96 :: t_Lw_law_184
abbrev t_Lw_law_182 : List UInt8 := 7 :: t_Lw_law_183
abbrev t_Lw_law_181 : List UInt8 := 29 :: t_Lw_law_182
abbrev t_Lw_law_180 : List UInt8 := 42 :: t_Lw_law_181
abbrev t_Lw_law_179 : List UInt8 := 46 :: t_Lw_law_180
abbrev t_Lw_law_178 : List UInt8 := 96 :: t_Lw_law_179
abbrev t_Lw_law_177 : List UInt8 := 6 :: t_Lw_law_178
abbrev t_Lw_law_176 : List UInt8 := 29 :: t_Lw_law_177
abbrev t_Lw_law_175 : List UInt8 := 42 :: t_Lw_law_176
abbrev t_Lw_law_174 : List UInt8 := 46 :: t_Lw_law_175
abbrev t_Lw_law_173 : List UInt8 := 96 :: t_Lw_law_174
abbrev t_Lw_law_172 : List UInt8 := 5 :: t_Lw_law_173
abbrev t_Lw_law_171 : List UInt8 := 29 :: t_Lw_law_172
abbrev t_Lw_law_170 : List UInt8 := 42 :: t_Lw_law_171
abbrev t_Lw_law_169 : List UInt8 := 46 :: t_Lw_law_170
abbrev t_Lw_law_168 : List UInt8 := 96 :: t_Lw_law_169
abbrev t_Lw_law_167 : List UInt8 := 4 :: t_Lw_law_168
abbrev t_Lw_law_166 : List UInt8 := 29 :: t_Lw_law_167
abbrev t_Lw_law_165 : List UInt8 := 42 :: t_Lw_law_166
abbrev t_Lw_law_164 : List UInt8 := 43 :: t_Lw_law_165
abbrev t_Lw_law_33 : List UInt8 := 170 :: 0 :: 0 :: 0 :: 0 :: 4 :: 151 :: 0 :: 0 :: 0 :: 0 :: 0 :: 0 :: 0 :: 28 :: 0 :: 0 :: 0 :: 131 :: 0 :: 0 :: 0 :: 194 :: 0 :: 0 :: 0 :: 227 :: 0 :: 0 :: 1 :: 44 :: 0 :: 0 :: 1 :: 77 :: 0 :: 0 :: 1 :: 120 :: 0 :: 0 :: 1 :: 153 :: 0 :: 0 :: 1 :: 196 :: 0 :: 0 :: 2 :: 23 :: 0 :: 0 :: 2 :: 86 :: 0 :: 0 :: 2 :: 149 :: 0 :: 0 :: 2 :: 172 :: 0 :: 0 :: 2 :: 185 :: 0 :: 0 :: 2 :: 208 :: 0 :: 0 :: 3 :: 5 :: 0 :: 0 :: 3 :: 44 :: 0 :: 0 :: 3 :: 57 :: 0 :: 0 :: 3 :: 110 :: 0 :: 0 :: 3 :: 133 :: 0 :: 0 :: 3 :: 156 :: 0 :: 0 :: 3 :: 189 :: 0 :: 0 :: 3 :: 202 :: 0 :: 0 :: 3 :: 226 :: 0 :: 0 :: 3 :: 249 :: 0 :: 0 :: 4 :: 26 :: 0 :: 0 :: 4 :: 59 :: 0 :: 0 :: 4 :: 92 :: 0 :: 0 :: 4 :: 115 :: 0 :: 0 :: 4 :: 138 :: t_Lw_law_164
abbrev t_Lw_law_32 : List UInt8 := 126 :: t_Lw_law_33
abbrev t_Lw_law_30 : List UInt8 := 16 :: 31 :: t_Lw_law_32
abbrev t_Lw_law_29 : List UInt8 := 46 :: t_Lw_law_30
abbrev t_Lw_law_28 : List UInt8 := 29 :: t_Lw_law_29
abbrev t_Lw_law_27 : List UInt8 := 42 :: t_Lw_law_28
abbrev t_Lw_law_24 : List UInt8 := 163 :: 4 :: 166 :: t_Lw_law_27
abbrev t_Lw_law_23 : List UInt8 := 100 :: t_Lw_law_24
abbrev t_Lw_law_21 : List UInt8 := 16 :: 6 :: t_Lw_law_23
abbrev t_Lw_law_20 : List UInt8 := 190 :: t_Lw_law_21
abbrev t_Lw_law_19 : List UInt8 := 42 :: t_Lw_law_20
abbrev t_Lw_law_18 : List UInt8 := 29 :: t_Lw_law_19
abbrev t_Lw_law_17 : List UInt8 := 62 :: t_Lw_law_18
abbrev t_Lw_law_16 : List UInt8 := 3 :: t_Lw_law_17
abbrev t_Lw_law_15 : List UInt8 := 77 :: t_Lw_law_16
abbrev t_Lw_law_12 : List UInt8 := 183 :: 0 :: 12 :: t_Lw_law_15
abbrev t_Lw_law_11 : List UInt8 := 89 :: t_Lw_law_12
abbrev t_Lw_law_8 : List UInt8 := 187 :: 0 :: 10 :: t_Lw_law_11
abbrev t_Lw_law_7 : List UInt8 := 76 :: t_Lw_law_8
abbrev t_Lw_law_4 : List UInt8 := 183 :: 0 :: 9 :: t_Lw_law_7
abbrev t_Lw_law_3 : List UInt8 := 89 :: t_Lw_law_4
abbrev t_Lw_law_0 : List UInt8 := 187 :: 0 :: 7 :: t_Lw_law_3
theorem a_Lw_law_0 : dk_at code 0 t_Lw_law_0 := dk_start (by decide +kernel)
theorem a_Lw_law_3 : dk_at code 3 t_Lw_law_3 := dk_go 3 a_Lw_law_0 rfl
theorem a_Lw_law_4 : dk_at code 4 t_Lw_law_4 := dk_go 1 a_Lw_law_3 rfl
theorem a_Lw_law_7 : dk_at code 7 t_Lw_law_7 := dk_go 3 a_Lw_law_4 rfl
theorem a_Lw_law_8 : dk_at code 8 t_Lw_law_8 := dk_go 1 a_Lw_law_7 rfl
theorem a_Lw_law_11 : dk_at code 11 t_Lw_law_11 := dk_go 3 a_Lw_law_8 rfl
theorem a_Lw_law_12 : dk_at code 12 t_Lw_law_12 := dk_go 1 a_Lw_law_11 rfl
theorem a_Lw_law_15 : dk_at code 15 t_Lw_law_15 := dk_go 3 a_Lw_law_12 rfl
theorem a_Lw_law_16 : dk_at code 16 t_Lw_law_16 := dk_go 1 a_Lw_law_15 rfl
theorem a_Lw_law_17 : dk_at code 17 t_Lw_law_17 := dk_go 1 a_Lw_law_16 rfl
theorem a_Lw_law_18 : dk_at code 18 t_Lw_law_18 := dk_go 1 a_Lw_law_17 rfl
theorem a_Lw_law_19 : dk_at code 19 t_Lw_law_19 := dk_go 1 a_Lw_law_18 rfl
theorem a_Lw_law_20 : dk_at code 20 t_Lw_law_20 := dk_go 1 a_Lw_law_19 rfl
theorem a_Lw_law_21 : dk_at code 21 t_Lw_law_21 := dk_go 1 a_Lw_law_20 rfl
theorem a_Lw_law_23 : dk_at code 23 t_Lw_law_23 := dk_go 2 a_Lw_law_21 rfl
theorem a_Lw_law_24 : dk_at code 24 t_Lw_law_24 := dk_go 1 a_Lw_law_23 rfl
theorem a_Lw_law_27 : dk_at code 27 t_Lw_law_27 := dk_go 3 a_Lw_law_24 rfl
theorem a_Lw_law_28 : dk_at code 28 t_Lw_law_28 := dk_go 1 a_Lw_law_27 rfl
theorem a_Lw_law_29 : dk_at code 29 t_Lw_law_29 := dk_go 1 a_Lw_law_28 rfl
theorem a_Lw_law_30 : dk_at code 30 t_Lw_law_30 := dk_go 1 a_Lw_law_29 rfl
theorem a_Lw_law_32 : dk_at code 32 t_Lw_law_32 := dk_go 2 a_Lw_law_30 rfl
theorem a_Lw_law_33 : dk_at code 33 t_Lw_law_33 := dk_go 1 a_Lw_law_32 rfl
theorem a_Lw_law_164 : dk_at code 164 t_Lw_law_164 := dk_go 131 a_Lw_law_33 rfl
theorem a_Lw_law_165 : dk_at code 165 t_Lw_law_165 := dk_go 1 a_Lw_law_164 rfl
theorem a_Lw_law_166 : dk_at code 166 t_Lw_law_166 := dk_go 1 a_Lw_law_165 rfl
theorem a_Lw_law_167 : dk_at code 167 t_Lw_law_167 := dk_go 1 a_Lw_law_166 rfl
theorem a_Lw_law_168 : dk_at code 168 t_Lw_law_168 := dk_go 1 a_Lw_law_167 rfl
theorem a_Lw_law_169 : dk_at code 169 t_Lw_law_169 := dk_go 1 a_Lw_law_168 rfl
theorem a_Lw_law_170 : dk_at code 170 t_Lw_law_170 := dk_go 1 a_Lw_law_169 rfl
theorem a_Lw_law_171 : dk_at code 171 t_Lw_law_171 := dk_go 1 a_Lw_law_170 rfl
theorem a_Lw_law_172 : dk_at code 172 t_Lw_law_172 := dk_go 1 a_Lw_law_171 rfl
theorem a_Lw_law_173 : dk_at code 173 t_Lw_law_173 := dk_go 1 a_Lw_law_172 rfl
theorem a_Lw_law_174 : dk_at code 174 t_Lw_law_174 := dk_go 1 a_Lw_law_173 rfl
theorem a_Lw_law_175 : dk_at code 175 t_Lw_law_175 := dk_go 1 a_Lw_law_174 rfl
theorem a_Lw_law_176 : dk_at code 176 t_Lw_law_176 := dk_go 1 a_Lw_law_175 rfl
theorem a_Lw_law_177 : dk_at code 177 t_Lw_law_177 := dk_go 1 a_Lw_law_176 rfl
theorem a_Lw_law_178 : dk_at code 178 t_Lw_law_178 := dk_go 1 a_Lw_law_177 rfl
theorem a_Lw_law_179 : dk_at code 179 t_Lw_law_179 := dk_go 1 a_Lw_law_178 rfl
theorem a_Lw_law_180 : dk_at code 180 t_Lw_law_180 := dk_go 1 a_Lw_law_179 rfl
theorem a_Lw_law_181 : dk_at code 181 t_Lw_law_181 := dk_go 1 a_Lw_law_180 rfl
theorem a_Lw_law_182 : dk_at code 182 t_Lw_law_182 := dk_go 1 a_Lw_law_181 rfl
theorem a_Lw_law_183 : dk_at code 183 t_Lw_law_183 := dk_go 1 a_Lw_law_182 rfl
theorem a_Lw_law_184 : dk_at code 184 t_Lw_law_184 := dk_go 1 a_Lw_law_183 rfl
theorem a_Lw_law_185 : dk_at code 185 t_Lw_law_185 := dk_go 1 a_Lw_law_184 rfl
theorem a_Lw_law_186 : dk_at code 186 t_Lw_law_186 := dk_go 1 a_Lw_law_185 rfl
theorem a_Lw_law_187 : dk_at code 187 t_Lw_law_187 := dk_go 1 a_Lw_law_186 rfl
theorem a_Lw_law_188 : dk_at code 188 t_Lw_law_188 := dk_go 1 a_Lw_law_187 rfl
theorem a_Lw_law_189 : dk_at code 189 t_Lw_law_189 := dk_go 1 a_Lw_law_188 rfl
theorem a_Lw_law_190 : dk_at code 190 t_Lw_law_190 := dk_go 1 a_Lw_law_189 rfl
theorem a_Lw_law_193 : dk_at code 193 t_Lw_law_193 := dk_go 3 a_Lw_law_190 rfl
theorem a_Lw_law_194 : dk_at code 194 t_Lw_law_194 := dk_go 1 a_Lw_law_193 rfl
theorem a_Lw_law_195 : dk_at code 195 t_Lw_law_195 := dk_go 1 a_Lw_law_194 rfl
theorem a_Lw_law_196 : dk_at code 196 t_Lw_law_196 := dk_go 1 a_Lw_law_195 rfl
theorem a_Lw_law_197 : dk_at code 197 t_Lw_law_197 := dk_go 1 a_Lw_law_196 rfl
theorem a_Lw_law_198 : dk_at code 198 t_Lw_law_198 := dk_go 1 a_Lw_law_197 rfl
theorem a_Lw_law_199 : dk_at code 199 t_Lw_law_199 := dk_go 1 a_Lw_law_198 rfl
theorem a_Lw_law_200 : dk_at code 200 t_Lw_law_200 := dk_go 1 a_Lw_law_199 rfl
theorem a_Lw_law_201 : dk_at code 201 t_Lw_law_201 := dk_go 1 a_Lw_law_200 rfl
theorem a_Lw_law_202 : dk_at code 202 t_Lw_law_202 := dk_go 1 a_Lw_law_201 rfl
theorem a_Lw_law_203 : dk_at code 203 t_Lw_law_203 := dk_go 1 a_Lw_law_202 rfl
theorem a_Lw_law_204 : dk_at code 204 t_Lw_law_204 := dk_go 1 a_Lw_law_203 rfl
theorem a_Lw_law_205 : dk_at code 205 t_Lw_law_205 := dk_go 1 a_Lw_law_204 rfl
theorem a_Lw_law_206 : dk_at code 206 t_Lw_law_206 := dk_go 1 a_Lw_law_205 rfl
theorem a_Lw_law_207 : dk_at code 207 t_Lw_law_207 := dk_go 1 a_Lw_law_206 rfl
theorem a_Lw_law_208 : dk_at code 208 t_Lw_law_208 := dk_go 1 a_Lw_law_207 rfl
theorem a_Lw_law_209 : dk_at code 209 t_Lw_law_209 := dk_go 1 a_Lw_law_208 rfl
theorem a_Lw_law_210 : dk_at code 210 t_Lw_law_210 := dk_go 1 a_Lw_law_209 rfl
theorem a_Lw_law_211 : dk_at code 211 t_Lw_law_211 := dk_go 1 a_Lw_law_210 rfl
theorem a_Lw_law_212 : dk_at code 212 t_Lw_law_212 := dk_go 1 a_Lw_law_211 rfl
theorem a_Lw_law_213 : dk_at code 213 t_Lw_law_213 := dk_go 1 a_Lw_law_212 rfl
theorem a_Lw_law_214 : dk_at code 214 t_Lw_law_214 := dk_go 1 a_Lw_law_213 rfl
theorem a_Lw_law_215 : dk_at code 215 t_Lw_law_215 := dk_go 1 a_Lw_law_214 rfl
theorem a_Lw_law_216 : dk_at code 216 t_Lw_law_216 := dk_go 1 a_Lw_law_215 rfl
theorem a_Lw_law_217 : dk_at code 217 t_Lw_law_217 := dk_go 1 a_Lw_law_216 rfl
theorem a_Lw_law_218 : dk_at code 218 t_Lw_law_218 := dk_go 1 a_Lw_law_217 rfl
theorem a_Lw_law_219 : dk_at code 219 t_Lw_law_219 := dk_go 1 a_Lw_law_218 rfl
theorem a_Lw_law_222 : dk_at code 222 t_Lw_law_222 := dk_go 3 a_Lw_law_219 rfl
theorem a_Lw_law_225 : dk_at code 225 t_Lw_law_225 := dk_go 3 a_Lw_law_222 rfl
theorem a_Lw_law_226 : dk_at code 226 t_Lw_law_226 := dk_go 1 a_Lw_law_225 rfl
theorem a_Lw_law_227 : dk_at code 227 t_Lw_law_227 := dk_go 1 a_Lw_law_226 rfl
theorem a_Lw_law_228 : dk_at code 228 t_Lw_law_228 := dk_go 1 a_Lw_law_227 rfl
theorem a_Lw_law_229 : dk_at code 229 t_Lw_law_229 := dk_go 1 a_Lw_law_228 rfl
theorem a_Lw_law_230 : dk_at code 230 t_Lw_law_230 := dk_go 1 a_Lw_law_229 rfl
theorem a_Lw_law_231 : dk_at code 231 t_Lw_law_231 := dk_go 1 a_Lw_law_230 rfl
theorem a_Lw_law_232 : dk_at code 232 t_Lw_law_232 := dk_go 1 a_Lw_law_231 rfl
theorem a_Lw_law_233 : dk_at code 233 t_Lw_law_233 := dk_go 1 a_Lw_law_232 rfl
theorem a_Lw_law_234 : dk_at code 234 t_Lw_law_234 := dk_go 1 a_Lw_law_233 rfl
theorem a_Lw_law_235 : dk_at code 235 t_Lw_law_235 := dk_go 1 a_Lw_law_234 rfl
theorem a_Lw_law_236 : dk_at code 236 t_Lw_law_236 := dk_go 1 a_Lw_law_235 rfl
theorem a_Lw_law_237 : dk_at code 237 t_Lw_law_237 := dk_go 1 a_Lw_law_236 rfl
theorem a_Lw_law_238 : dk_at code 238 t_Lw_law_238 := dk_go 1 a_Lw_law_237 rfl
theorem a_Lw_law_241 : dk_at code 241 t_Lw_law_241 := dk_go 3 a_Lw_law_238 rfl
theorem a_Lw_law_242 : dk_at code 242 t_Lw_law_242 := dk_go 1 a_Lw_law_241 rfl
theorem a_Lw_law_243 : dk_at code 243 t_Lw_law_243 := dk_go 1 a_Lw_law_242 rfl
theorem a_Lw_law_244 : dk_at code 244 t_Lw_law_244 := dk_go 1 a_Lw_law_243 rfl
theorem a_Lw_law_245 : dk_at code 245 t_Lw_law_245 := dk_go 1 a_Lw_law_244 rfl
theorem a_Lw_law_246 : dk_at code 246 t_Lw_law_246 := dk_go 1 a_Lw_law_245 rfl
theorem a_Lw_law_247 : dk_at code 247 t_Lw_law_247 := dk_go 1 a_Lw_law_246 rfl
theorem a_Lw_law_248 : dk_at code 248 t_Lw_law_248 := dk_go 1 a_Lw_law_247 rfl
theorem a_Lw_law_249 : dk_at code 249 t_Lw_law_249 := dk_go 1 a_Lw_law_248 rfl
theorem a_Lw_law_250 : dk_at code 250 t_Lw_law_250 := dk_go 1 a_Lw_law_249 rfl
theorem a_Lw_law_251 : dk_at code 251 t_Lw_law_251 := dk_go 1 a_Lw_law_250 rfl
theorem a_Lw_law_252 : dk_at code 252 t_Lw_law_252 := dk_go 1 a_Lw_law_251 rfl
theorem a_Lw_law_255 : dk_at code 255 t_Lw_law_255 := dk_go 3 a_Lw_law_252 rfl
theorem a_Lw_law_258 : dk_at code 258 t_Lw_law_258 := dk_go 3 a_Lw_law_255 rfl
theorem a_Lw_law_259 : dk_at code 259 t_Lw_law_259 := dk_go 1 a_Lw_law_258 rfl
theorem a_Lw_law_260 : dk_at code 260 t_Lw_law_260 := dk_go 1 a_Lw_law_259 rfl
theorem a_Lw_law_261 : dk_at code 261 t_Lw_law_261 := dk_go 1 a_Lw_law_260 rfl
theorem a_Lw_law_262 : dk_at code 262 t_Lw_law_262 := dk_go 1 a_Lw_law_261 rfl
theorem a_Lw_law_263 : dk_at code 263 t_Lw_law_263 := dk_go 1 a_Lw_law_262 rfl
theorem a_Lw_law_264 : dk_at code 264 t_Lw_law_264 := dk_go 1 a_Lw_law_263 rfl
theorem a_Lw_law_265 : dk_at code 265 t_Lw_law_265 := dk_go 1 a_Lw_law_264 rfl
theorem a_Lw_law_266 : dk_at code 266 t_Lw_law_266 := dk_go 1 a_Lw_law_265 rfl
theorem a_Lw_law_267 : dk_at code 267 t_Lw_law_267 := dk_go 1 a_Lw_law_266 rfl
theorem a_Lw_law_268 : dk_at code 268 t_Lw_law_268 := dk_go 1 a_Lw_law_267 rfl
theorem a_Lw_law_269 : dk_at code 269 t_Lw_law_269 := dk_go 1 a_Lw_law_268 rfl
theorem a_Lw_law_270 : dk_at code 270 t_Lw_law_270 := dk_go 1 a_Lw_law_269 rfl
theorem a_Lw_law_271 : dk_at code 271 t_Lw_law_271 := dk_go 1 a_Lw_law_270 rfl
theorem a_Lw_law_272 : dk_at code 272 t_Lw_law_272 := dk_go 1 a_Lw_law_271 rfl
theorem a_Lw_law_273 : dk_at code 273 t_Lw_law_273 := dk_go 1 a_Lw_law_272 rfl
theorem a_Lw_law_274 : dk_at code 274 t_Lw_law_274 := dk_go 1 a_Lw_law_273 rfl
theorem a_Lw_law_275 : dk_at code 275 t_Lw_law_275 := dk_go 1 a_Lw_law_274 rfl
theorem a_Lw_law_276 : dk_at code 276 t_Lw_law_276 := dk_go 1 a_Lw_law_275 rfl
theorem a_Lw_law_277 : dk_at code 277 t_Lw_law_277 := dk_go 1 a_Lw_law_276 rfl
theorem a_Lw_law_279 : dk_at code 279 t_Lw_law_279 := dk_go 2 a_Lw_law_277 rfl
theorem a_Lw_law_280 : dk_at code 280 t_Lw_law_280 := dk_go 1 a_Lw_law_279 rfl
theorem a_Lw_law_281 : dk_at code 281 t_Lw_law_281 := dk_go 1 a_Lw_law_280 rfl
theorem a_Lw_law_282 : dk_at code 282 t_Lw_law_282 := dk_go 1 a_Lw_law_281 rfl
theorem a_Lw_law_283 : dk_at code 283 t_Lw_law_283 := dk_go 1 a_Lw_law_282 rfl
theorem a_Lw_law_284 : dk_at code 284 t_Lw_law_284 := dk_go 1 a_Lw_law_283 rfl
theorem a_Lw_law_285 : dk_at code 285 t_Lw_law_285 := dk_go 1 a_Lw_law_284 rfl
theorem a_Lw_law_286 : dk_at code 286 t_Lw_law_286 := dk_go 1 a_Lw_law_285 rfl
theorem a_Lw_law_289 : dk_at code 289 t_Lw_law_289 := dk_go 3 a_Lw_law_286 rfl
theorem a_Lw_law_290 : dk_at code 290 t_Lw_law_290 := dk_go 1 a_Lw_law_289 rfl
theorem a_Lw_law_291 : dk_at code 291 t_Lw_law_291 := dk_go 1 a_Lw_law_290 rfl
theorem a_Lw_law_294 : dk_at code 294 t_Lw_law_294 := dk_go 3 a_Lw_law_291 rfl
theorem a_Lw_law_295 : dk_at code 295 t_Lw_law_295 := dk_go 1 a_Lw_law_294 rfl
theorem a_Lw_law_296 : dk_at code 296 t_Lw_law_296 := dk_go 1 a_Lw_law_295 rfl
theorem a_Lw_law_297 : dk_at code 297 t_Lw_law_297 := dk_go 1 a_Lw_law_296 rfl
theorem a_Lw_law_298 : dk_at code 298 t_Lw_law_298 := dk_go 1 a_Lw_law_297 rfl
theorem a_Lw_law_299 : dk_at code 299 t_Lw_law_299 := dk_go 1 a_Lw_law_298 rfl
theorem a_Lw_law_300 : dk_at code 300 t_Lw_law_300 := dk_go 1 a_Lw_law_299 rfl
theorem a_Lw_law_301 : dk_at code 301 t_Lw_law_301 := dk_go 1 a_Lw_law_300 rfl
theorem a_Lw_law_302 : dk_at code 302 t_Lw_law_302 := dk_go 1 a_Lw_law_301 rfl
theorem a_Lw_law_303 : dk_at code 303 t_Lw_law_303 := dk_go 1 a_Lw_law_302 rfl
theorem a_Lw_law_304 : dk_at code 304 t_Lw_law_304 := dk_go 1 a_Lw_law_303 rfl
theorem a_Lw_law_305 : dk_at code 305 t_Lw_law_305 := dk_go 1 a_Lw_law_304 rfl
theorem a_Lw_law_306 : dk_at code 306 t_Lw_law_306 := dk_go 1 a_Lw_law_305 rfl
theorem a_Lw_law_307 : dk_at code 307 t_Lw_law_307 := dk_go 1 a_Lw_law_306 rfl
theorem a_Lw_law_308 : dk_at code 308 t_Lw_law_308 := dk_go 1 a_Lw_law_307 rfl
theorem a_Lw_law_309 : dk_at code 309 t_Lw_law_309 := dk_go 1 a_Lw_law_308 rfl
theorem a_Lw_law_310 : dk_at code 310 t_Lw_law_310 := dk_go 1 a_Lw_law_309 rfl
theorem a_Lw_law_311 : dk_at code 311 t_Lw_law_311 := dk_go 1 a_Lw_law_310 rfl
theorem a_Lw_law_313 : dk_at code 313 t_Lw_law_313 := dk_go 2 a_Lw_law_311 rfl
theorem a_Lw_law_314 : dk_at code 314 t_Lw_law_314 := dk_go 1 a_Lw_law_313 rfl
theorem a_Lw_law_315 : dk_at code 315 t_Lw_law_315 := dk_go 1 a_Lw_law_314 rfl
theorem a_Lw_law_316 : dk_at code 316 t_Lw_law_316 := dk_go 1 a_Lw_law_315 rfl
theorem a_Lw_law_317 : dk_at code 317 t_Lw_law_317 := dk_go 1 a_Lw_law_316 rfl
theorem a_Lw_law_318 : dk_at code 318 t_Lw_law_318 := dk_go 1 a_Lw_law_317 rfl
theorem a_Lw_law_319 : dk_at code 319 t_Lw_law_319 := dk_go 1 a_Lw_law_318 rfl
theorem a_Lw_law_320 : dk_at code 320 t_Lw_law_320 := dk_go 1 a_Lw_law_319 rfl
theorem a_Lw_law_323 : dk_at code 323 t_Lw_law_323 := dk_go 3 a_Lw_law_320 rfl
theorem a_Lw_law_324 : dk_at code 324 t_Lw_law_324 := dk_go 1 a_Lw_law_323 rfl
theorem a_Lw_law_325 : dk_at code 325 t_Lw_law_325 := dk_go 1 a_Lw_law_324 rfl
theorem a_Lw_law_328 : dk_at code 328 t_Lw_law_328 := dk_go 3 a_Lw_law_325 rfl
theorem a_Lw_law_331 : dk_at code 331 t_Lw_law_331 := dk_go 3 a_Lw_law_328 rfl
theorem a_Lw_law_332 : dk_at code 332 t_Lw_law_332 := dk_go 1 a_Lw_law_331 rfl
theorem a_Lw_law_333 : dk_at code 333 t_Lw_law_333 := dk_go 1 a_Lw_law_332 rfl
theorem a_Lw_law_334 : dk_at code 334 t_Lw_law_334 := dk_go 1 a_Lw_law_333 rfl
theorem a_Lw_law_335 : dk_at code 335 t_Lw_law_335 := dk_go 1 a_Lw_law_334 rfl
theorem a_Lw_law_336 : dk_at code 336 t_Lw_law_336 := dk_go 1 a_Lw_law_335 rfl
theorem a_Lw_law_337 : dk_at code 337 t_Lw_law_337 := dk_go 1 a_Lw_law_336 rfl
theorem a_Lw_law_338 : dk_at code 338 t_Lw_law_338 := dk_go 1 a_Lw_law_337 rfl
theorem a_Lw_law_339 : dk_at code 339 t_Lw_law_339 := dk_go 1 a_Lw_law_338 rfl
theorem a_Lw_law_340 : dk_at code 340 t_Lw_law_340 := dk_go 1 a_Lw_law_339 rfl
theorem a_Lw_law_341 : dk_at code 341 t_Lw_law_341 := dk_go 1 a_Lw_law_340 rfl
theorem a_Lw_law_342 : dk_at code 342 t_Lw_law_342 := dk_go 1 a_Lw_law_341 rfl
theorem a_Lw_law_343 : dk_at code 343 t_Lw_law_343 := dk_go 1 a_Lw_law_342 rfl
theorem a_Lw_law_344 : dk_at code 344 t_Lw_law_344 := dk_go 1 a_Lw_law_343 rfl
theorem a_Lw_law_347 : dk_at code 347 t_Lw_law_347 := dk_go 3 a_Lw_law_344 rfl
theorem a_Lw_law_348 : dk_at code 348 t_Lw_law_348 := dk_go 1 a_Lw_law_347 rfl
theorem a_Lw_law_349 : dk_at code 349 t_Lw_law_349 := dk_go 1 a_Lw_law_348 rfl
theorem a_Lw_law_350 : dk_at code 350 t_Lw_law_350 := dk_go 1 a_Lw_law_349 rfl
theorem a_Lw_law_351 : dk_at code 351 t_Lw_law_351 := dk_go 1 a_Lw_law_350 rfl
theorem a_Lw_law_352 : dk_at code 352 t_Lw_law_352 := dk_go 1 a_Lw_law_351 rfl
theorem a_Lw_law_353 : dk_at code 353 t_Lw_law_353 := dk_go 1 a_Lw_law_352 rfl
theorem a_Lw_law_354 : dk_at code 354 t_Lw_law_354 := dk_go 1 a_Lw_law_353 rfl
theorem a_Lw_law_355 : dk_at code 355 t_Lw_law_355 := dk_go 1 a_Lw_law_354 rfl
theorem a_Lw_law_356 : dk_at code 356 t_Lw_law_356 := dk_go 1 a_Lw_law_355 rfl
theorem a_Lw_law_357 : dk_at code 357 t_Lw_law_357 := dk_go 1 a_Lw_law_356 rfl
theorem a_Lw_law_358 : dk_at code 358 t_Lw_law_358 := dk_go 1 a_Lw_law_357 rfl
theorem a_Lw_law_361 : dk_at code 361 t_Lw_law_361 := dk_go 3 a_Lw_law_358 rfl
theorem a_Lw_law_364 : dk_at code 364 t_Lw_law_364 := dk_go 3 a_Lw_law_361 rfl
theorem a_Lw_law_365 : dk_at code 365 t_Lw_law_365 := dk_go 1 a_Lw_law_364 rfl
theorem a_Lw_law_366 : dk_at code 366 t_Lw_law_366 := dk_go 1 a_Lw_law_365 rfl
theorem a_Lw_law_367 : dk_at code 367 t_Lw_law_367 := dk_go 1 a_Lw_law_366 rfl
theorem a_Lw_law_368 : dk_at code 368 t_Lw_law_368 := dk_go 1 a_Lw_law_367 rfl
theorem a_Lw_law_369 : dk_at code 369 t_Lw_law_369 := dk_go 1 a_Lw_law_368 rfl
theorem a_Lw_law_370 : dk_at code 370 t_Lw_law_370 := dk_go 1 a_Lw_law_369 rfl
theorem a_Lw_law_371 : dk_at code 371 t_Lw_law_371 := dk_go 1 a_Lw_law_370 rfl
theorem a_Lw_law_372 : dk_at code 372 t_Lw_law_372 := dk_go 1 a_Lw_law_371 rfl
theorem a_Lw_law_373 : dk_at code 373 t_Lw_law_373 := dk_go 1 a_Lw_law_372 rfl
theorem a_Lw_law_374 : dk_at code 374 t_Lw_law_374 := dk_go 1 a_Lw_law_373 rfl
theorem a_Lw_law_375 : dk_at code 375 t_Lw_law_375 := dk_go 1 a_Lw_law_374 rfl
theorem a_Lw_law_376 : dk_at code 376 t_Lw_law_376 := dk_go 1 a_Lw_law_375 rfl
theorem a_Lw_law_377 : dk_at code 377 t_Lw_law_377 := dk_go 1 a_Lw_law_376 rfl
theorem a_Lw_law_378 : dk_at code 378 t_Lw_law_378 := dk_go 1 a_Lw_law_377 rfl
theorem a_Lw_law_379 : dk_at code 379 t_Lw_law_379 := dk_go 1 a_Lw_law_378 rfl
theorem a_Lw_law_380 : dk_at code 380 t_Lw_law_380 := dk_go 1 a_Lw_law_379 rfl
theorem a_Lw_law_381 : dk_at code 381 t_Lw_law_381 := dk_go 1 a_Lw_law_380 rfl
theorem a_Lw_law_382 : dk_at code 382 t_Lw_law_382 := dk_go 1 a_Lw_law_381 rfl
theorem a_Lw_law_385 : dk_at code 385 t_Lw_law_385 := dk_go 3 a_Lw_law_382 rfl
theorem a_Lw_law_386 : dk_at code 386 t_Lw_law_386 := dk_go 1 a_Lw_law_385 rfl
theorem a_Lw_law_387 : dk_at code 387 t_Lw_law_387 := dk_go 1 a_Lw_law_386 rfl
theorem a_Lw_law_388 : dk_at code 388 t_Lw_law_388 := dk_go 1 a_Lw_law_387 rfl
theorem a_Lw_law_389 : dk_at code 389 t_Lw_law_389 := dk_go 1 a_Lw_law_388 rfl
theorem a_Lw_law_390 : dk_at code 390 t_Lw_law_390 := dk_go 1 a_Lw_law_389 rfl
theorem a_Lw_law_391 : dk_at code 391 t_Lw_law_391 := dk_go 1 a_Lw_law_390 rfl
theorem a_Lw_law_392 : dk_at code 392 t_Lw_law_392 := dk_go 1 a_Lw_law_391 rfl
theorem a_Lw_law_393 : dk_at code 393 t_Lw_law_393 := dk_go 1 a_Lw_law_392 rfl
theorem a_Lw_law_394 : dk_at code 394 t_Lw_law_394 := dk_go 1 a_Lw_law_393 rfl
theorem a_Lw_law_395 : dk_at code 395 t_Lw_law_395 := dk_go 1 a_Lw_law_394 rfl
theorem a_Lw_law_396 : dk_at code 396 t_Lw_law_396 := dk_go 1 a_Lw_law_395 rfl
theorem a_Lw_law_397 : dk_at code 397 t_Lw_law_397 := dk_go 1 a_Lw_law_396 rfl
theorem a_Lw_law_398 : dk_at code 398 t_Lw_law_398 := dk_go 1 a_Lw_law_397 rfl
theorem a_Lw_law_399 : dk_at code 399 t_Lw_law_399 := dk_go 1 a_Lw_law_398 rfl
theorem a_Lw_law_400 : dk_at code 400 t_Lw_law_400 := dk_go 1 a_Lw_law_399 rfl
theorem a_Lw_law_401 : dk_at code 401 t_Lw_law_401 := dk_go 1 a_Lw_law_400 rfl
theorem a_Lw_law_404 : dk_at code 404 t_Lw_law_404 := dk_go 3 a_Lw_law_401 rfl
theorem a_Lw_law_407 : dk_at code 407 t_Lw_law_407 := dk_go 3 a_Lw_law_404 rfl
theorem a_Lw_law_408 : dk_at code 408 t_Lw_law_408 := dk_go 1 a_Lw_law_407 rfl
theorem a_Lw_law_409 : dk_at code 409 t_Lw_law_409 := dk_go 1 a_Lw_law_408 rfl
theorem a_Lw_law_410 : dk_at code 410 t_Lw_law_410 := dk_go 1 a_Lw_law_409 rfl
theorem a_Lw_law_411 : dk_at code 411 t_Lw_law_411 := dk_go 1 a_Lw_law_410 rfl
theorem a_Lw_law_412 : dk_at code 412 t_Lw_law_412 := dk_go 1 a_Lw_law_411 rfl
theorem a_Lw_law_413 : dk_at code 413 t_Lw_law_413 := dk_go 1 a_Lw_law_412 rfl
theorem a_Lw_law_414 : dk_at code 414 t_Lw_law_414 := dk_go 1 a_Lw_law_413 rfl
theorem a_Lw_law_415 : dk_at code 415 t_Lw_law_415 := dk_go 1 a_Lw_law_414 rfl
theorem a_Lw_law_416 : dk_at code 416 t_Lw_law_416 := dk_go 1 a_Lw_law_415 rfl
theorem a_Lw_law_417 : dk_at code 417 t_Lw_law_417 := dk_go 1 a_Lw_law_416 rfl
theorem a_Lw_law_418 : dk_at code 418 t_Lw_law_418 := dk_go 1 a_Lw_law_417 rfl
theorem a_Lw_law_419 : dk_at code 419 t_Lw_law_419 := dk_go 1 a_Lw_law_418 rfl
theorem a_Lw_law_420 : dk_at code 420 t_Lw_law_420 := dk_go 1 a_Lw_law_419 rfl
theorem a_Lw_law_423 : dk_at code 423 t_Lw_law_423 := dk_go 3 a_Lw_law_420 rfl
theorem a_Lw_law_424 : dk_at code 424 t_Lw_law_424 := dk_go 1 a_Lw_law_423 rfl
theorem a_Lw_law_425 : dk_at code 425 t_Lw_law_425 := dk_go 1 a_Lw_law_424 rfl
theorem a_Lw_law_426 : dk_at code 426 t_Lw_law_426 := dk_go 1 a_Lw_law_425 rfl
theorem a_Lw_law_427 : dk_at code 427 t_Lw_law_427 := dk_go 1 a_Lw_law_426 rfl
theorem a_Lw_law_428 : dk_at code 428 t_Lw_law_428 := dk_go 1 a_Lw_law_427 rfl
theorem a_Lw_law_429 : dk_at code 429 t_Lw_law_429 := dk_go 1 a_Lw_law_428 rfl
theorem a_Lw_law_430 : dk_at code 430 t_Lw_law_430 := dk_go 1 a_Lw_law_429 rfl
theorem a_Lw_law_431 : dk_at code 431 t_Lw_law_431 := dk_go 1 a_Lw_law_430 rfl
theorem a_Lw_law_432 : dk_at code 432 t_Lw_law_432 := dk_go 1 a_Lw_law_431 rfl
theorem a_Lw_law_433 : dk_at code 433 t_Lw_law_433 := dk_go 1 a_Lw_law_432 rfl
theorem a_Lw_law_434 : dk_at code 434 t_Lw_law_434 := dk_go 1 a_Lw_law_433 rfl
theorem a_Lw_law_437 : dk_at code 437 t_Lw_law_437 := dk_go 3 a_Lw_law_434 rfl
theorem a_Lw_law_440 : dk_at code 440 t_Lw_law_440 := dk_go 3 a_Lw_law_437 rfl
theorem a_Lw_law_441 : dk_at code 441 t_Lw_law_441 := dk_go 1 a_Lw_law_440 rfl
theorem a_Lw_law_442 : dk_at code 442 t_Lw_law_442 := dk_go 1 a_Lw_law_441 rfl
theorem a_Lw_law_443 : dk_at code 443 t_Lw_law_443 := dk_go 1 a_Lw_law_442 rfl
theorem a_Lw_law_444 : dk_at code 444 t_Lw_law_444 := dk_go 1 a_Lw_law_443 rfl
theorem a_Lw_law_445 : dk_at code 445 t_Lw_law_445 := dk_go 1 a_Lw_law_444 rfl
theorem a_Lw_law_446 : dk_at code 446 t_Lw_law_446 := dk_go 1 a_Lw_law_445 rfl
theorem a_Lw_law_447 : dk_at code 447 t_Lw_law_447 := dk_go 1 a_Lw_law_446 rfl
theorem a_Lw_law_448 : dk_at code 448 t_Lw_law_448 := dk_go 1 a_Lw_law_447 rfl
theorem a_Lw_law_449 : dk_at code 449 t_Lw_law_449 := dk_go 1 a_Lw_law_448 rfl
theorem a_Lw_law_450 : dk_at code 450 t_Lw_law_450 := dk_go 1 a_Lw_law_449 rfl
theorem a_Lw_law_451 : dk_at code 451 t_Lw_law_451 := dk_go 1 a_Lw_law_450 rfl
theorem a_Lw_law_452 : dk_at code 452 t_Lw_law_452 := dk_go 1 a_Lw_law_451 rfl
theorem a_Lw_law_453 : dk_at code 453 t_Lw_law_453 := dk_go 1 a_Lw_law_452 rfl
theorem a_Lw_law_454 : dk_at code 454 t_Lw_law_454 := dk_go 1 a_Lw_law_453 rfl
theorem a_Lw_law_455 : dk_at code 455 t_Lw_law_455 := dk_go 1 a_Lw_law_454 rfl
theorem a_Lw_law_456 : dk_at code 456 t_Lw_law_456 := dk_go 1 a_Lw_law_455 rfl
theorem a_Lw_law_457 : dk_at code 457 t_Lw_law_457 := dk_go 1 a_Lw_law_456 rfl
theorem a_Lw_law_458 : dk_at code 458 t_Lw_law_458 := dk_go 1 a_Lw_law_457 rfl
theorem a_Lw_law_461 : dk_at code 461 t_Lw_law_461 := dk_go 3 a_Lw_law_458 rfl
theorem a_Lw_law_462 : dk_at code 462 t_Lw_law_462 := dk_go 1 a_Lw_law_461 rfl
theorem a_Lw_law_463 : dk_at code 463 t_Lw_law_463 := dk_go 1 a_Lw_law_462 rfl
theorem a_Lw_law_464 : dk_at code 464 t_Lw_law_464 := dk_go 1 a_Lw_law_463 rfl
theorem a_Lw_law_465 : dk_at code 465 t_Lw_law_465 := dk_go 1 a_Lw_law_464 rfl
theorem a_Lw_law_466 : dk_at code 466 t_Lw_law_466 := dk_go 1 a_Lw_law_465 rfl
theorem a_Lw_law_467 : dk_at code 467 t_Lw_law_467 := dk_go 1 a_Lw_law_466 rfl
theorem a_Lw_law_468 : dk_at code 468 t_Lw_law_468 := dk_go 1 a_Lw_law_467 rfl
theorem a_Lw_law_469 : dk_at code 469 t_Lw_law_469 := dk_go 1 a_Lw_law_468 rfl
theorem a_Lw_law_470 : dk_at code 470 t_Lw_law_470 := dk_go 1 a_Lw_law_469 rfl
theorem a_Lw_law_471 : dk_at code 471 t_Lw_law_471 := dk_go 1 a_Lw_law_470 rfl
theorem a_Lw_law_472 : dk_at code 472 t_Lw_law_472 := dk_go 1 a_Lw_law_471 rfl
theorem a_Lw_law_473 : dk_at code 473 t_Lw_law_473 := dk_go 1 a_Lw_law_472 rfl
theorem a_Lw_law_474 : dk_at code 474 t_Lw_law_474 := dk_go 1 a_Lw_law_473 rfl
theorem a_Lw_law_475 : dk_at code 475 t_Lw_law_475 := dk_go 1 a_Lw_law_474 rfl
theorem a_Lw_law_476 : dk_at code 476 t_Lw_law_476 := dk_go 1 a_Lw_law_475 rfl
theorem a_Lw_law_477 : dk_at code 477 t_Lw_law_477 := dk_go 1 a_Lw_law_476 rfl
theorem a_Lw_law_480 : dk_at code 480 t_Lw_law_480 := dk_go 3 a_Lw_law_477 rfl
theorem a_Lw_law_483 : dk_at code 483 t_Lw_law_483 := dk_go 3 a_Lw_law_480 rfl
theorem a_Lw_law_484 : dk_at code 484 t_Lw_law_484 := dk_go 1 a_Lw_law_483 rfl
theorem a_Lw_law_485 : dk_at code 485 t_Lw_law_485 := dk_go 1 a_Lw_law_484 rfl
theorem a_Lw_law_486 : dk_at code 486 t_Lw_law_486 := dk_go 1 a_Lw_law_485 rfl
theorem a_Lw_law_487 : dk_at code 487 t_Lw_law_487 := dk_go 1 a_Lw_law_486 rfl
theorem a_Lw_law_488 : dk_at code 488 t_Lw_law_488 := dk_go 1 a_Lw_law_487 rfl
theorem a_Lw_law_489 : dk_at code 489 t_Lw_law_489 := dk_go 1 a_Lw_law_488 rfl
theorem a_Lw_law_490 : dk_at code 490 t_Lw_law_490 := dk_go 1 a_Lw_law_489 rfl
theorem a_Lw_law_491 : dk_at code 491 t_Lw_law_491 := dk_go 1 a_Lw_law_490 rfl
theorem a_Lw_law_492 : dk_at code 492 t_Lw_law_492 := dk_go 1 a_Lw_law_491 rfl
theorem a_Lw_law_493 : dk_at code 493 t_Lw_law_493 := dk_go 1 a_Lw_law_492 rfl
theorem a_Lw_law_494 : dk_at code 494 t_Lw_law_494 := dk_go 1 a_Lw_law_493 rfl
theorem a_Lw_law_495 : dk_at code 495 t_Lw_law_495 := dk_go 1 a_Lw_law_494 rfl
theorem a_Lw_law_496 : dk_at code 496 t_Lw_law_496 := dk_go 1 a_Lw_law_495 rfl
theorem a_Lw_law_497 : dk_at code 497 t_Lw_law_497 := dk_go 1 a_Lw_law_496 rfl
theorem a_Lw_law_498 : dk_at code 498 t_Lw_law_498 := dk_go 1 a_Lw_law_497 rfl
theorem a_Lw_law_499 : dk_at code 499 t_Lw_law_499 := dk_go 1 a_Lw_law_498 rfl
theorem a_Lw_law_500 : dk_at code 500 t_Lw_law_500 := dk_go 1 a_Lw_law_499 rfl
theorem a_Lw_law_501 : dk_at code 501 t_Lw_law_501 := dk_go 1 a_Lw_law_500 rfl
theorem a_Lw_law_502 : dk_at code 502 t_Lw_law_502 := dk_go 1 a_Lw_law_501 rfl
theorem a_Lw_law_503 : dk_at code 503 t_Lw_law_503 := dk_go 1 a_Lw_law_502 rfl
theorem a_Lw_law_504 : dk_at code 504 t_Lw_law_504 := dk_go 1 a_Lw_law_503 rfl
theorem a_Lw_law_505 : dk_at code 505 t_Lw_law_505 := dk_go 1 a_Lw_law_504 rfl
theorem a_Lw_law_506 : dk_at code 506 t_Lw_law_506 := dk_go 1 a_Lw_law_505 rfl
theorem a_Lw_law_507 : dk_at code 507 t_Lw_law_507 := dk_go 1 a_Lw_law_506 rfl
theorem a_Lw_law_509 : dk_at code 509 t_Lw_law_509 := dk_go 2 a_Lw_law_507 rfl
theorem a_Lw_law_510 : dk_at code 510 t_Lw_law_510 := dk_go 1 a_Lw_law_509 rfl
theorem a_Lw_law_511 : dk_at code 511 t_Lw_law_511 := dk_go 1 a_Lw_law_510 rfl
theorem a_Lw_law_512 : dk_at code 512 t_Lw_law_512 := dk_go 1 a_Lw_law_511 rfl
theorem a_Lw_law_513 : dk_at code 513 t_Lw_law_513 := dk_go 1 a_Lw_law_512 rfl
theorem a_Lw_law_514 : dk_at code 514 t_Lw_law_514 := dk_go 1 a_Lw_law_513 rfl
theorem a_Lw_law_515 : dk_at code 515 t_Lw_law_515 := dk_go 1 a_Lw_law_514 rfl
theorem a_Lw_law_516 : dk_at code 516 t_Lw_law_516 := dk_go 1 a_Lw_law_515 rfl
theorem a_Lw_law_519 : dk_at code 519 t_Lw_law_519 := dk_go 3 a_Lw_law_516 rfl
theorem a_Lw_law_520 : dk_at code 520 t_Lw_law_520 := dk_go 1 a_Lw_law_519 rfl
theorem a_Lw_law_521 : dk_at code 521 t_Lw_law_521 := dk_go 1 a_Lw_law_520 rfl
theorem a_Lw_law_524 : dk_at code 524 t_Lw_law_524 := dk_go 3 a_Lw_law_521 rfl
theorem a_Lw_law_525 : dk_at code 525 t_Lw_law_525 := dk_go 1 a_Lw_law_524 rfl
theorem a_Lw_law_526 : dk_at code 526 t_Lw_law_526 := dk_go 1 a_Lw_law_525 rfl
theorem a_Lw_law_527 : dk_at code 527 t_Lw_law_527 := dk_go 1 a_Lw_law_526 rfl
theorem a_Lw_law_528 : dk_at code 528 t_Lw_law_528 := dk_go 1 a_Lw_law_527 rfl
theorem a_Lw_law_529 : dk_at code 529 t_Lw_law_529 := dk_go 1 a_Lw_law_528 rfl
theorem a_Lw_law_530 : dk_at code 530 t_Lw_law_530 := dk_go 1 a_Lw_law_529 rfl
theorem a_Lw_law_531 : dk_at code 531 t_Lw_law_531 := dk_go 1 a_Lw_law_530 rfl
theorem a_Lw_law_532 : dk_at code 532 t_Lw_law_532 := dk_go 1 a_Lw_law_531 rfl
theorem a_Lw_law_533 : dk_at code 533 t_Lw_law_533 := dk_go 1 a_Lw_law_532 rfl
theorem a_Lw_law_534 : dk_at code 534 t_Lw_law_534 := dk_go 1 a_Lw_law_533 rfl
theorem a_Lw_law_535 : dk_at code 535 t_Lw_law_535 := dk_go 1 a_Lw_law_534 rfl
theorem a_Lw_law_536 : dk_at code 536 t_Lw_law_536 := dk_go 1 a_Lw_law_535 rfl
theorem a_Lw_law_537 : dk_at code 537 t_Lw_law_537 := dk_go 1 a_Lw_law_536 rfl
theorem a_Lw_law_538 : dk_at code 538 t_Lw_law_538 := dk_go 1 a_Lw_law_537 rfl
theorem a_Lw_law_539 : dk_at code 539 t_Lw_law_539 := dk_go 1 a_Lw_law_538 rfl
theorem a_Lw_law_540 : dk_at code 540 t_Lw_law_540 := dk_go 1 a_Lw_law_539 rfl
theorem a_Lw_law_541 : dk_at code 541 t_Lw_law_541 := dk_go 1 a_Lw_law_540 rfl
theorem a_Lw_law_542 : dk_at code 542 t_Lw_law_542 := dk_go 1 a_Lw_law_541 rfl
theorem a_Lw_law_543 : dk_at code 543 t_Lw_law_543 := dk_go 1 a_Lw_law_542 rfl
theorem a_Lw_law_544 : dk_at code 544 t_Lw_law_544 := dk_go 1 a_Lw_law_543 rfl
theorem a_Lw_law_545 : dk_at code 545 t_Lw_law_545 := dk_go 1 a_Lw_law_544 rfl
theorem a_Lw_law_546 : dk_at code 546 t_Lw_law_546 := dk_go 1 a_Lw_law_545 rfl
theorem a_Lw_law_548 : dk_at code 548 t_Lw_law_548 := dk_go 2 a_Lw_law_546 rfl
theorem a_Lw_law_549 : dk_at code 549 t_Lw_law_549 := dk_go 1 a_Lw_law_548 rfl
theorem a_Lw_law_550 : dk_at code 550 t_Lw_law_550 := dk_go 1 a_Lw_law_549 rfl
theorem a_Lw_law_551 : dk_at code 551 t_Lw_law_551 := dk_go 1 a_Lw_law_550 rfl
theorem a_Lw_law_552 : dk_at code 552 t_Lw_law_552 := dk_go 1 a_Lw_law_551 rfl
theorem a_Lw_law_553 : dk_at code 553 t_Lw_law_553 := dk_go 1 a_Lw_law_552 rfl
theorem a_Lw_law_554 : dk_at code 554 t_Lw_law_554 := dk_go 1 a_Lw_law_553 rfl
theorem a_Lw_law_555 : dk_at code 555 t_Lw_law_555 := dk_go 1 a_Lw_law_554 rfl
theorem a_Lw_law_558 : dk_at code 558 t_Lw_law_558 := dk_go 3 a_Lw_law_555 rfl
theorem a_Lw_law_559 : dk_at code 559 t_Lw_law_559 := dk_go 1 a_Lw_law_558 rfl
theorem a_Lw_law_560 : dk_at code 560 t_Lw_law_560 := dk_go 1 a_Lw_law_559 rfl
theorem a_Lw_law_563 : dk_at code 563 t_Lw_law_563 := dk_go 3 a_Lw_law_560 rfl
theorem a_Lw_law_566 : dk_at code 566 t_Lw_law_566 := dk_go 3 a_Lw_law_563 rfl
theorem a_Lw_law_567 : dk_at code 567 t_Lw_law_567 := dk_go 1 a_Lw_law_566 rfl
theorem a_Lw_law_568 : dk_at code 568 t_Lw_law_568 := dk_go 1 a_Lw_law_567 rfl
theorem a_Lw_law_569 : dk_at code 569 t_Lw_law_569 := dk_go 1 a_Lw_law_568 rfl
theorem a_Lw_law_570 : dk_at code 570 t_Lw_law_570 := dk_go 1 a_Lw_law_569 rfl
theorem a_Lw_law_571 : dk_at code 571 t_Lw_law_571 := dk_go 1 a_Lw_law_570 rfl
theorem a_Lw_law_572 : dk_at code 572 t_Lw_law_572 := dk_go 1 a_Lw_law_571 rfl
theorem a_Lw_law_573 : dk_at code 573 t_Lw_law_573 := dk_go 1 a_Lw_law_572 rfl
theorem a_Lw_law_574 : dk_at code 574 t_Lw_law_574 := dk_go 1 a_Lw_law_573 rfl
theorem a_Lw_law_575 : dk_at code 575 t_Lw_law_575 := dk_go 1 a_Lw_law_574 rfl
theorem a_Lw_law_576 : dk_at code 576 t_Lw_law_576 := dk_go 1 a_Lw_law_575 rfl
theorem a_Lw_law_577 : dk_at code 577 t_Lw_law_577 := dk_go 1 a_Lw_law_576 rfl
theorem a_Lw_law_578 : dk_at code 578 t_Lw_law_578 := dk_go 1 a_Lw_law_577 rfl
theorem a_Lw_law_579 : dk_at code 579 t_Lw_law_579 := dk_go 1 a_Lw_law_578 rfl
theorem a_Lw_law_580 : dk_at code 580 t_Lw_law_580 := dk_go 1 a_Lw_law_579 rfl
theorem a_Lw_law_582 : dk_at code 582 t_Lw_law_582 := dk_go 2 a_Lw_law_580 rfl
theorem a_Lw_law_583 : dk_at code 583 t_Lw_law_583 := dk_go 1 a_Lw_law_582 rfl
theorem a_Lw_law_584 : dk_at code 584 t_Lw_law_584 := dk_go 1 a_Lw_law_583 rfl
theorem a_Lw_law_585 : dk_at code 585 t_Lw_law_585 := dk_go 1 a_Lw_law_584 rfl
theorem a_Lw_law_586 : dk_at code 586 t_Lw_law_586 := dk_go 1 a_Lw_law_585 rfl
theorem a_Lw_law_587 : dk_at code 587 t_Lw_law_587 := dk_go 1 a_Lw_law_586 rfl
theorem a_Lw_law_588 : dk_at code 588 t_Lw_law_588 := dk_go 1 a_Lw_law_587 rfl
theorem a_Lw_law_589 : dk_at code 589 t_Lw_law_589 := dk_go 1 a_Lw_law_588 rfl
theorem a_Lw_law_592 : dk_at code 592 t_Lw_law_592 := dk_go 3 a_Lw_law_589 rfl
theorem a_Lw_law_593 : dk_at code 593 t_Lw_law_593 := dk_go 1 a_Lw_law_592 rfl
theorem a_Lw_law_594 : dk_at code 594 t_Lw_law_594 := dk_go 1 a_Lw_law_593 rfl
theorem a_Lw_law_597 : dk_at code 597 t_Lw_law_597 := dk_go 3 a_Lw_law_594 rfl
theorem a_Lw_law_598 : dk_at code 598 t_Lw_law_598 := dk_go 1 a_Lw_law_597 rfl
theorem a_Lw_law_599 : dk_at code 599 t_Lw_law_599 := dk_go 1 a_Lw_law_598 rfl
theorem a_Lw_law_600 : dk_at code 600 t_Lw_law_600 := dk_go 1 a_Lw_law_599 rfl
theorem a_Lw_law_601 : dk_at code 601 t_Lw_law_601 := dk_go 1 a_Lw_law_600 rfl
theorem a_Lw_law_602 : dk_at code 602 t_Lw_law_602 := dk_go 1 a_Lw_law_601 rfl
theorem a_Lw_law_603 : dk_at code 603 t_Lw_law_603 := dk_go 1 a_Lw_law_602 rfl
theorem a_Lw_law_604 : dk_at code 604 t_Lw_law_604 := dk_go 1 a_Lw_law_603 rfl
theorem a_Lw_law_605 : dk_at code 605 t_Lw_law_605 := dk_go 1 a_Lw_law_604 rfl
theorem a_Lw_law_606 : dk_at code 606 t_Lw_law_606 := dk_go 1 a_Lw_law_605 rfl
theorem a_Lw_law_607 : dk_at code 607 t_Lw_law_607 := dk_go 1 a_Lw_law_606 rfl
theorem a_Lw_law_608 : dk_at code 608 t_Lw_law_608 := dk_go 1 a_Lw_law_607 rfl
theorem a_Lw_law_609 : dk_at code 609 t_Lw_law_609 := dk_go 1 a_Lw_law_608 rfl
theorem a_Lw_law_611 : dk_at code 611 t_Lw_law_611 := dk_go 2 a_Lw_law_609 rfl
theorem a_Lw_law_612 : dk_at code 612 t_Lw_law_612 := dk_go 1 a_Lw_law_611 rfl
theorem a_Lw_law_613 : dk_at code 613 t_Lw_law_613 := dk_go 1 a_Lw_law_612 rfl
theorem a_Lw_law_614 : dk_at code 614 t_Lw_law_614 := dk_go 1 a_Lw_law_613 rfl
theorem a_Lw_law_615 : dk_at code 615 t_Lw_law_615 := dk_go 1 a_Lw_law_614 rfl
theorem a_Lw_law_616 : dk_at code 616 t_Lw_law_616 := dk_go 1 a_Lw_law_615 rfl
theorem a_Lw_law_617 : dk_at code 617 t_Lw_law_617 := dk_go 1 a_Lw_law_616 rfl
theorem a_Lw_law_618 : dk_at code 618 t_Lw_law_618 := dk_go 1 a_Lw_law_617 rfl
theorem a_Lw_law_621 : dk_at code 621 t_Lw_law_621 := dk_go 3 a_Lw_law_618 rfl
theorem a_Lw_law_622 : dk_at code 622 t_Lw_law_622 := dk_go 1 a_Lw_law_621 rfl
theorem a_Lw_law_623 : dk_at code 623 t_Lw_law_623 := dk_go 1 a_Lw_law_622 rfl
theorem a_Lw_law_626 : dk_at code 626 t_Lw_law_626 := dk_go 3 a_Lw_law_623 rfl
theorem a_Lw_law_629 : dk_at code 629 t_Lw_law_629 := dk_go 3 a_Lw_law_626 rfl
theorem a_Lw_law_630 : dk_at code 630 t_Lw_law_630 := dk_go 1 a_Lw_law_629 rfl
theorem a_Lw_law_631 : dk_at code 631 t_Lw_law_631 := dk_go 1 a_Lw_law_630 rfl
theorem a_Lw_law_632 : dk_at code 632 t_Lw_law_632 := dk_go 1 a_Lw_law_631 rfl
theorem a_Lw_law_633 : dk_at code 633 t_Lw_law_633 := dk_go 1 a_Lw_law_632 rfl
theorem a_Lw_law_634 : dk_at code 634 t_Lw_law_634 := dk_go 1 a_Lw_law_633 rfl
theorem a_Lw_law_635 : dk_at code 635 t_Lw_law_635 := dk_go 1 a_Lw_law_634 rfl
theorem a_Lw_law_636 : dk_at code 636 t_Lw_law_636 := dk_go 1 a_Lw_law_635 rfl
theorem a_Lw_law_637 : dk_at code 637 t_Lw_law_637 := dk_go 1 a_Lw_law_636 rfl
theorem a_Lw_law_638 : dk_at code 638 t_Lw_law_638 := dk_go 1 a_Lw_law_637 rfl
theorem a_Lw_law_639 : dk_at code 639 t_Lw_law_639 := dk_go 1 a_Lw_law_638 rfl
theorem a_Lw_law_640 : dk_at code 640 t_Lw_law_640 := dk_go 1 a_Lw_law_639 rfl
theorem a_Lw_law_641 : dk_at code 641 t_Lw_law_641 := dk_go 1 a_Lw_law_640 rfl
theorem a_Lw_law_642 : dk_at code 642 t_Lw_law_642 := dk_go 1 a_Lw_law_641 rfl
theorem a_Lw_law_643 : dk_at code 643 t_Lw_law_643 := dk_go 1 a_Lw_law_642 rfl
theorem a_Lw_law_644 : dk_at code 644 t_Lw_law_644 := dk_go 1 a_Lw_law_643 rfl
theorem a_Lw_law_645 : dk_at code 645 t_Lw_law_645 := dk_go 1 a_Lw_law_644 rfl
theorem a_Lw_law_646 : dk_at code 646 t_Lw_law_646 := dk_go 1 a_Lw_law_645 rfl
theorem a_Lw_law_647 : dk_at code 647 t_Lw_law_647 := dk_go 1 a_Lw_law_646 rfl
theorem a_Lw_law_648 : dk_at code 648 t_Lw_law_648 := dk_go 1 a_Lw_law_647 rfl
theorem a_Lw_law_649 : dk_at code 649 t_Lw_law_649 := dk_go 1 a_Lw_law_648 rfl
theorem a_Lw_law_650 : dk_at code 650 t_Lw_law_650 := dk_go 1 a_Lw_law_649 rfl
theorem a_Lw_law_651 : dk_at code 651 t_Lw_law_651 := dk_go 1 a_Lw_law_650 rfl
theorem a_Lw_law_652 : dk_at code 652 t_Lw_law_652 := dk_go 1 a_Lw_law_651 rfl
theorem a_Lw_law_653 : dk_at code 653 t_Lw_law_653 := dk_go 1 a_Lw_law_652 rfl
theorem a_Lw_law_654 : dk_at code 654 t_Lw_law_654 := dk_go 1 a_Lw_law_653 rfl
theorem a_Lw_law_655 : dk_at code 655 t_Lw_law_655 := dk_go 1 a_Lw_law_654 rfl
theorem a_Lw_law_656 : dk_at code 656 t_Lw_law_656 := dk_go 1 a_Lw_law_655 rfl
theorem a_Lw_law_657 : dk_at code 657 t_Lw_law_657 := dk_go 1 a_Lw_law_656 rfl
theorem a_Lw_law_660 : dk_at code 660 t_Lw_law_660 := dk_go 3 a_Lw_law_657 rfl
theorem a_Lw_law_661 : dk_at code 661 t_Lw_law_661 := dk_go 1 a_Lw_law_660 rfl
theorem a_Lw_law_662 : dk_at code 662 t_Lw_law_662 := dk_go 1 a_Lw_law_661 rfl
theorem a_Lw_law_663 : dk_at code 663 t_Lw_law_663 := dk_go 1 a_Lw_law_662 rfl
theorem a_Lw_law_664 : dk_at code 664 t_Lw_law_664 := dk_go 1 a_Lw_law_663 rfl
theorem a_Lw_law_665 : dk_at code 665 t_Lw_law_665 := dk_go 1 a_Lw_law_664 rfl
theorem a_Lw_law_666 : dk_at code 666 t_Lw_law_666 := dk_go 1 a_Lw_law_665 rfl
theorem a_Lw_law_667 : dk_at code 667 t_Lw_law_667 := dk_go 1 a_Lw_law_666 rfl
theorem a_Lw_law_668 : dk_at code 668 t_Lw_law_668 := dk_go 1 a_Lw_law_667 rfl
theorem a_Lw_law_669 : dk_at code 669 t_Lw_law_669 := dk_go 1 a_Lw_law_668 rfl
theorem a_Lw_law_670 : dk_at code 670 t_Lw_law_670 := dk_go 1 a_Lw_law_669 rfl
theorem a_Lw_law_671 : dk_at code 671 t_Lw_law_671 := dk_go 1 a_Lw_law_670 rfl
theorem a_Lw_law_672 : dk_at code 672 t_Lw_law_672 := dk_go 1 a_Lw_law_671 rfl
theorem a_Lw_law_673 : dk_at code 673 t_Lw_law_673 := dk_go 1 a_Lw_law_672 rfl
theorem a_Lw_law_674 : dk_at code 674 t_Lw_law_674 := dk_go 1 a_Lw_law_673 rfl
theorem a_Lw_law_675 : dk_at code 675 t_Lw_law_675 := dk_go 1 a_Lw_law_674 rfl
theorem a_Lw_law_676 : dk_at code 676 t_Lw_law_676 := dk_go 1 a_Lw_law_675 rfl
theorem a_Lw_law_677 : dk_at code 677 t_Lw_law_677 := dk_go 1 a_Lw_law_676 rfl
theorem a_Lw_law_678 : dk_at code 678 t_Lw_law_678 := dk_go 1 a_Lw_law_677 rfl
theorem a_Lw_law_679 : dk_at code 679 t_Lw_law_679 := dk_go 1 a_Lw_law_678 rfl
theorem a_Lw_law_680 : dk_at code 680 t_Lw_law_680 := dk_go 1 a_Lw_law_679 rfl
theorem a_Lw_law_681 : dk_at code 681 t_Lw_law_681 := dk_go 1 a_Lw_law_680 rfl
theorem a_Lw_law_682 : dk_at code 682 t_Lw_law_682 := dk_go 1 a_Lw_law_681 rfl
theorem a_Lw_law_683 : dk_at code 683 t_Lw_law_683 := dk_go 1 a_Lw_law_682 rfl
theorem a_Lw_law_684 : dk_at code 684 t_Lw_law_684 := dk_go 1 a_Lw_law_683 rfl
theorem a_Lw_law_685 : dk_at code 685 t_Lw_law_685 := dk_go 1 a_Lw_law_684 rfl
theorem a_Lw_law_686 : dk_at code 686 t_Lw_law_686 := dk_go 1 a_Lw_law_685 rfl
theorem a_Lw_law_689 : dk_at code 689 t_Lw_law_689 := dk_go 3 a_Lw_law_686 rfl
theorem a_Lw_law_692 : dk_at code 692 t_Lw_law_692 := dk_go 3 a_Lw_law_689 rfl
theorem a_Lw_law_693 : dk_at code 693 t_Lw_law_693 := dk_go 1 a_Lw_law_692 rfl
theorem a_Lw_law_694 : dk_at code 694 t_Lw_law_694 := dk_go 1 a_Lw_law_693 rfl
theorem a_Lw_law_695 : dk_at code 695 t_Lw_law_695 := dk_go 1 a_Lw_law_694 rfl
theorem a_Lw_law_696 : dk_at code 696 t_Lw_law_696 := dk_go 1 a_Lw_law_695 rfl
theorem a_Lw_law_697 : dk_at code 697 t_Lw_law_697 := dk_go 1 a_Lw_law_696 rfl
theorem a_Lw_law_698 : dk_at code 698 t_Lw_law_698 := dk_go 1 a_Lw_law_697 rfl
theorem a_Lw_law_699 : dk_at code 699 t_Lw_law_699 := dk_go 1 a_Lw_law_698 rfl
theorem a_Lw_law_700 : dk_at code 700 t_Lw_law_700 := dk_go 1 a_Lw_law_699 rfl
theorem a_Lw_law_703 : dk_at code 703 t_Lw_law_703 := dk_go 3 a_Lw_law_700 rfl
theorem a_Lw_law_704 : dk_at code 704 t_Lw_law_704 := dk_go 1 a_Lw_law_703 rfl
theorem a_Lw_law_705 : dk_at code 705 t_Lw_law_705 := dk_go 1 a_Lw_law_704 rfl
theorem a_Lw_law_706 : dk_at code 706 t_Lw_law_706 := dk_go 1 a_Lw_law_705 rfl
theorem a_Lw_law_707 : dk_at code 707 t_Lw_law_707 := dk_go 1 a_Lw_law_706 rfl
theorem a_Lw_law_708 : dk_at code 708 t_Lw_law_708 := dk_go 1 a_Lw_law_707 rfl
theorem a_Lw_law_709 : dk_at code 709 t_Lw_law_709 := dk_go 1 a_Lw_law_708 rfl
theorem a_Lw_law_712 : dk_at code 712 t_Lw_law_712 := dk_go 3 a_Lw_law_709 rfl
theorem a_Lw_law_715 : dk_at code 715 t_Lw_law_715 := dk_go 3 a_Lw_law_712 rfl
theorem a_Lw_law_716 : dk_at code 716 t_Lw_law_716 := dk_go 1 a_Lw_law_715 rfl
theorem a_Lw_law_717 : dk_at code 717 t_Lw_law_717 := dk_go 1 a_Lw_law_716 rfl
theorem a_Lw_law_718 : dk_at code 718 t_Lw_law_718 := dk_go 1 a_Lw_law_717 rfl
theorem a_Lw_law_721 : dk_at code 721 t_Lw_law_721 := dk_go 3 a_Lw_law_718 rfl
theorem a_Lw_law_722 : dk_at code 722 t_Lw_law_722 := dk_go 1 a_Lw_law_721 rfl
theorem a_Lw_law_725 : dk_at code 725 t_Lw_law_725 := dk_go 3 a_Lw_law_722 rfl
theorem a_Lw_law_728 : dk_at code 728 t_Lw_law_728 := dk_go 3 a_Lw_law_725 rfl
theorem a_Lw_law_729 : dk_at code 729 t_Lw_law_729 := dk_go 1 a_Lw_law_728 rfl
theorem a_Lw_law_730 : dk_at code 730 t_Lw_law_730 := dk_go 1 a_Lw_law_729 rfl
theorem a_Lw_law_731 : dk_at code 731 t_Lw_law_731 := dk_go 1 a_Lw_law_730 rfl
theorem a_Lw_law_732 : dk_at code 732 t_Lw_law_732 := dk_go 1 a_Lw_law_731 rfl
theorem a_Lw_law_733 : dk_at code 733 t_Lw_law_733 := dk_go 1 a_Lw_law_732 rfl
theorem a_Lw_law_734 : dk_at code 734 t_Lw_law_734 := dk_go 1 a_Lw_law_733 rfl
theorem a_Lw_law_735 : dk_at code 735 t_Lw_law_735 := dk_go 1 a_Lw_law_734 rfl
theorem a_Lw_law_736 : dk_at code 736 t_Lw_law_736 := dk_go 1 a_Lw_law_735 rfl
theorem a_Lw_law_739 : dk_at code 739 t_Lw_law_739 := dk_go 3 a_Lw_law_736 rfl
theorem a_Lw_law_740 : dk_at code 740 t_Lw_law_740 := dk_go 1 a_Lw_law_739 rfl
theorem a_Lw_law_741 : dk_at code 741 t_Lw_law_741 := dk_go 1 a_Lw_law_740 rfl
theorem a_Lw_law_742 : dk_at code 742 t_Lw_law_742 := dk_go 1 a_Lw_law_741 rfl
theorem a_Lw_law_743 : dk_at code 743 t_Lw_law_743 := dk_go 1 a_Lw_law_742 rfl
theorem a_Lw_law_744 : dk_at code 744 t_Lw_law_744 := dk_go 1 a_Lw_law_743 rfl
theorem a_Lw_law_745 : dk_at code 745 t_Lw_law_745 := dk_go 1 a_Lw_law_744 rfl
theorem a_Lw_law_748 : dk_at code 748 t_Lw_law_748 := dk_go 3 a_Lw_law_745 rfl
theorem a_Lw_law_751 : dk_at code 751 t_Lw_law_751 := dk_go 3 a_Lw_law_748 rfl
theorem a_Lw_law_752 : dk_at code 752 t_Lw_law_752 := dk_go 1 a_Lw_law_751 rfl
theorem a_Lw_law_753 : dk_at code 753 t_Lw_law_753 := dk_go 1 a_Lw_law_752 rfl
theorem a_Lw_law_754 : dk_at code 754 t_Lw_law_754 := dk_go 1 a_Lw_law_753 rfl
theorem a_Lw_law_755 : dk_at code 755 t_Lw_law_755 := dk_go 1 a_Lw_law_754 rfl
theorem a_Lw_law_756 : dk_at code 756 t_Lw_law_756 := dk_go 1 a_Lw_law_755 rfl
theorem a_Lw_law_757 : dk_at code 757 t_Lw_law_757 := dk_go 1 a_Lw_law_756 rfl
theorem a_Lw_law_758 : dk_at code 758 t_Lw_law_758 := dk_go 1 a_Lw_law_757 rfl
theorem a_Lw_law_759 : dk_at code 759 t_Lw_law_759 := dk_go 1 a_Lw_law_758 rfl
theorem a_Lw_law_760 : dk_at code 760 t_Lw_law_760 := dk_go 1 a_Lw_law_759 rfl
theorem a_Lw_law_762 : dk_at code 762 t_Lw_law_762 := dk_go 2 a_Lw_law_760 rfl
theorem a_Lw_law_763 : dk_at code 763 t_Lw_law_763 := dk_go 1 a_Lw_law_762 rfl
theorem a_Lw_law_764 : dk_at code 764 t_Lw_law_764 := dk_go 1 a_Lw_law_763 rfl
theorem a_Lw_law_765 : dk_at code 765 t_Lw_law_765 := dk_go 1 a_Lw_law_764 rfl
theorem a_Lw_law_766 : dk_at code 766 t_Lw_law_766 := dk_go 1 a_Lw_law_765 rfl
theorem a_Lw_law_767 : dk_at code 767 t_Lw_law_767 := dk_go 1 a_Lw_law_766 rfl
theorem a_Lw_law_768 : dk_at code 768 t_Lw_law_768 := dk_go 1 a_Lw_law_767 rfl
theorem a_Lw_law_769 : dk_at code 769 t_Lw_law_769 := dk_go 1 a_Lw_law_768 rfl
theorem a_Lw_law_772 : dk_at code 772 t_Lw_law_772 := dk_go 3 a_Lw_law_769 rfl
theorem a_Lw_law_773 : dk_at code 773 t_Lw_law_773 := dk_go 1 a_Lw_law_772 rfl
theorem a_Lw_law_774 : dk_at code 774 t_Lw_law_774 := dk_go 1 a_Lw_law_773 rfl
theorem a_Lw_law_777 : dk_at code 777 t_Lw_law_777 := dk_go 3 a_Lw_law_774 rfl
theorem a_Lw_law_778 : dk_at code 778 t_Lw_law_778 := dk_go 1 a_Lw_law_777 rfl
theorem a_Lw_law_779 : dk_at code 779 t_Lw_law_779 := dk_go 1 a_Lw_law_778 rfl
theorem a_Lw_law_780 : dk_at code 780 t_Lw_law_780 := dk_go 1 a_Lw_law_779 rfl
theorem a_Lw_law_781 : dk_at code 781 t_Lw_law_781 := dk_go 1 a_Lw_law_780 rfl
theorem a_Lw_law_782 : dk_at code 782 t_Lw_law_782 := dk_go 1 a_Lw_law_781 rfl
theorem a_Lw_law_783 : dk_at code 783 t_Lw_law_783 := dk_go 1 a_Lw_law_782 rfl
theorem a_Lw_law_784 : dk_at code 784 t_Lw_law_784 := dk_go 1 a_Lw_law_783 rfl
theorem a_Lw_law_786 : dk_at code 786 t_Lw_law_786 := dk_go 2 a_Lw_law_784 rfl
theorem a_Lw_law_787 : dk_at code 787 t_Lw_law_787 := dk_go 1 a_Lw_law_786 rfl
theorem a_Lw_law_788 : dk_at code 788 t_Lw_law_788 := dk_go 1 a_Lw_law_787 rfl
theorem a_Lw_law_789 : dk_at code 789 t_Lw_law_789 := dk_go 1 a_Lw_law_788 rfl
theorem a_Lw_law_790 : dk_at code 790 t_Lw_law_790 := dk_go 1 a_Lw_law_789 rfl
theorem a_Lw_law_791 : dk_at code 791 t_Lw_law_791 := dk_go 1 a_Lw_law_790 rfl
theorem a_Lw_law_792 : dk_at code 792 t_Lw_law_792 := dk_go 1 a_Lw_law_791 rfl
theorem a_Lw_law_793 : dk_at code 793 t_Lw_law_793 := dk_go 1 a_Lw_law_792 rfl
theorem a_Lw_law_796 : dk_at code 796 t_Lw_law_796 := dk_go 3 a_Lw_law_793 rfl
theorem a_Lw_law_797 : dk_at code 797 t_Lw_law_797 := dk_go 1 a_Lw_law_796 rfl
theorem a_Lw_law_798 : dk_at code 798 t_Lw_law_798 := dk_go 1 a_Lw_law_797 rfl
theorem a_Lw_law_801 : dk_at code 801 t_Lw_law_801 := dk_go 3 a_Lw_law_798 rfl
theorem a_Lw_law_804 : dk_at code 804 t_Lw_law_804 := dk_go 3 a_Lw_law_801 rfl
theorem a_Lw_law_805 : dk_at code 805 t_Lw_law_805 := dk_go 1 a_Lw_law_804 rfl
theorem a_Lw_law_806 : dk_at code 806 t_Lw_law_806 := dk_go 1 a_Lw_law_805 rfl
theorem a_Lw_law_807 : dk_at code 807 t_Lw_law_807 := dk_go 1 a_Lw_law_806 rfl
theorem a_Lw_law_808 : dk_at code 808 t_Lw_law_808 := dk_go 1 a_Lw_law_807 rfl
theorem a_Lw_law_809 : dk_at code 809 t_Lw_law_809 := dk_go 1 a_Lw_law_808 rfl
theorem a_Lw_law_810 : dk_at code 810 t_Lw_law_810 := dk_go 1 a_Lw_law_809 rfl
theorem a_Lw_law_811 : dk_at code 811 t_Lw_law_811 := dk_go 1 a_Lw_law_810 rfl
theorem a_Lw_law_812 : dk_at code 812 t_Lw_law_812 := dk_go 1 a_Lw_law_811 rfl
theorem a_Lw_law_815 : dk_at code 815 t_Lw_law_815 := dk_go 3 a_Lw_law_812 rfl
theorem a_Lw_law_816 : dk_at code 816 t_Lw_law_816 := dk_go 1 a_Lw_law_815 rfl
theorem a_Lw_law_819 : dk_at code 819 t_Lw_law_819 := dk_go 3 a_Lw_law_816 rfl
theorem a_Lw_law_820 : dk_at code 820 t_Lw_law_820 := dk_go 1 a_Lw_law_819 rfl
theorem a_Lw_law_823 : dk_at code 823 t_Lw_law_823 := dk_go 3 a_Lw_law_820 rfl
theorem a_Lw_law_824 : dk_at code 824 t_Lw_law_824 := dk_go 1 a_Lw_law_823 rfl
theorem a_Lw_law_825 : dk_at code 825 t_Lw_law_825 := dk_go 1 a_Lw_law_824 rfl
theorem a_Lw_law_826 : dk_at code 826 t_Lw_law_826 := dk_go 1 a_Lw_law_825 rfl
theorem a_Lw_law_827 : dk_at code 827 t_Lw_law_827 := dk_go 1 a_Lw_law_826 rfl
theorem a_Lw_law_828 : dk_at code 828 t_Lw_law_828 := dk_go 1 a_Lw_law_827 rfl
theorem a_Lw_law_829 : dk_at code 829 t_Lw_law_829 := dk_go 1 a_Lw_law_828 rfl
theorem a_Lw_law_832 : dk_at code 832 t_Lw_law_832 := dk_go 3 a_Lw_law_829 rfl
theorem a_Lw_law_833 : dk_at code 833 t_Lw_law_833 := dk_go 1 a_Lw_law_832 rfl
theorem a_Lw_law_836 : dk_at code 836 t_Lw_law_836 := dk_go 3 a_Lw_law_833 rfl
theorem a_Lw_law_837 : dk_at code 837 t_Lw_law_837 := dk_go 1 a_Lw_law_836 rfl
theorem a_Lw_law_840 : dk_at code 840 t_Lw_law_840 := dk_go 3 a_Lw_law_837 rfl
theorem a_Lw_law_843 : dk_at code 843 t_Lw_law_843 := dk_go 3 a_Lw_law_840 rfl
theorem a_Lw_law_844 : dk_at code 844 t_Lw_law_844 := dk_go 1 a_Lw_law_843 rfl
theorem a_Lw_law_845 : dk_at code 845 t_Lw_law_845 := dk_go 1 a_Lw_law_844 rfl
theorem a_Lw_law_846 : dk_at code 846 t_Lw_law_846 := dk_go 1 a_Lw_law_845 rfl
theorem a_Lw_law_849 : dk_at code 849 t_Lw_law_849 := dk_go 3 a_Lw_law_846 rfl
theorem a_Lw_law_850 : dk_at code 850 t_Lw_law_850 := dk_go 1 a_Lw_law_849 rfl
theorem a_Lw_law_853 : dk_at code 853 t_Lw_law_853 := dk_go 3 a_Lw_law_850 rfl
theorem a_Lw_law_856 : dk_at code 856 t_Lw_law_856 := dk_go 3 a_Lw_law_853 rfl
theorem a_Lw_law_857 : dk_at code 857 t_Lw_law_857 := dk_go 1 a_Lw_law_856 rfl
theorem a_Lw_law_858 : dk_at code 858 t_Lw_law_858 := dk_go 1 a_Lw_law_857 rfl
theorem a_Lw_law_859 : dk_at code 859 t_Lw_law_859 := dk_go 1 a_Lw_law_858 rfl
theorem a_Lw_law_860 : dk_at code 860 t_Lw_law_860 := dk_go 1 a_Lw_law_859 rfl
theorem a_Lw_law_861 : dk_at code 861 t_Lw_law_861 := dk_go 1 a_Lw_law_860 rfl
theorem a_Lw_law_862 : dk_at code 862 t_Lw_law_862 := dk_go 1 a_Lw_law_861 rfl
theorem a_Lw_law_863 : dk_at code 863 t_Lw_law_863 := dk_go 1 a_Lw_law_862 rfl
theorem a_Lw_law_864 : dk_at code 864 t_Lw_law_864 := dk_go 1 a_Lw_law_863 rfl
theorem a_Lw_law_865 : dk_at code 865 t_Lw_law_865 := dk_go 1 a_Lw_law_864 rfl
theorem a_Lw_law_866 : dk_at code 866 t_Lw_law_866 := dk_go 1 a_Lw_law_865 rfl
theorem a_Lw_law_867 : dk_at code 867 t_Lw_law_867 := dk_go 1 a_Lw_law_866 rfl
theorem a_Lw_law_868 : dk_at code 868 t_Lw_law_868 := dk_go 1 a_Lw_law_867 rfl
theorem a_Lw_law_869 : dk_at code 869 t_Lw_law_869 := dk_go 1 a_Lw_law_868 rfl
theorem a_Lw_law_870 : dk_at code 870 t_Lw_law_870 := dk_go 1 a_Lw_law_869 rfl
theorem a_Lw_law_871 : dk_at code 871 t_Lw_law_871 := dk_go 1 a_Lw_law_870 rfl
theorem a_Lw_law_872 : dk_at code 872 t_Lw_law_872 := dk_go 1 a_Lw_law_871 rfl
theorem a_Lw_law_873 : dk_at code 873 t_Lw_law_873 := dk_go 1 a_Lw_law_872 rfl
theorem a_Lw_law_874 : dk_at code 874 t_Lw_law_874 := dk_go 1 a_Lw_law_873 rfl
theorem a_Lw_law_875 : dk_at code 875 t_Lw_law_875 := dk_go 1 a_Lw_law_874 rfl
theorem a_Lw_law_876 : dk_at code 876 t_Lw_law_876 := dk_go 1 a_Lw_law_875 rfl
theorem a_Lw_law_877 : dk_at code 877 t_Lw_law_877 := dk_go 1 a_Lw_law_876 rfl
theorem a_Lw_law_878 : dk_at code 878 t_Lw_law_878 := dk_go 1 a_Lw_law_877 rfl
theorem a_Lw_law_879 : dk_at code 879 t_Lw_law_879 := dk_go 1 a_Lw_law_878 rfl
theorem a_Lw_law_882 : dk_at code 882 t_Lw_law_882 := dk_go 3 a_Lw_law_879 rfl
theorem a_Lw_law_883 : dk_at code 883 t_Lw_law_883 := dk_go 1 a_Lw_law_882 rfl
theorem a_Lw_law_884 : dk_at code 884 t_Lw_law_884 := dk_go 1 a_Lw_law_883 rfl
theorem a_Lw_law_885 : dk_at code 885 t_Lw_law_885 := dk_go 1 a_Lw_law_884 rfl
theorem a_Lw_law_886 : dk_at code 886 t_Lw_law_886 := dk_go 1 a_Lw_law_885 rfl
theorem a_Lw_law_887 : dk_at code 887 t_Lw_law_887 := dk_go 1 a_Lw_law_886 rfl
theorem a_Lw_law_888 : dk_at code 888 t_Lw_law_888 := dk_go 1 a_Lw_law_887 rfl
theorem a_Lw_law_889 : dk_at code 889 t_Lw_law_889 := dk_go 1 a_Lw_law_888 rfl
theorem a_Lw_law_890 : dk_at code 890 t_Lw_law_890 := dk_go 1 a_Lw_law_889 rfl
theorem a_Lw_law_891 : dk_at code 891 t_Lw_law_891 := dk_go 1 a_Lw_law_890 rfl
theorem a_Lw_law_892 : dk_at code 892 t_Lw_law_892 := dk_go 1 a_Lw_law_891 rfl
theorem a_Lw_law_893 : dk_at code 893 t_Lw_law_893 := dk_go 1 a_Lw_law_892 rfl
theorem a_Lw_law_894 : dk_at code 894 t_Lw_law_894 := dk_go 1 a_Lw_law_893 rfl
theorem a_Lw_law_895 : dk_at code 895 t_Lw_law_895 := dk_go 1 a_Lw_law_894 rfl
theorem a_Lw_law_896 : dk_at code 896 t_Lw_law_896 := dk_go 1 a_Lw_law_895 rfl
theorem a_Lw_law_897 : dk_at code 897 t_Lw_law_897 := dk_go 1 a_Lw_law_896 rfl
theorem a_Lw_law_898 : dk_at code 898 t_Lw_law_898 := dk_go 1 a_Lw_law_897 rfl
theorem a_Lw_law_899 : dk_at code 899 t_Lw_law_899 := dk_go 1 a_Lw_law_898 rfl
theorem a_Lw_law_900 : dk_at code 900 t_Lw_law_900 := dk_go 1 a_Lw_law_899 rfl
theorem a_Lw_law_901 : dk_at code 901 t_Lw_law_901 := dk_go 1 a_Lw_law_900 rfl
theorem a_Lw_law_902 : dk_at code 902 t_Lw_law_902 := dk_go 1 a_Lw_law_901 rfl
theorem a_Lw_law_903 : dk_at code 903 t_Lw_law_903 := dk_go 1 a_Lw_law_902 rfl
theorem a_Lw_law_906 : dk_at code 906 t_Lw_law_906 := dk_go 3 a_Lw_law_903 rfl
theorem a_Lw_law_909 : dk_at code 909 t_Lw_law_909 := dk_go 3 a_Lw_law_906 rfl
theorem a_Lw_law_910 : dk_at code 910 t_Lw_law_910 := dk_go 1 a_Lw_law_909 rfl
theorem a_Lw_law_911 : dk_at code 911 t_Lw_law_911 := dk_go 1 a_Lw_law_910 rfl
theorem a_Lw_law_912 : dk_at code 912 t_Lw_law_912 := dk_go 1 a_Lw_law_911 rfl
theorem a_Lw_law_913 : dk_at code 913 t_Lw_law_913 := dk_go 1 a_Lw_law_912 rfl
theorem a_Lw_law_914 : dk_at code 914 t_Lw_law_914 := dk_go 1 a_Lw_law_913 rfl
theorem a_Lw_law_915 : dk_at code 915 t_Lw_law_915 := dk_go 1 a_Lw_law_914 rfl
theorem a_Lw_law_916 : dk_at code 916 t_Lw_law_916 := dk_go 1 a_Lw_law_915 rfl
theorem a_Lw_law_917 : dk_at code 917 t_Lw_law_917 := dk_go 1 a_Lw_law_916 rfl
theorem a_Lw_law_920 : dk_at code 920 t_Lw_law_920 := dk_go 3 a_Lw_law_917 rfl
theorem a_Lw_law_921 : dk_at code 921 t_Lw_law_921 := dk_go 1 a_Lw_law_920 rfl
theorem a_Lw_law_922 : dk_at code 922 t_Lw_law_922 := dk_go 1 a_Lw_law_921 rfl
theorem a_Lw_law_923 : dk_at code 923 t_Lw_law_923 := dk_go 1 a_Lw_law_922 rfl
theorem a_Lw_law_924 : dk_at code 924 t_Lw_law_924 := dk_go 1 a_Lw_law_923 rfl
theorem a_Lw_law_925 : dk_at code 925 t_Lw_law_925 := dk_go 1 a_Lw_law_924 rfl
theorem a_Lw_law_926 : dk_at code 926 t_Lw_law_926 := dk_go 1 a_Lw_law_925 rfl
theorem a_Lw_law_929 : dk_at code 929 t_Lw_law_929 := dk_go 3 a_Lw_law_926 rfl
theorem a_Lw_law_932 : dk_at code 932 t_Lw_law_932 := dk_go 3 a_Lw_law_929 rfl
theorem a_Lw_law_933 : dk_at code 933 t_Lw_law_933 := dk_go 1 a_Lw_law_932 rfl
theorem a_Lw_law_934 : dk_at code 934 t_Lw_law_934 := dk_go 1 a_Lw_law_933 rfl
theorem a_Lw_law_935 : dk_at code 935 t_Lw_law_935 := dk_go 1 a_Lw_law_934 rfl
theorem a_Lw_law_936 : dk_at code 936 t_Lw_law_936 := dk_go 1 a_Lw_law_935 rfl
theorem a_Lw_law_937 : dk_at code 937 t_Lw_law_937 := dk_go 1 a_Lw_law_936 rfl
theorem a_Lw_law_938 : dk_at code 938 t_Lw_law_938 := dk_go 1 a_Lw_law_937 rfl
theorem a_Lw_law_939 : dk_at code 939 t_Lw_law_939 := dk_go 1 a_Lw_law_938 rfl
theorem a_Lw_law_940 : dk_at code 940 t_Lw_law_940 := dk_go 1 a_Lw_law_939 rfl
theorem a_Lw_law_943 : dk_at code 943 t_Lw_law_943 := dk_go 3 a_Lw_law_940 rfl
theorem a_Lw_law_944 : dk_at code 944 t_Lw_law_944 := dk_go 1 a_Lw_law_943 rfl
theorem a_Lw_law_945 : dk_at code 945 t_Lw_law_945 := dk_go 1 a_Lw_law_944 rfl
theorem a_Lw_law_946 : dk_at code 946 t_Lw_law_946 := dk_go 1 a_Lw_law_945 rfl
theorem a_Lw_law_947 : dk_at code 947 t_Lw_law_947 := dk_go 1 a_Lw_law_946 rfl
theorem a_Lw_law_948 : dk_at code 948 t_Lw_law_948 := dk_go 1 a_Lw_law_947 rfl
theorem a_Lw_law_949 : dk_at code 949 t_Lw_law_949 := dk_go 1 a_Lw_law_948 rfl
theorem a_Lw_law_952 : dk_at code 952 t_Lw_law_952 := dk_go 3 a_Lw_law_949 rfl
theorem a_Lw_law_955 : dk_at code 955 t_Lw_law_955 := dk_go 3 a_Lw_law_952 rfl
theorem a_Lw_law_956 : dk_at code 956 t_Lw_law_956 := dk_go 1 a_Lw_law_955 rfl
theorem a_Lw_law_957 : dk_at code 957 t_Lw_law_957 := dk_go 1 a_Lw_law_956 rfl
theorem a_Lw_law_958 : dk_at code 958 t_Lw_law_958 := dk_go 1 a_Lw_law_957 rfl
theorem a_Lw_law_959 : dk_at code 959 t_Lw_law_959 := dk_go 1 a_Lw_law_958 rfl
theorem a_Lw_law_960 : dk_at code 960 t_Lw_law_960 := dk_go 1 a_Lw_law_959 rfl
theorem a_Lw_law_961 : dk_at code 961 t_Lw_law_961 := dk_go 1 a_Lw_law_960 rfl
theorem a_Lw_law_962 : dk_at code 962 t_Lw_law_962 := dk_go 1 a_Lw_law_961 rfl
theorem a_Lw_law_963 : dk_at code 963 t_Lw_law_963 := dk_go 1 a_Lw_law_962 rfl
theorem a_Lw_law_964 : dk_at code 964 t_Lw_law_964 := dk_go 1 a_Lw_law_963 rfl
theorem a_Lw_law_965 : dk_at code 965 t_Lw_law_965 := dk_go 1 a_Lw_law_964 rfl
theorem a_Lw_law_966 : dk_at code 966 t_Lw_law_966 := dk_go 1 a_Lw_law_965 rfl
theorem a_Lw_law_967 : dk_at code 967 t_Lw_law_967 := dk_go 1 a_Lw_law_966 rfl
theorem a_Lw_law_968 : dk_at code 968 t_Lw_law_968 := dk_go 1 a_Lw_law_967 rfl
theorem a_Lw_law_971 : dk_at code 971 t_Lw_law_971 := dk_go 3 a_Lw_law_968 rfl
theorem a_Lw_law_972 : dk_at code 972 t_Lw_law_972 := dk_go 1 a_Lw_law_971 rfl
theorem a_Lw_law_973 : dk_at code 973 t_Lw_law_973 := dk_go 1 a_Lw_law_972 rfl
theorem a_Lw_law_974 : dk_at code 974 t_Lw_law_974 := dk_go 1 a_Lw_law_973 rfl
theorem a_Lw_law_975 : dk_at code 975 t_Lw_law_975 := dk_go 1 a_Lw_law_974 rfl
theorem a_Lw_law_976 : dk_at code 976 t_Lw_law_976 := dk_go 1 a_Lw_law_975 rfl
theorem a_Lw_law_977 : dk_at code 977 t_Lw_law_977 := dk_go 1 a_Lw_law_976 rfl
theorem a_Lw_law_978 : dk_at code 978 t_Lw_law_978 := dk_go 1 a_Lw_law_977 rfl
theorem a_Lw_law_979 : dk_at code 979 t_Lw_law_979 := dk_go 1 a_Lw_law_978 rfl
theorem a_Lw_law_980 : dk_at code 980 t_Lw_law_980 := dk_go 1 a_Lw_law_979 rfl
theorem a_Lw_law_981 : dk_at code 981 t_Lw_law_981 := dk_go 1 a_Lw_law_980 rfl
theorem a_Lw_law_982 : dk_at code 982 t_Lw_law_982 := dk_go 1 a_Lw_law_981 rfl
theorem a_Lw_law_985 : dk_at code 985 t_Lw_law_985 := dk_go 3 a_Lw_law_982 rfl
theorem a_Lw_law_988 : dk_at code 988 t_Lw_law_988 := dk_go 3 a_Lw_law_985 rfl
theorem a_Lw_law_989 : dk_at code 989 t_Lw_law_989 := dk_go 1 a_Lw_law_988 rfl
theorem a_Lw_law_990 : dk_at code 990 t_Lw_law_990 := dk_go 1 a_Lw_law_989 rfl
theorem a_Lw_law_991 : dk_at code 991 t_Lw_law_991 := dk_go 1 a_Lw_law_990 rfl
theorem a_Lw_law_994 : dk_at code 994 t_Lw_law_994 := dk_go 3 a_Lw_law_991 rfl
theorem a_Lw_law_995 : dk_at code 995 t_Lw_law_995 := dk_go 1 a_Lw_law_994 rfl
theorem a_Lw_law_998 : dk_at code 998 t_Lw_law_998 := dk_go 3 a_Lw_law_995 rfl
theorem a_Lw_law_1001 : dk_at code 1001 t_Lw_law_1001 := dk_go 3 a_Lw_law_998 rfl
theorem a_Lw_law_1002 : dk_at code 1002 t_Lw_law_1002 := dk_go 1 a_Lw_law_1001 rfl
theorem a_Lw_law_1003 : dk_at code 1003 t_Lw_law_1003 := dk_go 1 a_Lw_law_1002 rfl
theorem a_Lw_law_1004 : dk_at code 1004 t_Lw_law_1004 := dk_go 1 a_Lw_law_1003 rfl
theorem a_Lw_law_1005 : dk_at code 1005 t_Lw_law_1005 := dk_go 1 a_Lw_law_1004 rfl
theorem a_Lw_law_1006 : dk_at code 1006 t_Lw_law_1006 := dk_go 1 a_Lw_law_1005 rfl
theorem a_Lw_law_1007 : dk_at code 1007 t_Lw_law_1007 := dk_go 1 a_Lw_law_1006 rfl
theorem a_Lw_law_1008 : dk_at code 1008 t_Lw_law_1008 := dk_go 1 a_Lw_law_1007 rfl
theorem a_Lw_law_1009 : dk_at code 1009 t_Lw_law_1009 := dk_go 1 a_Lw_law_1008 rfl
theorem a_Lw_law_1012 : dk_at code 1012 t_Lw_law_1012 := dk_go 3 a_Lw_law_1009 rfl
theorem a_Lw_law_1013 : dk_at code 1013 t_Lw_law_1013 := dk_go 1 a_Lw_law_1012 rfl
theorem a_Lw_law_1014 : dk_at code 1014 t_Lw_law_1014 := dk_go 1 a_Lw_law_1013 rfl
theorem a_Lw_law_1015 : dk_at code 1015 t_Lw_law_1015 := dk_go 1 a_Lw_law_1014 rfl
theorem a_Lw_law_1016 : dk_at code 1016 t_Lw_law_1016 := dk_go 1 a_Lw_law_1015 rfl
theorem a_Lw_law_1017 : dk_at code 1017 t_Lw_law_1017 := dk_go 1 a_Lw_law_1016 rfl
theorem a_Lw_law_1018 : dk_at code 1018 t_Lw_law_1018 := dk_go 1 a_Lw_law_1017 rfl
theorem a_Lw_law_1021 : dk_at code 1021 t_Lw_law_1021 := dk_go 3 a_Lw_law_1018 rfl
theorem a_Lw_law_1022 : dk_at code 1022 t_Lw_law_1022 := dk_go 1 a_Lw_law_1021 rfl
theorem a_Lw_law_1025 : dk_at code 1025 t_Lw_law_1025 := dk_go 3 a_Lw_law_1022 rfl
theorem a_Lw_law_1026 : dk_at code 1026 t_Lw_law_1026 := dk_go 1 a_Lw_law_1025 rfl
theorem a_Lw_law_1027 : dk_at code 1027 t_Lw_law_1027 := dk_go 1 a_Lw_law_1026 rfl
theorem a_Lw_law_1028 : dk_at code 1028 t_Lw_law_1028 := dk_go 1 a_Lw_law_1027 rfl
theorem a_Lw_law_1029 : dk_at code 1029 t_Lw_law_1029 := dk_go 1 a_Lw_law_1028 rfl
theorem a_Lw_law_1030 : dk_at code 1030 t_Lw_law_1030 := dk_go 1 a_Lw_law_1029 rfl
theorem a_Lw_law_1031 : dk_at code 1031 t_Lw_law_1031 := dk_go 1 a_Lw_law_1030 rfl
theorem a_Lw_law_1032 : dk_at code 1032 t_Lw_law_1032 := dk_go 1 a_Lw_law_1031 rfl
theorem a_Lw_law_1033 : dk_at code 1033 t_Lw_law_1033 := dk_go 1 a_Lw_law_1032 rfl
theorem a_Lw_law_1036 : dk_at code 1036 t_Lw_law_1036 := dk_go 3 a_Lw_law_1033 rfl
theorem a_Lw_law_1037 : dk_at code 1037 t_Lw_law_1037 := dk_go 1 a_Lw_law_1036 rfl
theorem a_Lw_law_1038 : dk_at code 1038 t_Lw_law_1038 := dk_go 1 a_Lw_law_1037 rfl
theorem a_Lw_law_1039 : dk_at code 1039 t_Lw_law_1039 := dk_go 1 a_Lw_law_1038 rfl
theorem a_Lw_law_1040 : dk_at code 1040 t_Lw_law_1040 := dk_go 1 a_Lw_law_1039 rfl
theorem a_Lw_law_1041 : dk_at code 1041 t_Lw_law_1041 := dk_go 1 a_Lw_law_1040 rfl
theorem a_Lw_law_1042 : dk_at code 1042 t_Lw_law_1042 := dk_go 1 a_Lw_law_1041 rfl
theorem a_Lw_law_1045 : dk_at code 1045 t_Lw_law_1045 := dk_go 3 a_Lw_law_1042 rfl
theorem a_Lw_law_1048 : dk_at code 1048 t_Lw_law_1048 := dk_go 3 a_Lw_law_1045 rfl
theorem a_Lw_law_1049 : dk_at code 1049 t_Lw_law_1049 := dk_go 1 a_Lw_law_1048 rfl
theorem a_Lw_law_1050 : dk_at code 1050 t_Lw_law_1050 := dk_go 1 a_Lw_law_1049 rfl
theorem a_Lw_law_1051 : dk_at code 1051 t_Lw_law_1051 := dk_go 1 a_Lw_law_1050 rfl
theorem a_Lw_law_1052 : dk_at code 1052 t_Lw_law_1052 := dk_go 1 a_Lw_law_1051 rfl
theorem a_Lw_law_1053 : dk_at code 1053 t_Lw_law_1053 := dk_go 1 a_Lw_law_1052 rfl
theorem a_Lw_law_1054 : dk_at code 1054 t_Lw_law_1054 := dk_go 1 a_Lw_law_1053 rfl
theorem a_Lw_law_1055 : dk_at code 1055 t_Lw_law_1055 := dk_go 1 a_Lw_law_1054 rfl
theorem a_Lw_law_1056 : dk_at code 1056 t_Lw_law_1056 := dk_go 1 a_Lw_law_1055 rfl
theorem a_Lw_law_1057 : dk_at code 1057 t_Lw_law_1057 := dk_go 1 a_Lw_law_1056 rfl
theorem a_Lw_law_1058 : dk_at code 1058 t_Lw_law_1058 := dk_go 1 a_Lw_law_1057 rfl
theorem a_Lw_law_1059 : dk_at code 1059 t_Lw_law_1059 := dk_go 1 a_Lw_law_1058 rfl
theorem a_Lw_law_1060 : dk_at code 1060 t_Lw_law_1060 := dk_go 1 a_Lw_law_1059 rfl
theorem a_Lw_law_1061 : dk_at code 1061 t_Lw_law_1061 := dk_go 1 a_Lw_law_1060 rfl
theorem a_Lw_law_1064 : dk_at code 1064 t_Lw_law_1064 := dk_go 3 a_Lw_law_1061 rfl
theorem a_Lw_law_1065 : dk_at code 1065 t_Lw_law_1065 := dk_go 1 a_Lw_law_1064 rfl
theorem a_Lw_law_1066 : dk_at code 1066 t_Lw_law_1066 := dk_go 1 a_Lw_law_1065 rfl
theorem a_Lw_law_1067 : dk_at code 1067 t_Lw_law_1067 := dk_go 1 a_Lw_law_1066 rfl
theorem a_Lw_law_1068 : dk_at code 1068 t_Lw_law_1068 := dk_go 1 a_Lw_law_1067 rfl
theorem a_Lw_law_1069 : dk_at code 1069 t_Lw_law_1069 := dk_go 1 a_Lw_law_1068 rfl
theorem a_Lw_law_1070 : dk_at code 1070 t_Lw_law_1070 := dk_go 1 a_Lw_law_1069 rfl
theorem a_Lw_law_1071 : dk_at code 1071 t_Lw_law_1071 := dk_go 1 a_Lw_law_1070 rfl
theorem a_Lw_law_1072 : dk_at code 1072 t_Lw_law_1072 := dk_go 1 a_Lw_law_1071 rfl
theorem a_Lw_law_1073 : dk_at code 1073 t_Lw_law_1073 := dk_go 1 a_Lw_law_1072 rfl
theorem a_Lw_law_1074 : dk_at code 1074 t_Lw_law_1074 := dk_go 1 a_Lw_law_1073 rfl
theorem a_Lw_law_1075 : dk_at code 1075 t_Lw_law_1075 := dk_go 1 a_Lw_law_1074 rfl
theorem a_Lw_law_1078 : dk_at code 1078 t_Lw_law_1078 := dk_go 3 a_Lw_law_1075 rfl
theorem a_Lw_law_1081 : dk_at code 1081 t_Lw_law_1081 := dk_go 3 a_Lw_law_1078 rfl
theorem a_Lw_law_1082 : dk_at code 1082 t_Lw_law_1082 := dk_go 1 a_Lw_law_1081 rfl
theorem a_Lw_law_1083 : dk_at code 1083 t_Lw_law_1083 := dk_go 1 a_Lw_law_1082 rfl
theorem a_Lw_law_1084 : dk_at code 1084 t_Lw_law_1084 := dk_go 1 a_Lw_law_1083 rfl
theorem a_Lw_law_1085 : dk_at code 1085 t_Lw_law_1085 := dk_go 1 a_Lw_law_1084 rfl
theorem a_Lw_law_1086 : dk_at code 1086 t_Lw_law_1086 := dk_go 1 a_Lw_law_1085 rfl
theorem a_Lw_law_1087 : dk_at code 1087 t_Lw_law_1087 := dk_go 1 a_Lw_law_1086 rfl
theorem a_Lw_law_1088 : dk_at code 1088 t_Lw_law_1088 := dk_go 1 a_Lw_law_1087 rfl
theorem a_Lw_law_1089 : dk_at code 1089 t_Lw_law_1089 := dk_go 1 a_Lw_law_1088 rfl
theorem a_Lw_law_1090 : dk_at code 1090 t_Lw_law_1090 := dk_go 1 a_Lw_law_1089 rfl
theorem a_Lw_law_1091 : dk_at code 1091 t_Lw_law_1091 := dk_go 1 a_Lw_law_1090 rfl
theorem a_Lw_law_1092 : dk_at code 1092 t_Lw_law_1092 := dk_go 1 a_Lw_law_1091 rfl
theorem a_Lw_law_1093 : dk_at code 1093 t_Lw_law_1093 := dk_go 1 a_Lw_law_1092 rfl
theorem a_Lw_law_1094 : dk_at code 1094 t_Lw_law_1094 := dk_go 1 a_Lw_law_1093 rfl
theorem a_Lw_law_1097 : dk_at code 1097 t_Lw_law_1097 := dk_go 3 a_Lw_law_1094 rfl
theorem a_Lw_law_1098 : dk_at code 1098 t_Lw_law_1098 := dk_go 1 a_Lw_law_1097 rfl
theorem a_Lw_law_1099 : dk_at code 1099 t_Lw_law_1099 := dk_go 1 a_Lw_law_1098 rfl
theorem a_Lw_law_1100 : dk_at code 1100 t_Lw_law_1100 := dk_go 1 a_Lw_law_1099 rfl
theorem a_Lw_law_1101 : dk_at code 1101 t_Lw_law_1101 := dk_go 1 a_Lw_law_1100 rfl
theorem a_Lw_law_1102 : dk_at code 1102 t_Lw_law_1102 := dk_go 1 a_Lw_law_1101 rfl
theorem a_Lw_law_1103 : dk_at code 1103 t_Lw_law_1103 := dk_go 1 a_Lw_law_1102 rfl
theorem a_Lw_law_1104 : dk_at code 1104 t_Lw_law_1104 := dk_go 1 a_Lw_law_1103 rfl
theorem a_Lw_law_1105 : dk_at code 1105 t_Lw_law_1105 := dk_go 1 a_Lw_law_1104 rfl
theorem a_Lw_law_1106 : dk_at code 1106 t_Lw_law_1106 := dk_go 1 a_Lw_law_1105 rfl
theorem a_Lw_law_1107 : dk_at code 1107 t_Lw_law_1107 := dk_go 1 a_Lw_law_1106 rfl
theorem a_Lw_law_1108 : dk_at code 1108 t_Lw_law_1108 := dk_go 1 a_Lw_law_1107 rfl
theorem a_Lw_law_1111 : dk_at code 1111 t_Lw_law_1111 := dk_go 3 a_Lw_law_1108 rfl
theorem a_Lw_law_1114 : dk_at code 1114 t_Lw_law_1114 := dk_go 3 a_Lw_law_1111 rfl
theorem a_Lw_law_1115 : dk_at code 1115 t_Lw_law_1115 := dk_go 1 a_Lw_law_1114 rfl
theorem a_Lw_law_1116 : dk_at code 1116 t_Lw_law_1116 := dk_go 1 a_Lw_law_1115 rfl
theorem a_Lw_law_1117 : dk_at code 1117 t_Lw_law_1117 := dk_go 1 a_Lw_law_1116 rfl
theorem a_Lw_law_1118 : dk_at code 1118 t_Lw_law_1118 := dk_go 1 a_Lw_law_1117 rfl
theorem a_Lw_law_1119 : dk_at code 1119 t_Lw_law_1119 := dk_go 1 a_Lw_law_1118 rfl
theorem a_Lw_law_1120 : dk_at code 1120 t_Lw_law_1120 := dk_go 1 a_Lw_law_1119 rfl
theorem a_Lw_law_1121 : dk_at code 1121 t_Lw_law_1121 := dk_go 1 a_Lw_law_1120 rfl
theorem a_Lw_law_1122 : dk_at code 1122 t_Lw_law_1122 := dk_go 1 a_Lw_law_1121 rfl
theorem a_Lw_law_1123 : dk_at code 1123 t_Lw_law_1123 := dk_go 1 a_Lw_law_1122 rfl
theorem a_Lw_law_1124 : dk_at code 1124 t_Lw_law_1124 := dk_go 1 a_Lw_law_1123 rfl
theorem a_Lw_law_1125 : dk_at code 1125 t_Lw_law_1125 := dk_go 1 a_Lw_law_1124 rfl
theorem a_Lw_law_1126 : dk_at code 1126 t_Lw_law_1126 := dk_go 1 a_Lw_law_1125 rfl
theorem a_Lw_law_1127 : dk_at code 1127 t_Lw_law_1127 := dk_go 1 a_Lw_law_1126 rfl
theorem a_Lw_law_1130 : dk_at code 1130 t_Lw_law_1130 := dk_go 3 a_Lw_law_1127 rfl
theorem a_Lw_law_1131 : dk_at code 1131 t_Lw_law_1131 := dk_go 1 a_Lw_law_1130 rfl
theorem a_Lw_law_1132 : dk_at code 1132 t_Lw_law_1132 := dk_go 1 a_Lw_law_1131 rfl
theorem a_Lw_law_1133 : dk_at code 1133 t_Lw_law_1133 := dk_go 1 a_Lw_law_1132 rfl
theorem a_Lw_law_1134 : dk_at code 1134 t_Lw_law_1134 := dk_go 1 a_Lw_law_1133 rfl
theorem a_Lw_law_1135 : dk_at code 1135 t_Lw_law_1135 := dk_go 1 a_Lw_law_1134 rfl
theorem a_Lw_law_1136 : dk_at code 1136 t_Lw_law_1136 := dk_go 1 a_Lw_law_1135 rfl
theorem a_Lw_law_1137 : dk_at code 1137 t_Lw_law_1137 := dk_go 1 a_Lw_law_1136 rfl
theorem a_Lw_law_1138 : dk_at code 1138 t_Lw_law_1138 := dk_go 1 a_Lw_law_1137 rfl
theorem a_Lw_law_1139 : dk_at code 1139 t_Lw_law_1139 := dk_go 1 a_Lw_law_1138 rfl
theorem a_Lw_law_1140 : dk_at code 1140 t_Lw_law_1140 := dk_go 1 a_Lw_law_1139 rfl
theorem a_Lw_law_1141 : dk_at code 1141 t_Lw_law_1141 := dk_go 1 a_Lw_law_1140 rfl
theorem a_Lw_law_1144 : dk_at code 1144 t_Lw_law_1144 := dk_go 3 a_Lw_law_1141 rfl
theorem a_Lw_law_1147 : dk_at code 1147 t_Lw_law_1147 := dk_go 3 a_Lw_law_1144 rfl
theorem a_Lw_law_1148 : dk_at code 1148 t_Lw_law_1148 := dk_go 1 a_Lw_law_1147 rfl
theorem a_Lw_law_1149 : dk_at code 1149 t_Lw_law_1149 := dk_go 1 a_Lw_law_1148 rfl
theorem a_Lw_law_1150 : dk_at code 1150 t_Lw_law_1150 := dk_go 1 a_Lw_law_1149 rfl
theorem a_Lw_law_1151 : dk_at code 1151 t_Lw_law_1151 := dk_go 1 a_Lw_law_1150 rfl
theorem a_Lw_law_1152 : dk_at code 1152 t_Lw_law_1152 := dk_go 1 a_Lw_law_1151 rfl
theorem a_Lw_law_1153 : dk_at code 1153 t_Lw_law_1153 := dk_go 1 a_Lw_law_1152 rfl
theorem a_Lw_law_1154 : dk_at code 1154 t_Lw_law_1154 := dk_go 1 a_Lw_law_1153 rfl
theorem a_Lw_law_1155 : dk_at code 1155 t_Lw_law_1155 := dk_go 1 a_Lw_law_1154 rfl
theorem a_Lw_law_1158 : dk_at code 1158 t_Lw_law_1158 := dk_go 3 a_Lw_law_1155 rfl
theorem a_Lw_law_1159 : dk_at code 1159 t_Lw_law_1159 := dk_go 1 a_Lw_law_1158 rfl
theorem a_Lw_law_1160 : dk_at code 1160 t_Lw_law_1160 := dk_go 1 a_Lw_law_1159 rfl
theorem a_Lw_law_1161 : dk_at code 1161 t_Lw_law_1161 := dk_go 1 a_Lw_law_1160 rfl
theorem a_Lw_law_1162 : dk_at code 1162 t_Lw_law_1162 := dk_go 1 a_Lw_law_1161 rfl
theorem a_Lw_law_1163 : dk_at code 1163 t_Lw_law_1163 := dk_go 1 a_Lw_law_1162 rfl
theorem a_Lw_law_1164 : dk_at code 1164 t_Lw_law_1164 := dk_go 1 a_Lw_law_1163 rfl
theorem a_Lw_law_1167 : dk_at code 1167 t_Lw_law_1167 := dk_go 3 a_Lw_law_1164 rfl
theorem a_Lw_law_1170 : dk_at code 1170 t_Lw_law_1170 := dk_go 3 a_Lw_law_1167 rfl
theorem a_Lw_law_1171 : dk_at code 1171 t_Lw_law_1171 := dk_go 1 a_Lw_law_1170 rfl
theorem a_Lw_law_1172 : dk_at code 1172 t_Lw_law_1172 := dk_go 1 a_Lw_law_1171 rfl
theorem a_Lw_law_1173 : dk_at code 1173 t_Lw_law_1173 := dk_go 1 a_Lw_law_1172 rfl
theorem a_Lw_law_1174 : dk_at code 1174 t_Lw_law_1174 := dk_go 1 a_Lw_law_1173 rfl
theorem a_Lw_law_1175 : dk_at code 1175 t_Lw_law_1175 := dk_go 1 a_Lw_law_1174 rfl
theorem a_Lw_law_1176 : dk_at code 1176 t_Lw_law_1176 := dk_go 1 a_Lw_law_1175 rfl
theorem a_Lw_law_1177 : dk_at code 1177 t_Lw_law_1177 := dk_go 1 a_Lw_law_1176 rfl
theorem a_Lw_law_1178 : dk_at code 1178 t_Lw_law_1178 := dk_go 1 a_Lw_law_1177 rfl
theorem a_Lw_law_1181 : dk_at code 1181 t_Lw_law_1181 := dk_go 3 a_Lw_law_1178 rfl
theorem a_Lw_law_1182 : dk_at code 1182 t_Lw_law_1182 := dk_go 1 a_Lw_law_1181 rfl
theorem a_Lw_law_1183 : dk_at code 1183 t_Lw_law_1183 := dk_go 1 a_Lw_law_1182 rfl
theorem a_Lw_law_1184 : dk_at code 1184 t_Lw_law_1184 := dk_go 1 a_Lw_law_1183 rfl
theorem a_Lw_law_1185 : dk_at code 1185 t_Lw_law_1185 := dk_go 1 a_Lw_law_1184 rfl
theorem a_Lw_law_1186 : dk_at code 1186 t_Lw_law_1186 := dk_go 1 a_Lw_law_1185 rfl
theorem a_Lw_law_1187 : dk_at code 1187 t_Lw_law_1187 := dk_go 1 a_Lw_law_1186 rfl
theorem a_Lw_law_1190 : dk_at code 1190 t_Lw_law_1190 := dk_go 3 a_Lw_law_1187 rfl
theorem a_Lw_law_1193 : dk_at code 1193 t_Lw_law_1193 := dk_go 3 a_Lw_law_1190 rfl
theorem a_Lw_law_1194 : dk_at code 1194 t_Lw_law_1194 := dk_go 1 a_Lw_law_1193 rfl
theorem a_Lw_law_1195 : dk_at code 1195 t_Lw_law_1195 := dk_go 1 a_Lw_law_1194 rfl
theorem a_Lw_law_1196 : dk_at code 1196 t_Lw_law_1196 := dk_go 1 a_Lw_law_1195 rfl
theorem a_Lw_law_1199 : dk_at code 1199 t_Lw_law_1199 := dk_go 3 a_Lw_law_1196 rfl
theorem a_Lw_law_1200 : dk_at code 1200 t_Lw_law_1200 := dk_go 1 a_Lw_law_1199 rfl
theorem a_Lw_law_1203 : dk_at code 1203 t_Lw_law_1203 := dk_go 3 a_Lw_law_1200 rfl
theorem a_Lw_law_1206 : dk_at code 1206 t_Lw_law_1206 := dk_go 3 a_Lw_law_1203 rfl
theorem a_Lw_law_1207 : dk_at code 1207 t_Lw_law_1207 := dk_go 1 a_Lw_law_1206 rfl
theorem a_Lw_law_1208 : dk_at code 1208 t_Lw_law_1208 := dk_go 1 a_Lw_law_1207 rfl
theorem a_Lw_law_1211 : dk_at code 1211 t_Lw_law_1211 := dk_go 3 a_Lw_law_1208 rfl
theorem a_Lw_law_1214 : dk_at code 1214 t_Lw_law_1214 := dk_go 3 a_Lw_law_1211 rfl
theorem a_Lw_law_1215 : dk_at code 1215 t_Lw_law_1215 := dk_go 1 a_Lw_law_1214 rfl
theorem d_Lw_law_0 : decode code 0 = .ok (.new 7, 3) := dk_U2 a_Lw_law_0 (dko_187 _) rfl
theorem d_Lw_law_3 : decode code 3 = .ok (.dup, 1) := dk_0 a_Lw_law_3 (dko_89 _)
theorem d_Lw_law_4 : decode code 4 = .ok (.invokespecial 9, 3) := dk_U2 a_Lw_law_4 (dko_183 _) rfl
theorem d_Lw_law_7 : decode code 7 = .ok (.astore_n 1, 1) := dk_0 a_Lw_law_7 (dko_76 _)
theorem d_Lw_law_8 : decode code 8 = .ok (.new 10, 3) := dk_U2 a_Lw_law_8 (dko_187 _) rfl
theorem d_Lw_law_11 : decode code 11 = .ok (.dup, 1) := dk_0 a_Lw_law_11 (dko_89 _)
theorem d_Lw_law_12 : decode code 12 = .ok (.invokespecial 12, 3) := dk_U2 a_Lw_law_12 (dko_183 _) rfl
theorem d_Lw_law_15 : decode code 15 = .ok (.astore_n 2, 1) := dk_0 a_Lw_law_15 (dko_77 _)
theorem d_Lw_law_16 : decode code 16 = .ok (.iconst 0, 1) := dk_0 a_Lw_law_16 (dko_3 _)
theorem d_Lw_law_17 : decode code 17 = .ok (.istore_n 3, 1) := dk_0 a_Lw_law_17 (dko_62 _)
theorem d_Lw_law_18 : decode code 18 = .ok (.iload_n 3, 1) := dk_0 a_Lw_law_18 (dko_29 _)
theorem d_Lw_law_19 : decode code 19 = .ok (.aload_n 0, 1) := dk_0 a_Lw_law_19 (dko_42 _)
theorem d_Lw_law_20 : decode code 20 = .ok (.arraylength, 1) := dk_0 a_Lw_law_20 (dko_190 _)
theorem d_Lw_law_21 : decode code 21 = .ok (.bipush 6, 2) := dk_S1 a_Lw_law_21 (dko_16 _) (by decide +kernel)
theorem d_Lw_law_23 : decode code 23 = .ok (.isub, 1) := dk_0 a_Lw_law_23 (dko_100 _)
theorem d_Lw_law_24 : decode code 24 = .ok (.if_icmp .gt 1190, 3) := dk_S2 a_Lw_law_24 (dko_163 _) (by decide +kernel)
theorem d_Lw_law_27 : decode code 27 = .ok (.aload_n 0, 1) := dk_0 a_Lw_law_27 (dko_42 _)
theorem d_Lw_law_28 : decode code 28 = .ok (.iload_n 3, 1) := dk_0 a_Lw_law_28 (dko_29 _)
theorem d_Lw_law_29 : decode code 29 = .ok (.iaload, 1) := dk_0 a_Lw_law_29 (dko_46 _)
theorem d_Lw_law_30 : decode code 30 = .ok (.bipush 31, 2) := dk_S1 a_Lw_law_30 (dko_16 _) (by decide +kernel)
theorem d_Lw_law_32 : decode code 32 = .ok (.iand, 1) := dk_0 a_Lw_law_32 (dko_126 _)
theorem d_Lw_law_33 : decode code 33 = .ok (.tableswitch 1175 0 28 #[131, 194, 227, 300, 333, 376, 409, 452, 535, 598, 661, 684, 697, 720, 773, 812, 825, 878, 901, 924, 957, 970, 994, 1017, 1050, 1083, 1116, 1139, 1162], 131) := by decide +kernel
theorem d_Lw_law_164 : decode code 164 = .ok (.aload_n 1, 1) := dk_0 a_Lw_law_164 (dko_43 _)
theorem d_Lw_law_165 : decode code 165 = .ok (.aload_n 0, 1) := dk_0 a_Lw_law_165 (dko_42 _)
theorem d_Lw_law_166 : decode code 166 = .ok (.iload_n 3, 1) := dk_0 a_Lw_law_166 (dko_29 _)
theorem d_Lw_law_167 : decode code 167 = .ok (.iconst 1, 1) := dk_0 a_Lw_law_167 (dko_4 _)
theorem d_Lw_law_168 : decode code 168 = .ok (.iadd, 1) := dk_0 a_Lw_law_168 (dko_96 _)
theorem d_Lw_law_169 : decode code 169 = .ok (.iaload, 1) := dk_0 a_Lw_law_169 (dko_46 _)
theorem d_Lw_law_170 : decode code 170 = .ok (.aload_n 0, 1) := dk_0 a_Lw_law_170 (dko_42 _)
theorem d_Lw_law_171 : decode code 171 = .ok (.iload_n 3, 1) := dk_0 a_Lw_law_171 (dko_29 _)
theorem d_Lw_law_172 : decode code 172 = .ok (.iconst 2, 1) := dk_0 a_Lw_law_172 (dko_5 _)
theorem d_Lw_law_173 : decode code 173 = .ok (.iadd, 1) := dk_0 a_Lw_law_173 (dko_96 _)
theorem d_Lw_law_174 : decode code 174 = .ok (.iaload, 1) := dk_0 a_Lw_law_174 (dko_46 _)
theorem d_Lw_law_175 : decode code 175 = .ok (.aload_n 0, 1) := dk_0 a_Lw_law_175 (dko_42 _)
theorem d_Lw_law_176 : decode code 176 = .ok (.iload_n 3, 1) := dk_0 a_Lw_law_176 (dko_29 _)
theorem d_Lw_law_177 : decode code 177 = .ok (.iconst 3, 1) := dk_0 a_Lw_law_177 (dko_6 _)
theorem d_Lw_law_178 : decode code 178 = .ok (.iadd, 1) := dk_0 a_Lw_law_178 (dko_96 _)
theorem d_Lw_law_179 : decode code 179 = .ok (.iaload, 1) := dk_0 a_Lw_law_179 (dko_46 _)
theorem d_Lw_law_180 : decode code 180 = .ok (.aload_n 0, 1) := dk_0 a_Lw_law_180 (dko_42 _)
theorem d_Lw_law_181 : decode code 181 = .ok (.iload_n 3, 1) := dk_0 a_Lw_law_181 (dko_29 _)
theorem d_Lw_law_182 : decode code 182 = .ok (.iconst 4, 1) := dk_0 a_Lw_law_182 (dko_7 _)
theorem d_Lw_law_183 : decode code 183 = .ok (.iadd, 1) := dk_0 a_Lw_law_183 (dko_96 _)
theorem d_Lw_law_184 : decode code 184 = .ok (.iaload, 1) := dk_0 a_Lw_law_184 (dko_46 _)
theorem d_Lw_law_185 : decode code 185 = .ok (.aload_n 0, 1) := dk_0 a_Lw_law_185 (dko_42 _)
theorem d_Lw_law_186 : decode code 186 = .ok (.iload_n 3, 1) := dk_0 a_Lw_law_186 (dko_29 _)
theorem d_Lw_law_187 : decode code 187 = .ok (.iconst 5, 1) := dk_0 a_Lw_law_187 (dko_8 _)
theorem d_Lw_law_188 : decode code 188 = .ok (.iadd, 1) := dk_0 a_Lw_law_188 (dko_96 _)
theorem d_Lw_law_189 : decode code 189 = .ok (.iaload, 1) := dk_0 a_Lw_law_189 (dko_46 _)
theorem d_Lw_law_190 : decode code 190 = .ok (.invokevirtual 13, 3) := dk_U2 a_Lw_law_190 (dko_182 _) rfl
theorem d_Lw_law_193 : decode code 193 = .ok (.aload_n 2, 1) := dk_0 a_Lw_law_193 (dko_44 _)
theorem d_Lw_law_194 : decode code 194 = .ok (.aload_n 0, 1) := dk_0 a_Lw_law_194 (dko_42 _)
theorem d_Lw_law_195 : decode code 195 = .ok (.iload_n 3, 1) := dk_0 a_Lw_law_195 (dko_29 _)
theorem d_Lw_law_196 : decode code 196 = .ok (.iconst 1, 1) := dk_0 a_Lw_law_196 (dko_4 _)
theorem d_Lw_law_197 : decode code 197 = .ok (.iadd, 1) := dk_0 a_Lw_law_197 (dko_96 _)
theorem d_Lw_law_198 : decode code 198 = .ok (.iaload, 1) := dk_0 a_Lw_law_198 (dko_46 _)
theorem d_Lw_law_199 : decode code 199 = .ok (.aload_n 0, 1) := dk_0 a_Lw_law_199 (dko_42 _)
theorem d_Lw_law_200 : decode code 200 = .ok (.iload_n 3, 1) := dk_0 a_Lw_law_200 (dko_29 _)
theorem d_Lw_law_201 : decode code 201 = .ok (.iconst 2, 1) := dk_0 a_Lw_law_201 (dko_5 _)
theorem d_Lw_law_202 : decode code 202 = .ok (.iadd, 1) := dk_0 a_Lw_law_202 (dko_96 _)
theorem d_Lw_law_203 : decode code 203 = .ok (.iaload, 1) := dk_0 a_Lw_law_203 (dko_46 _)
theorem d_Lw_law_204 : decode code 204 = .ok (.aload_n 0, 1) := dk_0 a_Lw_law_204 (dko_42 _)
theorem d_Lw_law_205 : decode code 205 = .ok (.iload_n 3, 1) := dk_0 a_Lw_law_205 (dko_29 _)
theorem d_Lw_law_206 : decode code 206 = .ok (.iconst 3, 1) := dk_0 a_Lw_law_206 (dko_6 _)
theorem d_Lw_law_207 : decode code 207 = .ok (.iadd, 1) := dk_0 a_Lw_law_207 (dko_96 _)
theorem d_Lw_law_208 : decode code 208 = .ok (.iaload, 1) := dk_0 a_Lw_law_208 (dko_46 _)
theorem d_Lw_law_209 : decode code 209 = .ok (.aload_n 0, 1) := dk_0 a_Lw_law_209 (dko_42 _)
theorem d_Lw_law_210 : decode code 210 = .ok (.iload_n 3, 1) := dk_0 a_Lw_law_210 (dko_29 _)
theorem d_Lw_law_211 : decode code 211 = .ok (.iconst 4, 1) := dk_0 a_Lw_law_211 (dko_7 _)
theorem d_Lw_law_212 : decode code 212 = .ok (.iadd, 1) := dk_0 a_Lw_law_212 (dko_96 _)
theorem d_Lw_law_213 : decode code 213 = .ok (.iaload, 1) := dk_0 a_Lw_law_213 (dko_46 _)
theorem d_Lw_law_214 : decode code 214 = .ok (.aload_n 0, 1) := dk_0 a_Lw_law_214 (dko_42 _)
theorem d_Lw_law_215 : decode code 215 = .ok (.iload_n 3, 1) := dk_0 a_Lw_law_215 (dko_29 _)
theorem d_Lw_law_216 : decode code 216 = .ok (.iconst 5, 1) := dk_0 a_Lw_law_216 (dko_8 _)
theorem d_Lw_law_217 : decode code 217 = .ok (.iadd, 1) := dk_0 a_Lw_law_217 (dko_96 _)
theorem d_Lw_law_218 : decode code 218 = .ok (.iaload, 1) := dk_0 a_Lw_law_218 (dko_46 _)
theorem d_Lw_law_219 : decode code 219 = .ok (.invokevirtual 17, 3) := dk_U2 a_Lw_law_219 (dko_182 _) rfl
theorem d_Lw_law_222 : decode code 222 = .ok (.if_icmp .eq 986, 3) := dk_S2 a_Lw_law_222 (dko_159 _) (by decide +kernel)
theorem d_Lw_law_225 : decode code 225 = .ok (.iconst 0, 1) := dk_0 a_Lw_law_225 (dko_3 _)
theorem d_Lw_law_226 : decode code 226 = .ok (.ireturn, 1) := dk_0 a_Lw_law_226 (dko_172 _)
theorem d_Lw_law_227 : decode code 227 = .ok (.aload_n 1, 1) := dk_0 a_Lw_law_227 (dko_43 _)
theorem d_Lw_law_228 : decode code 228 = .ok (.aload_n 0, 1) := dk_0 a_Lw_law_228 (dko_42 _)
theorem d_Lw_law_229 : decode code 229 = .ok (.iload_n 3, 1) := dk_0 a_Lw_law_229 (dko_29 _)
theorem d_Lw_law_230 : decode code 230 = .ok (.iconst 1, 1) := dk_0 a_Lw_law_230 (dko_4 _)
theorem d_Lw_law_231 : decode code 231 = .ok (.iadd, 1) := dk_0 a_Lw_law_231 (dko_96 _)
theorem d_Lw_law_232 : decode code 232 = .ok (.iaload, 1) := dk_0 a_Lw_law_232 (dko_46 _)
theorem d_Lw_law_233 : decode code 233 = .ok (.aload_n 0, 1) := dk_0 a_Lw_law_233 (dko_42 _)
theorem d_Lw_law_234 : decode code 234 = .ok (.iload_n 3, 1) := dk_0 a_Lw_law_234 (dko_29 _)
theorem d_Lw_law_235 : decode code 235 = .ok (.iconst 2, 1) := dk_0 a_Lw_law_235 (dko_5 _)
theorem d_Lw_law_236 : decode code 236 = .ok (.iadd, 1) := dk_0 a_Lw_law_236 (dko_96 _)
theorem d_Lw_law_237 : decode code 237 = .ok (.iaload, 1) := dk_0 a_Lw_law_237 (dko_46 _)
theorem d_Lw_law_238 : decode code 238 = .ok (.invokevirtual 18, 3) := dk_U2 a_Lw_law_238 (dko_182 _) rfl
theorem d_Lw_law_241 : decode code 241 = .ok (.aload_n 2, 1) := dk_0 a_Lw_law_241 (dko_44 _)
theorem d_Lw_law_242 : decode code 242 = .ok (.aload_n 0, 1) := dk_0 a_Lw_law_242 (dko_42 _)
theorem d_Lw_law_243 : decode code 243 = .ok (.iload_n 3, 1) := dk_0 a_Lw_law_243 (dko_29 _)
theorem d_Lw_law_244 : decode code 244 = .ok (.iconst 1, 1) := dk_0 a_Lw_law_244 (dko_4 _)
theorem d_Lw_law_245 : decode code 245 = .ok (.iadd, 1) := dk_0 a_Lw_law_245 (dko_96 _)
theorem d_Lw_law_246 : decode code 246 = .ok (.iaload, 1) := dk_0 a_Lw_law_246 (dko_46 _)
theorem d_Lw_law_247 : decode code 247 = .ok (.aload_n 0, 1) := dk_0 a_Lw_law_247 (dko_42 _)
theorem d_Lw_law_248 : decode code 248 = .ok (.iload_n 3, 1) := dk_0 a_Lw_law_248 (dko_29 _)
theorem d_Lw_law_249 : decode code 249 = .ok (.iconst 2, 1) := dk_0 a_Lw_law_249 (dko_5 _)
theorem d_Lw_law_250 : decode code 250 = .ok (.iadd, 1) := dk_0 a_Lw_law_250 (dko_96 _)
theorem d_Lw_law_251 : decode code 251 = .ok (.iaload, 1) := dk_0 a_Lw_law_251 (dko_46 _)
theorem d_Lw_law_252 : decode code 252 = .ok (.invokevirtual 22, 3) := dk_U2 a_Lw_law_252 (dko_182 _) rfl
theorem d_Lw_law_255 : decode code 255 = .ok (.if_icmp .eq 953, 3) := dk_S2 a_Lw_law_255 (dko_159 _) (by decide +kernel)
theorem d_Lw_law_258 : decode code 258 = .ok (.iconst 0, 1) := dk_0 a_Lw_law_258 (dko_3 _)
theorem d_Lw_law_259 : decode code 259 = .ok (.ireturn, 1) := dk_0 a_Lw_law_259 (dko_172 _)
theorem d_Lw_law_260 : decode code 260 = .ok (.aload_n 1, 1) := dk_0 a_Lw_law_260 (dko_43 _)
theorem d_Lw_law_261 : decode code 261 = .ok (.aload_n 0, 1) := dk_0 a_Lw_law_261 (dko_42 _)
theorem d_Lw_law_262 : decode code 262 = .ok (.iload_n 3, 1) := dk_0 a_Lw_law_262 (dko_29 _)
theorem d_Lw_law_263 : decode code 263 = .ok (.iconst 1, 1) := dk_0 a_Lw_law_263 (dko_4 _)
theorem d_Lw_law_264 : decode code 264 = .ok (.iadd, 1) := dk_0 a_Lw_law_264 (dko_96 _)
theorem d_Lw_law_265 : decode code 265 = .ok (.iaload, 1) := dk_0 a_Lw_law_265 (dko_46 _)
theorem d_Lw_law_266 : decode code 266 = .ok (.aload_n 0, 1) := dk_0 a_Lw_law_266 (dko_42 _)
theorem d_Lw_law_267 : decode code 267 = .ok (.iload_n 3, 1) := dk_0 a_Lw_law_267 (dko_29 _)
theorem d_Lw_law_268 : decode code 268 = .ok (.iconst 2, 1) := dk_0 a_Lw_law_268 (dko_5 _)
theorem d_Lw_law_269 : decode code 269 = .ok (.iadd, 1) := dk_0 a_Lw_law_269 (dko_96 _)
theorem d_Lw_law_270 : decode code 270 = .ok (.iaload, 1) := dk_0 a_Lw_law_270 (dko_46 _)
theorem d_Lw_law_271 : decode code 271 = .ok (.aload_n 0, 1) := dk_0 a_Lw_law_271 (dko_42 _)
theorem d_Lw_law_272 : decode code 272 = .ok (.iload_n 3, 1) := dk_0 a_Lw_law_272 (dko_29 _)
theorem d_Lw_law_273 : decode code 273 = .ok (.iconst 3, 1) := dk_0 a_Lw_law_273 (dko_6 _)
theorem d_Lw_law_274 : decode code 274 = .ok (.iadd, 1) := dk_0 a_Lw_law_274 (dko_96 _)
theorem d_Lw_law_275 : decode code 275 = .ok (.iaload, 1) := dk_0 a_Lw_law_275 (dko_46 _)
theorem d_Lw_law_276 : decode code 276 = .ok (.i2l, 1) := dk_0 a_Lw_law_276 (dko_133 _)
theorem d_Lw_law_277 : decode code 277 = .ok (.bipush 32, 2) := dk_S1 a_Lw_law_277 (dko_16 _) (by decide +kernel)
theorem d_Lw_law_279 : decode code 279 = .ok (.lshl, 1) := dk_0 a_Lw_law_279 (dko_121 _)
theorem d_Lw_law_280 : decode code 280 = .ok (.aload_n 0, 1) := dk_0 a_Lw_law_280 (dko_42 _)
theorem d_Lw_law_281 : decode code 281 = .ok (.iload_n 3, 1) := dk_0 a_Lw_law_281 (dko_29 _)
theorem d_Lw_law_282 : decode code 282 = .ok (.iconst 4, 1) := dk_0 a_Lw_law_282 (dko_7 _)
theorem d_Lw_law_283 : decode code 283 = .ok (.iadd, 1) := dk_0 a_Lw_law_283 (dko_96 _)
theorem d_Lw_law_284 : decode code 284 = .ok (.iaload, 1) := dk_0 a_Lw_law_284 (dko_46 _)
theorem d_Lw_law_285 : decode code 285 = .ok (.i2l, 1) := dk_0 a_Lw_law_285 (dko_133 _)
theorem d_Lw_law_286 : decode code 286 = .ok (.ldc2_w 23, 3) := dk_U2 a_Lw_law_286 (dko_20 _) rfl
theorem d_Lw_law_289 : decode code 289 = .ok (.land, 1) := dk_0 a_Lw_law_289 (dko_127 _)
theorem d_Lw_law_290 : decode code 290 = .ok (.lor, 1) := dk_0 a_Lw_law_290 (dko_129 _)
theorem d_Lw_law_291 : decode code 291 = .ok (.invokevirtual 25, 3) := dk_U2 a_Lw_law_291 (dko_182 _) rfl
theorem d_Lw_law_294 : decode code 294 = .ok (.aload_n 2, 1) := dk_0 a_Lw_law_294 (dko_44 _)
theorem d_Lw_law_295 : decode code 295 = .ok (.aload_n 0, 1) := dk_0 a_Lw_law_295 (dko_42 _)
theorem d_Lw_law_296 : decode code 296 = .ok (.iload_n 3, 1) := dk_0 a_Lw_law_296 (dko_29 _)
theorem d_Lw_law_297 : decode code 297 = .ok (.iconst 1, 1) := dk_0 a_Lw_law_297 (dko_4 _)
theorem d_Lw_law_298 : decode code 298 = .ok (.iadd, 1) := dk_0 a_Lw_law_298 (dko_96 _)
theorem d_Lw_law_299 : decode code 299 = .ok (.iaload, 1) := dk_0 a_Lw_law_299 (dko_46 _)
theorem d_Lw_law_300 : decode code 300 = .ok (.aload_n 0, 1) := dk_0 a_Lw_law_300 (dko_42 _)
theorem d_Lw_law_301 : decode code 301 = .ok (.iload_n 3, 1) := dk_0 a_Lw_law_301 (dko_29 _)
theorem d_Lw_law_302 : decode code 302 = .ok (.iconst 2, 1) := dk_0 a_Lw_law_302 (dko_5 _)
theorem d_Lw_law_303 : decode code 303 = .ok (.iadd, 1) := dk_0 a_Lw_law_303 (dko_96 _)
theorem d_Lw_law_304 : decode code 304 = .ok (.iaload, 1) := dk_0 a_Lw_law_304 (dko_46 _)
theorem d_Lw_law_305 : decode code 305 = .ok (.aload_n 0, 1) := dk_0 a_Lw_law_305 (dko_42 _)
theorem d_Lw_law_306 : decode code 306 = .ok (.iload_n 3, 1) := dk_0 a_Lw_law_306 (dko_29 _)
theorem d_Lw_law_307 : decode code 307 = .ok (.iconst 3, 1) := dk_0 a_Lw_law_307 (dko_6 _)
theorem d_Lw_law_308 : decode code 308 = .ok (.iadd, 1) := dk_0 a_Lw_law_308 (dko_96 _)
theorem d_Lw_law_309 : decode code 309 = .ok (.iaload, 1) := dk_0 a_Lw_law_309 (dko_46 _)
theorem d_Lw_law_310 : decode code 310 = .ok (.i2l, 1) := dk_0 a_Lw_law_310 (dko_133 _)
theorem d_Lw_law_311 : decode code 311 = .ok (.bipush 32, 2) := dk_S1 a_Lw_law_311 (dko_16 _) (by decide +kernel)
theorem d_Lw_law_313 : decode code 313 = .ok (.lshl, 1) := dk_0 a_Lw_law_313 (dko_121 _)
theorem d_Lw_law_314 : decode code 314 = .ok (.aload_n 0, 1) := dk_0 a_Lw_law_314 (dko_42 _)
theorem d_Lw_law_315 : decode code 315 = .ok (.iload_n 3, 1) := dk_0 a_Lw_law_315 (dko_29 _)
theorem d_Lw_law_316 : decode code 316 = .ok (.iconst 4, 1) := dk_0 a_Lw_law_316 (dko_7 _)
theorem d_Lw_law_317 : decode code 317 = .ok (.iadd, 1) := dk_0 a_Lw_law_317 (dko_96 _)
theorem d_Lw_law_318 : decode code 318 = .ok (.iaload, 1) := dk_0 a_Lw_law_318 (dko_46 _)
theorem d_Lw_law_319 : decode code 319 = .ok (.i2l, 1) := dk_0 a_Lw_law_319 (dko_133 _)
theorem d_Lw_law_320 : decode code 320 = .ok (.ldc2_w 23, 3) := dk_U2 a_Lw_law_320 (dko_20 _) rfl
theorem d_Lw_law_323 : decode code 323 = .ok (.land, 1) := dk_0 a_Lw_law_323 (dko_127 _)
theorem d_Lw_law_324 : decode code 324 = .ok (.lor, 1) := dk_0 a_Lw_law_324 (dko_129 _)
theorem d_Lw_law_325 : decode code 325 = .ok (.invokevirtual 29, 3) := dk_U2 a_Lw_law_325 (dko_182 _) rfl
theorem d_Lw_law_328 : decode code 328 = .ok (.if_icmp .eq 880, 3) := dk_S2 a_Lw_law_328 (dko_159 _) (by decide +kernel)
theorem d_Lw_law_331 : decode code 331 = .ok (.iconst 0, 1) := dk_0 a_Lw_law_331 (dko_3 _)
theorem d_Lw_law_332 : decode code 332 = .ok (.ireturn, 1) := dk_0 a_Lw_law_332 (dko_172 _)
theorem d_Lw_law_333 : decode code 333 = .ok (.aload_n 1, 1) := dk_0 a_Lw_law_333 (dko_43 _)
theorem d_Lw_law_334 : decode code 334 = .ok (.aload_n 0, 1) := dk_0 a_Lw_law_334 (dko_42 _)
theorem d_Lw_law_335 : decode code 335 = .ok (.iload_n 3, 1) := dk_0 a_Lw_law_335 (dko_29 _)
theorem d_Lw_law_336 : decode code 336 = .ok (.iconst 1, 1) := dk_0 a_Lw_law_336 (dko_4 _)
theorem d_Lw_law_337 : decode code 337 = .ok (.iadd, 1) := dk_0 a_Lw_law_337 (dko_96 _)
theorem d_Lw_law_338 : decode code 338 = .ok (.iaload, 1) := dk_0 a_Lw_law_338 (dko_46 _)
theorem d_Lw_law_339 : decode code 339 = .ok (.aload_n 0, 1) := dk_0 a_Lw_law_339 (dko_42 _)
theorem d_Lw_law_340 : decode code 340 = .ok (.iload_n 3, 1) := dk_0 a_Lw_law_340 (dko_29 _)
theorem d_Lw_law_341 : decode code 341 = .ok (.iconst 2, 1) := dk_0 a_Lw_law_341 (dko_5 _)
theorem d_Lw_law_342 : decode code 342 = .ok (.iadd, 1) := dk_0 a_Lw_law_342 (dko_96 _)
theorem d_Lw_law_343 : decode code 343 = .ok (.iaload, 1) := dk_0 a_Lw_law_343 (dko_46 _)
theorem d_Lw_law_344 : decode code 344 = .ok (.invokevirtual 30, 3) := dk_U2 a_Lw_law_344 (dko_182 _) rfl
theorem d_Lw_law_347 : decode code 347 = .ok (.aload_n 2, 1) := dk_0 a_Lw_law_347 (dko_44 _)
theorem d_Lw_law_348 : decode code 348 = .ok (.aload_n 0, 1) := dk_0 a_Lw_law_348 (dko_42 _)
theorem d_Lw_law_349 : decode code 349 = .ok (.iload_n 3, 1) := dk_0 a_Lw_law_349 (dko_29 _)
theorem d_Lw_law_350 : decode code 350 = .ok (.iconst 1, 1) := dk_0 a_Lw_law_350 (dko_4 _)
theorem d_Lw_law_351 : decode code 351 = .ok (.iadd, 1) := dk_0 a_Lw_law_351 (dko_96 _)
theorem d_Lw_law_352 : decode code 352 = .ok (.iaload, 1) := dk_0 a_Lw_law_352 (dko_46 _)
theorem d_Lw_law_353 : decode code 353 = .ok (.aload_n 0, 1) := dk_0 a_Lw_law_353 (dko_42 _)
theorem d_Lw_law_354 : decode code 354 = .ok (.iload_n 3, 1) := dk_0 a_Lw_law_354 (dko_29 _)
theorem d_Lw_law_355 : decode code 355 = .ok (.iconst 2, 1) := dk_0 a_Lw_law_355 (dko_5 _)
theorem d_Lw_law_356 : decode code 356 = .ok (.iadd, 1) := dk_0 a_Lw_law_356 (dko_96 _)
theorem d_Lw_law_357 : decode code 357 = .ok (.iaload, 1) := dk_0 a_Lw_law_357 (dko_46 _)
theorem d_Lw_law_358 : decode code 358 = .ok (.invokevirtual 34, 3) := dk_U2 a_Lw_law_358 (dko_182 _) rfl
theorem d_Lw_law_361 : decode code 361 = .ok (.if_icmp .eq 847, 3) := dk_S2 a_Lw_law_361 (dko_159 _) (by decide +kernel)
theorem d_Lw_law_364 : decode code 364 = .ok (.iconst 0, 1) := dk_0 a_Lw_law_364 (dko_3 _)
theorem d_Lw_law_365 : decode code 365 = .ok (.ireturn, 1) := dk_0 a_Lw_law_365 (dko_172 _)
theorem d_Lw_law_366 : decode code 366 = .ok (.aload_n 1, 1) := dk_0 a_Lw_law_366 (dko_43 _)
theorem d_Lw_law_367 : decode code 367 = .ok (.aload_n 0, 1) := dk_0 a_Lw_law_367 (dko_42 _)
theorem d_Lw_law_368 : decode code 368 = .ok (.iload_n 3, 1) := dk_0 a_Lw_law_368 (dko_29 _)
theorem d_Lw_law_369 : decode code 369 = .ok (.iconst 1, 1) := dk_0 a_Lw_law_369 (dko_4 _)
theorem d_Lw_law_370 : decode code 370 = .ok (.iadd, 1) := dk_0 a_Lw_law_370 (dko_96 _)
theorem d_Lw_law_371 : decode code 371 = .ok (.iaload, 1) := dk_0 a_Lw_law_371 (dko_46 _)
theorem d_Lw_law_372 : decode code 372 = .ok (.aload_n 0, 1) := dk_0 a_Lw_law_372 (dko_42 _)
theorem d_Lw_law_373 : decode code 373 = .ok (.iload_n 3, 1) := dk_0 a_Lw_law_373 (dko_29 _)
theorem d_Lw_law_374 : decode code 374 = .ok (.iconst 2, 1) := dk_0 a_Lw_law_374 (dko_5 _)
theorem d_Lw_law_375 : decode code 375 = .ok (.iadd, 1) := dk_0 a_Lw_law_375 (dko_96 _)
theorem d_Lw_law_376 : decode code 376 = .ok (.iaload, 1) := dk_0 a_Lw_law_376 (dko_46 _)
theorem d_Lw_law_377 : decode code 377 = .ok (.aload_n 0, 1) := dk_0 a_Lw_law_377 (dko_42 _)
theorem d_Lw_law_378 : decode code 378 = .ok (.iload_n 3, 1) := dk_0 a_Lw_law_378 (dko_29 _)
theorem d_Lw_law_379 : decode code 379 = .ok (.iconst 3, 1) := dk_0 a_Lw_law_379 (dko_6 _)
theorem d_Lw_law_380 : decode code 380 = .ok (.iadd, 1) := dk_0 a_Lw_law_380 (dko_96 _)
theorem d_Lw_law_381 : decode code 381 = .ok (.iaload, 1) := dk_0 a_Lw_law_381 (dko_46 _)
theorem d_Lw_law_382 : decode code 382 = .ok (.invokevirtual 35, 3) := dk_U2 a_Lw_law_382 (dko_182 _) rfl
theorem d_Lw_law_385 : decode code 385 = .ok (.aload_n 2, 1) := dk_0 a_Lw_law_385 (dko_44 _)
theorem d_Lw_law_386 : decode code 386 = .ok (.aload_n 0, 1) := dk_0 a_Lw_law_386 (dko_42 _)
theorem d_Lw_law_387 : decode code 387 = .ok (.iload_n 3, 1) := dk_0 a_Lw_law_387 (dko_29 _)
theorem d_Lw_law_388 : decode code 388 = .ok (.iconst 1, 1) := dk_0 a_Lw_law_388 (dko_4 _)
theorem d_Lw_law_389 : decode code 389 = .ok (.iadd, 1) := dk_0 a_Lw_law_389 (dko_96 _)
theorem d_Lw_law_390 : decode code 390 = .ok (.iaload, 1) := dk_0 a_Lw_law_390 (dko_46 _)
theorem d_Lw_law_391 : decode code 391 = .ok (.aload_n 0, 1) := dk_0 a_Lw_law_391 (dko_42 _)
theorem d_Lw_law_392 : decode code 392 = .ok (.iload_n 3, 1) := dk_0 a_Lw_law_392 (dko_29 _)
theorem d_Lw_law_393 : decode code 393 = .ok (.iconst 2, 1) := dk_0 a_Lw_law_393 (dko_5 _)
theorem d_Lw_law_394 : decode code 394 = .ok (.iadd, 1) := dk_0 a_Lw_law_394 (dko_96 _)
theorem d_Lw_law_395 : decode code 395 = .ok (.iaload, 1) := dk_0 a_Lw_law_395 (dko_46 _)
theorem d_Lw_law_396 : decode code 396 = .ok (.aload_n 0, 1) := dk_0 a_Lw_law_396 (dko_42 _)
theorem d_Lw_law_397 : decode code 397 = .ok (.iload_n 3, 1) := dk_0 a_Lw_law_397 (dko_29 _)
theorem d_Lw_law_398 : decode code 398 = .ok (.iconst 3, 1) := dk_0 a_Lw_law_398 (dko_6 _)
theorem d_Lw_law_399 : decode code 399 = .ok (.iadd, 1) := dk_0 a_Lw_law_399 (dko_96 _)
theorem d_Lw_law_400 : decode code 400 = .ok (.iaload, 1) := dk_0 a_Lw_law_400 (dko_46 _)
theorem d_Lw_law_401 : decode code 401 = .ok (.invokevirtual 39, 3) := dk_U2 a_Lw_law_401 (dko_182 _) rfl
theorem d_Lw_law_404 : decode code 404 = .ok (.if_icmp .eq 804, 3) := dk_S2 a_Lw_law_404 (dko_159 _) (by decide +kernel)
theorem d_Lw_law_407 : decode code 407 = .ok (.iconst 0, 1) := dk_0 a_Lw_law_407 (dko_3 _)
theorem d_Lw_law_408 : decode code 408 = .ok (.ireturn, 1) := dk_0 a_Lw_law_408 (dko_172 _)
theorem d_Lw_law_409 : decode code 409 = .ok (.aload_n 1, 1) := dk_0 a_Lw_law_409 (dko_43 _)
theorem d_Lw_law_410 : decode code 410 = .ok (.aload_n 0, 1) := dk_0 a_Lw_law_410 (dko_42 _)
theorem d_Lw_law_411 : decode code 411 = .ok (.iload_n 3, 1) := dk_0 a_Lw_law_411 (dko_29 _)
theorem d_Lw_law_412 : decode code 412 = .ok (.iconst 1, 1) := dk_0 a_Lw_law_412 (dko_4 _)
theorem d_Lw_law_413 : decode code 413 = .ok (.iadd, 1) := dk_0 a_Lw_law_413 (dko_96 _)
theorem d_Lw_law_414 : decode code 414 = .ok (.iaload, 1) := dk_0 a_Lw_law_414 (dko_46 _)
theorem d_Lw_law_415 : decode code 415 = .ok (.aload_n 0, 1) := dk_0 a_Lw_law_415 (dko_42 _)
theorem d_Lw_law_416 : decode code 416 = .ok (.iload_n 3, 1) := dk_0 a_Lw_law_416 (dko_29 _)
theorem d_Lw_law_417 : decode code 417 = .ok (.iconst 2, 1) := dk_0 a_Lw_law_417 (dko_5 _)
theorem d_Lw_law_418 : decode code 418 = .ok (.iadd, 1) := dk_0 a_Lw_law_418 (dko_96 _)
theorem d_Lw_law_419 : decode code 419 = .ok (.iaload, 1) := dk_0 a_Lw_law_419 (dko_46 _)
theorem d_Lw_law_420 : decode code 420 = .ok (.invokevirtual 40, 3) := dk_U2 a_Lw_law_420 (dko_182 _) rfl
theorem d_Lw_law_423 : decode code 423 = .ok (.aload_n 2, 1) := dk_0 a_Lw_law_423 (dko_44 _)
theorem d_Lw_law_424 : decode code 424 = .ok (.aload_n 0, 1) := dk_0 a_Lw_law_424 (dko_42 _)
theorem d_Lw_law_425 : decode code 425 = .ok (.iload_n 3, 1) := dk_0 a_Lw_law_425 (dko_29 _)
theorem d_Lw_law_426 : decode code 426 = .ok (.iconst 1, 1) := dk_0 a_Lw_law_426 (dko_4 _)
theorem d_Lw_law_427 : decode code 427 = .ok (.iadd, 1) := dk_0 a_Lw_law_427 (dko_96 _)
theorem d_Lw_law_428 : decode code 428 = .ok (.iaload, 1) := dk_0 a_Lw_law_428 (dko_46 _)
theorem d_Lw_law_429 : decode code 429 = .ok (.aload_n 0, 1) := dk_0 a_Lw_law_429 (dko_42 _)
theorem d_Lw_law_430 : decode code 430 = .ok (.iload_n 3, 1) := dk_0 a_Lw_law_430 (dko_29 _)
theorem d_Lw_law_431 : decode code 431 = .ok (.iconst 2, 1) := dk_0 a_Lw_law_431 (dko_5 _)
theorem d_Lw_law_432 : decode code 432 = .ok (.iadd, 1) := dk_0 a_Lw_law_432 (dko_96 _)
theorem d_Lw_law_433 : decode code 433 = .ok (.iaload, 1) := dk_0 a_Lw_law_433 (dko_46 _)
theorem d_Lw_law_434 : decode code 434 = .ok (.invokevirtual 43, 3) := dk_U2 a_Lw_law_434 (dko_182 _) rfl
theorem d_Lw_law_437 : decode code 437 = .ok (.if_icmp .eq 771, 3) := dk_S2 a_Lw_law_437 (dko_159 _) (by decide +kernel)
theorem d_Lw_law_440 : decode code 440 = .ok (.iconst 0, 1) := dk_0 a_Lw_law_440 (dko_3 _)
theorem d_Lw_law_441 : decode code 441 = .ok (.ireturn, 1) := dk_0 a_Lw_law_441 (dko_172 _)
theorem d_Lw_law_442 : decode code 442 = .ok (.aload_n 1, 1) := dk_0 a_Lw_law_442 (dko_43 _)
theorem d_Lw_law_443 : decode code 443 = .ok (.aload_n 0, 1) := dk_0 a_Lw_law_443 (dko_42 _)
theorem d_Lw_law_444 : decode code 444 = .ok (.iload_n 3, 1) := dk_0 a_Lw_law_444 (dko_29 _)
theorem d_Lw_law_445 : decode code 445 = .ok (.iconst 1, 1) := dk_0 a_Lw_law_445 (dko_4 _)
theorem d_Lw_law_446 : decode code 446 = .ok (.iadd, 1) := dk_0 a_Lw_law_446 (dko_96 _)
theorem d_Lw_law_447 : decode code 447 = .ok (.iaload, 1) := dk_0 a_Lw_law_447 (dko_46 _)
theorem d_Lw_law_448 : decode code 448 = .ok (.aload_n 0, 1) := dk_0 a_Lw_law_448 (dko_42 _)
theorem d_Lw_law_449 : decode code 449 = .ok (.iload_n 3, 1) := dk_0 a_Lw_law_449 (dko_29 _)
theorem d_Lw_law_450 : decode code 450 = .ok (.iconst 2, 1) := dk_0 a_Lw_law_450 (dko_5 _)
theorem d_Lw_law_451 : decode code 451 = .ok (.iadd, 1) := dk_0 a_Lw_law_451 (dko_96 _)
theorem d_Lw_law_452 : decode code 452 = .ok (.iaload, 1) := dk_0 a_Lw_law_452 (dko_46 _)
theorem d_Lw_law_453 : decode code 453 = .ok (.aload_n 0, 1) := dk_0 a_Lw_law_453 (dko_42 _)
theorem d_Lw_law_454 : decode code 454 = .ok (.iload_n 3, 1) := dk_0 a_Lw_law_454 (dko_29 _)
theorem d_Lw_law_455 : decode code 455 = .ok (.iconst 3, 1) := dk_0 a_Lw_law_455 (dko_6 _)
theorem d_Lw_law_456 : decode code 456 = .ok (.iadd, 1) := dk_0 a_Lw_law_456 (dko_96 _)
theorem d_Lw_law_457 : decode code 457 = .ok (.iaload, 1) := dk_0 a_Lw_law_457 (dko_46 _)
theorem d_Lw_law_458 : decode code 458 = .ok (.invokevirtual 44, 3) := dk_U2 a_Lw_law_458 (dko_182 _) rfl
theorem d_Lw_law_461 : decode code 461 = .ok (.aload_n 2, 1) := dk_0 a_Lw_law_461 (dko_44 _)
theorem d_Lw_law_462 : decode code 462 = .ok (.aload_n 0, 1) := dk_0 a_Lw_law_462 (dko_42 _)
theorem d_Lw_law_463 : decode code 463 = .ok (.iload_n 3, 1) := dk_0 a_Lw_law_463 (dko_29 _)
theorem d_Lw_law_464 : decode code 464 = .ok (.iconst 1, 1) := dk_0 a_Lw_law_464 (dko_4 _)
theorem d_Lw_law_465 : decode code 465 = .ok (.iadd, 1) := dk_0 a_Lw_law_465 (dko_96 _)
theorem d_Lw_law_466 : decode code 466 = .ok (.iaload, 1) := dk_0 a_Lw_law_466 (dko_46 _)
theorem d_Lw_law_467 : decode code 467 = .ok (.aload_n 0, 1) := dk_0 a_Lw_law_467 (dko_42 _)
theorem d_Lw_law_468 : decode code 468 = .ok (.iload_n 3, 1) := dk_0 a_Lw_law_468 (dko_29 _)
theorem d_Lw_law_469 : decode code 469 = .ok (.iconst 2, 1) := dk_0 a_Lw_law_469 (dko_5 _)
theorem d_Lw_law_470 : decode code 470 = .ok (.iadd, 1) := dk_0 a_Lw_law_470 (dko_96 _)
theorem d_Lw_law_471 : decode code 471 = .ok (.iaload, 1) := dk_0 a_Lw_law_471 (dko_46 _)
theorem d_Lw_law_472 : decode code 472 = .ok (.aload_n 0, 1) := dk_0 a_Lw_law_472 (dko_42 _)
theorem d_Lw_law_473 : decode code 473 = .ok (.iload_n 3, 1) := dk_0 a_Lw_law_473 (dko_29 _)
theorem d_Lw_law_474 : decode code 474 = .ok (.iconst 3, 1) := dk_0 a_Lw_law_474 (dko_6 _)
theorem d_Lw_law_475 : decode code 475 = .ok (.iadd, 1) := dk_0 a_Lw_law_475 (dko_96 _)
theorem d_Lw_law_476 : decode code 476 = .ok (.iaload, 1) := dk_0 a_Lw_law_476 (dko_46 _)
theorem d_Lw_law_477 : decode code 477 = .ok (.invokevirtual 47, 3) := dk_U2 a_Lw_law_477 (dko_182 _) rfl
theorem d_Lw_law_480 : decode code 480 = .ok (.if_icmp .eq 728, 3) := dk_S2 a_Lw_law_480 (dko_159 _) (by decide +kernel)
theorem d_Lw_law_483 : decode code 483 = .ok (.iconst 0, 1) := dk_0 a_Lw_law_483 (dko_3 _)
theorem d_Lw_law_484 : decode code 484 = .ok (.ireturn, 1) := dk_0 a_Lw_law_484 (dko_172 _)
theorem d_Lw_law_485 : decode code 485 = .ok (.aload_n 1, 1) := dk_0 a_Lw_law_485 (dko_43 _)
theorem d_Lw_law_486 : decode code 486 = .ok (.aload_n 0, 1) := dk_0 a_Lw_law_486 (dko_42 _)
theorem d_Lw_law_487 : decode code 487 = .ok (.iload_n 3, 1) := dk_0 a_Lw_law_487 (dko_29 _)
theorem d_Lw_law_488 : decode code 488 = .ok (.iconst 1, 1) := dk_0 a_Lw_law_488 (dko_4 _)
theorem d_Lw_law_489 : decode code 489 = .ok (.iadd, 1) := dk_0 a_Lw_law_489 (dko_96 _)
theorem d_Lw_law_490 : decode code 490 = .ok (.iaload, 1) := dk_0 a_Lw_law_490 (dko_46 _)
theorem d_Lw_law_491 : decode code 491 = .ok (.aload_n 0, 1) := dk_0 a_Lw_law_491 (dko_42 _)
theorem d_Lw_law_492 : decode code 492 = .ok (.iload_n 3, 1) := dk_0 a_Lw_law_492 (dko_29 _)
theorem d_Lw_law_493 : decode code 493 = .ok (.iconst 2, 1) := dk_0 a_Lw_law_493 (dko_5 _)
theorem d_Lw_law_494 : decode code 494 = .ok (.iadd, 1) := dk_0 a_Lw_law_494 (dko_96 _)
theorem d_Lw_law_495 : decode code 495 = .ok (.iaload, 1) := dk_0 a_Lw_law_495 (dko_46 _)
theorem d_Lw_law_496 : decode code 496 = .ok (.aload_n 0, 1) := dk_0 a_Lw_law_496 (dko_42 _)
theorem d_Lw_law_497 : decode code 497 = .ok (.iload_n 3, 1) := dk_0 a_Lw_law_497 (dko_29 _)
theorem d_Lw_law_498 : decode code 498 = .ok (.iconst 3, 1) := dk_0 a_Lw_law_498 (dko_6 _)
theorem d_Lw_law_499 : decode code 499 = .ok (.iadd, 1) := dk_0 a_Lw_law_499 (dko_96 _)
theorem d_Lw_law_500 : decode code 500 = .ok (.iaload, 1) := dk_0 a_Lw_law_500 (dko_46 _)
theorem d_Lw_law_501 : decode code 501 = .ok (.aload_n 0, 1) := dk_0 a_Lw_law_501 (dko_42 _)
theorem d_Lw_law_502 : decode code 502 = .ok (.iload_n 3, 1) := dk_0 a_Lw_law_502 (dko_29 _)
theorem d_Lw_law_503 : decode code 503 = .ok (.iconst 4, 1) := dk_0 a_Lw_law_503 (dko_7 _)
theorem d_Lw_law_504 : decode code 504 = .ok (.iadd, 1) := dk_0 a_Lw_law_504 (dko_96 _)
theorem d_Lw_law_505 : decode code 505 = .ok (.iaload, 1) := dk_0 a_Lw_law_505 (dko_46 _)
theorem d_Lw_law_506 : decode code 506 = .ok (.i2l, 1) := dk_0 a_Lw_law_506 (dko_133 _)
theorem d_Lw_law_507 : decode code 507 = .ok (.bipush 32, 2) := dk_S1 a_Lw_law_507 (dko_16 _) (by decide +kernel)
theorem d_Lw_law_509 : decode code 509 = .ok (.lshl, 1) := dk_0 a_Lw_law_509 (dko_121 _)
theorem d_Lw_law_510 : decode code 510 = .ok (.aload_n 0, 1) := dk_0 a_Lw_law_510 (dko_42 _)
theorem d_Lw_law_511 : decode code 511 = .ok (.iload_n 3, 1) := dk_0 a_Lw_law_511 (dko_29 _)
theorem d_Lw_law_512 : decode code 512 = .ok (.iconst 5, 1) := dk_0 a_Lw_law_512 (dko_8 _)
theorem d_Lw_law_513 : decode code 513 = .ok (.iadd, 1) := dk_0 a_Lw_law_513 (dko_96 _)
theorem d_Lw_law_514 : decode code 514 = .ok (.iaload, 1) := dk_0 a_Lw_law_514 (dko_46 _)
theorem d_Lw_law_515 : decode code 515 = .ok (.i2l, 1) := dk_0 a_Lw_law_515 (dko_133 _)
theorem d_Lw_law_516 : decode code 516 = .ok (.ldc2_w 23, 3) := dk_U2 a_Lw_law_516 (dko_20 _) rfl
theorem d_Lw_law_519 : decode code 519 = .ok (.land, 1) := dk_0 a_Lw_law_519 (dko_127 _)
theorem d_Lw_law_520 : decode code 520 = .ok (.lor, 1) := dk_0 a_Lw_law_520 (dko_129 _)
theorem d_Lw_law_521 : decode code 521 = .ok (.invokevirtual 48, 3) := dk_U2 a_Lw_law_521 (dko_182 _) rfl
theorem d_Lw_law_524 : decode code 524 = .ok (.aload_n 2, 1) := dk_0 a_Lw_law_524 (dko_44 _)
theorem d_Lw_law_525 : decode code 525 = .ok (.aload_n 0, 1) := dk_0 a_Lw_law_525 (dko_42 _)
theorem d_Lw_law_526 : decode code 526 = .ok (.iload_n 3, 1) := dk_0 a_Lw_law_526 (dko_29 _)
theorem d_Lw_law_527 : decode code 527 = .ok (.iconst 1, 1) := dk_0 a_Lw_law_527 (dko_4 _)
theorem d_Lw_law_528 : decode code 528 = .ok (.iadd, 1) := dk_0 a_Lw_law_528 (dko_96 _)
theorem d_Lw_law_529 : decode code 529 = .ok (.iaload, 1) := dk_0 a_Lw_law_529 (dko_46 _)
theorem d_Lw_law_530 : decode code 530 = .ok (.aload_n 0, 1) := dk_0 a_Lw_law_530 (dko_42 _)
theorem d_Lw_law_531 : decode code 531 = .ok (.iload_n 3, 1) := dk_0 a_Lw_law_531 (dko_29 _)
theorem d_Lw_law_532 : decode code 532 = .ok (.iconst 2, 1) := dk_0 a_Lw_law_532 (dko_5 _)
theorem d_Lw_law_533 : decode code 533 = .ok (.iadd, 1) := dk_0 a_Lw_law_533 (dko_96 _)
theorem d_Lw_law_534 : decode code 534 = .ok (.iaload, 1) := dk_0 a_Lw_law_534 (dko_46 _)
theorem d_Lw_law_535 : decode code 535 = .ok (.aload_n 0, 1) := dk_0 a_Lw_law_535 (dko_42 _)
theorem d_Lw_law_536 : decode code 536 = .ok (.iload_n 3, 1) := dk_0 a_Lw_law_536 (dko_29 _)
theorem d_Lw_law_537 : decode code 537 = .ok (.iconst 3, 1) := dk_0 a_Lw_law_537 (dko_6 _)
theorem d_Lw_law_538 : decode code 538 = .ok (.iadd, 1) := dk_0 a_Lw_law_538 (dko_96 _)
theorem d_Lw_law_539 : decode code 539 = .ok (.iaload, 1) := dk_0 a_Lw_law_539 (dko_46 _)
theorem d_Lw_law_540 : decode code 540 = .ok (.aload_n 0, 1) := dk_0 a_Lw_law_540 (dko_42 _)
theorem d_Lw_law_541 : decode code 541 = .ok (.iload_n 3, 1) := dk_0 a_Lw_law_541 (dko_29 _)
theorem d_Lw_law_542 : decode code 542 = .ok (.iconst 4, 1) := dk_0 a_Lw_law_542 (dko_7 _)
theorem d_Lw_law_543 : decode code 543 = .ok (.iadd, 1) := dk_0 a_Lw_law_543 (dko_96 _)
theorem d_Lw_law_544 : decode code 544 = .ok (.iaload, 1) := dk_0 a_Lw_law_544 (dko_46 _)
theorem d_Lw_law_545 : decode code 545 = .ok (.i2l, 1) := dk_0 a_Lw_law_545 (dko_133 _)
theorem d_Lw_law_546 : decode code 546 = .ok (.bipush 32, 2) := dk_S1 a_Lw_law_546 (dko_16 _) (by decide +kernel)
theorem d_Lw_law_548 : decode code 548 = .ok (.lshl, 1) := dk_0 a_Lw_law_548 (dko_121 _)
theorem d_Lw_law_549 : decode code 549 = .ok (.aload_n 0, 1) := dk_0 a_Lw_law_549 (dko_42 _)
theorem d_Lw_law_550 : decode code 550 = .ok (.iload_n 3, 1) := dk_0 a_Lw_law_550 (dko_29 _)
theorem d_Lw_law_551 : decode code 551 = .ok (.iconst 5, 1) := dk_0 a_Lw_law_551 (dko_8 _)
theorem d_Lw_law_552 : decode code 552 = .ok (.iadd, 1) := dk_0 a_Lw_law_552 (dko_96 _)
theorem d_Lw_law_553 : decode code 553 = .ok (.iaload, 1) := dk_0 a_Lw_law_553 (dko_46 _)
theorem d_Lw_law_554 : decode code 554 = .ok (.i2l, 1) := dk_0 a_Lw_law_554 (dko_133 _)
theorem d_Lw_law_555 : decode code 555 = .ok (.ldc2_w 23, 3) := dk_U2 a_Lw_law_555 (dko_20 _) rfl
theorem d_Lw_law_558 : decode code 558 = .ok (.land, 1) := dk_0 a_Lw_law_558 (dko_127 _)
theorem d_Lw_law_559 : decode code 559 = .ok (.lor, 1) := dk_0 a_Lw_law_559 (dko_129 _)
theorem d_Lw_law_560 : decode code 560 = .ok (.invokevirtual 52, 3) := dk_U2 a_Lw_law_560 (dko_182 _) rfl
theorem d_Lw_law_563 : decode code 563 = .ok (.if_icmp .eq 645, 3) := dk_S2 a_Lw_law_563 (dko_159 _) (by decide +kernel)
theorem d_Lw_law_566 : decode code 566 = .ok (.iconst 0, 1) := dk_0 a_Lw_law_566 (dko_3 _)
theorem d_Lw_law_567 : decode code 567 = .ok (.ireturn, 1) := dk_0 a_Lw_law_567 (dko_172 _)
theorem d_Lw_law_568 : decode code 568 = .ok (.aload_n 1, 1) := dk_0 a_Lw_law_568 (dko_43 _)
theorem d_Lw_law_569 : decode code 569 = .ok (.aload_n 0, 1) := dk_0 a_Lw_law_569 (dko_42 _)
theorem d_Lw_law_570 : decode code 570 = .ok (.iload_n 3, 1) := dk_0 a_Lw_law_570 (dko_29 _)
theorem d_Lw_law_571 : decode code 571 = .ok (.iconst 1, 1) := dk_0 a_Lw_law_571 (dko_4 _)
theorem d_Lw_law_572 : decode code 572 = .ok (.iadd, 1) := dk_0 a_Lw_law_572 (dko_96 _)
theorem d_Lw_law_573 : decode code 573 = .ok (.iaload, 1) := dk_0 a_Lw_law_573 (dko_46 _)
theorem d_Lw_law_574 : decode code 574 = .ok (.aload_n 0, 1) := dk_0 a_Lw_law_574 (dko_42 _)
theorem d_Lw_law_575 : decode code 575 = .ok (.iload_n 3, 1) := dk_0 a_Lw_law_575 (dko_29 _)
theorem d_Lw_law_576 : decode code 576 = .ok (.iconst 2, 1) := dk_0 a_Lw_law_576 (dko_5 _)
theorem d_Lw_law_577 : decode code 577 = .ok (.iadd, 1) := dk_0 a_Lw_law_577 (dko_96 _)
theorem d_Lw_law_578 : decode code 578 = .ok (.iaload, 1) := dk_0 a_Lw_law_578 (dko_46 _)
theorem d_Lw_law_579 : decode code 579 = .ok (.i2l, 1) := dk_0 a_Lw_law_579 (dko_133 _)
theorem d_Lw_law_580 : decode code 580 = .ok (.bipush 32, 2) := dk_S1 a_Lw_law_580 (dko_16 _) (by decide +kernel)
theorem d_Lw_law_582 : decode code 582 = .ok (.lshl, 1) := dk_0 a_Lw_law_582 (dko_121 _)
theorem d_Lw_law_583 : decode code 583 = .ok (.aload_n 0, 1) := dk_0 a_Lw_law_583 (dko_42 _)
theorem d_Lw_law_584 : decode code 584 = .ok (.iload_n 3, 1) := dk_0 a_Lw_law_584 (dko_29 _)
theorem d_Lw_law_585 : decode code 585 = .ok (.iconst 3, 1) := dk_0 a_Lw_law_585 (dko_6 _)
theorem d_Lw_law_586 : decode code 586 = .ok (.iadd, 1) := dk_0 a_Lw_law_586 (dko_96 _)
theorem d_Lw_law_587 : decode code 587 = .ok (.iaload, 1) := dk_0 a_Lw_law_587 (dko_46 _)
theorem d_Lw_law_588 : decode code 588 = .ok (.i2l, 1) := dk_0 a_Lw_law_588 (dko_133 _)
theorem d_Lw_law_589 : decode code 589 = .ok (.ldc2_w 23, 3) := dk_U2 a_Lw_law_589 (dko_20 _) rfl
theorem d_Lw_law_592 : decode code 592 = .ok (.land, 1) := dk_0 a_Lw_law_592 (dko_127 _)
theorem d_Lw_law_593 : decode code 593 = .ok (.lor, 1) := dk_0 a_Lw_law_593 (dko_129 _)
theorem d_Lw_law_594 : decode code 594 = .ok (.invokevirtual 53, 3) := dk_U2 a_Lw_law_594 (dko_182 _) rfl
theorem d_Lw_law_597 : decode code 597 = .ok (.aload_n 2, 1) := dk_0 a_Lw_law_597 (dko_44 _)
theorem d_Lw_law_598 : decode code 598 = .ok (.aload_n 0, 1) := dk_0 a_Lw_law_598 (dko_42 _)
theorem d_Lw_law_599 : decode code 599 = .ok (.iload_n 3, 1) := dk_0 a_Lw_law_599 (dko_29 _)
theorem d_Lw_law_600 : decode code 600 = .ok (.iconst 1, 1) := dk_0 a_Lw_law_600 (dko_4 _)
theorem d_Lw_law_601 : decode code 601 = .ok (.iadd, 1) := dk_0 a_Lw_law_601 (dko_96 _)
theorem d_Lw_law_602 : decode code 602 = .ok (.iaload, 1) := dk_0 a_Lw_law_602 (dko_46 _)
theorem d_Lw_law_603 : decode code 603 = .ok (.aload_n 0, 1) := dk_0 a_Lw_law_603 (dko_42 _)
theorem d_Lw_law_604 : decode code 604 = .ok (.iload_n 3, 1) := dk_0 a_Lw_law_604 (dko_29 _)
theorem d_Lw_law_605 : decode code 605 = .ok (.iconst 2, 1) := dk_0 a_Lw_law_605 (dko_5 _)
theorem d_Lw_law_606 : decode code 606 = .ok (.iadd, 1) := dk_0 a_Lw_law_606 (dko_96 _)
theorem d_Lw_law_607 : decode code 607 = .ok (.iaload, 1) := dk_0 a_Lw_law_607 (dko_46 _)
theorem d_Lw_law_608 : decode code 608 = .ok (.i2l, 1) := dk_0 a_Lw_law_608 (dko_133 _)
theorem d_Lw_law_609 : decode code 609 = .ok (.bipush 32, 2) := dk_S1 a_Lw_law_609 (dko_16 _) (by decide +kernel)
theorem d_Lw_law_611 : decode code 611 = .ok (.lshl, 1) := dk_0 a_Lw_law_611 (dko_121 _)
theorem d_Lw_law_612 : decode code 612 = .ok (.aload_n 0, 1) := dk_0 a_Lw_law_612 (dko_42 _)
theorem d_Lw_law_613 : decode code 613 = .ok (.iload_n 3, 1) := dk_0 a_Lw_law_613 (dko_29 _)
theorem d_Lw_law_614 : decode code 614 = .ok (.iconst 3, 1) := dk_0 a_Lw_law_614 (dko_6 _)
theorem d_Lw_law_615 : decode code 615 = .ok (.iadd, 1) := dk_0 a_Lw_law_615 (dko_96 _)
theorem d_Lw_law_616 : decode code 616 = .ok (.iaload, 1) := dk_0 a_Lw_law_616 (dko_46 _)
theorem d_Lw_law_617 : decode code 617 = .ok (.i2l, 1) := dk_0 a_Lw_law_617 (dko_133 _)
theorem d_Lw_law_618 : decode code 618 = .ok (.ldc2_w 23, 3) := dk_U2 a_Lw_law_618 (dko_20 _) rfl
theorem d_Lw_law_621 : decode code 621 = .ok (.land, 1) := dk_0 a_Lw_law_621 (dko_127 _)
theorem d_Lw_law_622 : decode code 622 = .ok (.lor, 1) := dk_0 a_Lw_law_622 (dko_129 _)
theorem d_Lw_law_623 : decode code 623 = .ok (.invokevirtual 57, 3) := dk_U2 a_Lw_law_623 (dko_182 _) rfl
theorem d_Lw_law_626 : decode code 626 = .ok (.if_icmp .eq 582, 3) := dk_S2 a_Lw_law_626 (dko_159 _) (by decide +kernel)
theorem d_Lw_law_629 : decode code 629 = .ok (.iconst 0, 1) := dk_0 a_Lw_law_629 (dko_3 _)
theorem d_Lw_law_630 : decode code 630 = .ok (.ireturn, 1) := dk_0 a_Lw_law_630 (dko_172 _)
theorem d_Lw_law_631 : decode code 631 = .ok (.aload_n 1, 1) := dk_0 a_Lw_law_631 (dko_43 _)
theorem d_Lw_law_632 : decode code 632 = .ok (.aload_n 0, 1) := dk_0 a_Lw_law_632 (dko_42 _)
theorem d_Lw_law_633 : decode code 633 = .ok (.iload_n 3, 1) := dk_0 a_Lw_law_633 (dko_29 _)
theorem d_Lw_law_634 : decode code 634 = .ok (.iconst 1, 1) := dk_0 a_Lw_law_634 (dko_4 _)
theorem d_Lw_law_635 : decode code 635 = .ok (.iadd, 1) := dk_0 a_Lw_law_635 (dko_96 _)
theorem d_Lw_law_636 : decode code 636 = .ok (.iaload, 1) := dk_0 a_Lw_law_636 (dko_46 _)
theorem d_Lw_law_637 : decode code 637 = .ok (.aload_n 0, 1) := dk_0 a_Lw_law_637 (dko_42 _)
theorem d_Lw_law_638 : decode code 638 = .ok (.iload_n 3, 1) := dk_0 a_Lw_law_638 (dko_29 _)
theorem d_Lw_law_639 : decode code 639 = .ok (.iconst 2, 1) := dk_0 a_Lw_law_639 (dko_5 _)
theorem d_Lw_law_640 : decode code 640 = .ok (.iadd, 1) := dk_0 a_Lw_law_640 (dko_96 _)
theorem d_Lw_law_641 : decode code 641 = .ok (.iaload, 1) := dk_0 a_Lw_law_641 (dko_46 _)
theorem d_Lw_law_642 : decode code 642 = .ok (.aload_n 0, 1) := dk_0 a_Lw_law_642 (dko_42 _)
theorem d_Lw_law_643 : decode code 643 = .ok (.iload_n 3, 1) := dk_0 a_Lw_law_643 (dko_29 _)
theorem d_Lw_law_644 : decode code 644 = .ok (.iconst 3, 1) := dk_0 a_Lw_law_644 (dko_6 _)
theorem d_Lw_law_645 : decode code 645 = .ok (.iadd, 1) := dk_0 a_Lw_law_645 (dko_96 _)
theorem d_Lw_law_646 : decode code 646 = .ok (.iaload, 1) := dk_0 a_Lw_law_646 (dko_46 _)
theorem d_Lw_law_647 : decode code 647 = .ok (.aload_n 0, 1) := dk_0 a_Lw_law_647 (dko_42 _)
theorem d_Lw_law_648 : decode code 648 = .ok (.iload_n 3, 1) := dk_0 a_Lw_law_648 (dko_29 _)
theorem d_Lw_law_649 : decode code 649 = .ok (.iconst 4, 1) := dk_0 a_Lw_law_649 (dko_7 _)
theorem d_Lw_law_650 : decode code 650 = .ok (.iadd, 1) := dk_0 a_Lw_law_650 (dko_96 _)
theorem d_Lw_law_651 : decode code 651 = .ok (.iaload, 1) := dk_0 a_Lw_law_651 (dko_46 _)
theorem d_Lw_law_652 : decode code 652 = .ok (.aload_n 0, 1) := dk_0 a_Lw_law_652 (dko_42 _)
theorem d_Lw_law_653 : decode code 653 = .ok (.iload_n 3, 1) := dk_0 a_Lw_law_653 (dko_29 _)
theorem d_Lw_law_654 : decode code 654 = .ok (.iconst 5, 1) := dk_0 a_Lw_law_654 (dko_8 _)
theorem d_Lw_law_655 : decode code 655 = .ok (.iadd, 1) := dk_0 a_Lw_law_655 (dko_96 _)
theorem d_Lw_law_656 : decode code 656 = .ok (.iaload, 1) := dk_0 a_Lw_law_656 (dko_46 _)
theorem d_Lw_law_657 : decode code 657 = .ok (.invokevirtual 58, 3) := dk_U2 a_Lw_law_657 (dko_182 _) rfl
theorem d_Lw_law_660 : decode code 660 = .ok (.aload_n 2, 1) := dk_0 a_Lw_law_660 (dko_44 _)
theorem d_Lw_law_661 : decode code 661 = .ok (.aload_n 0, 1) := dk_0 a_Lw_law_661 (dko_42 _)
theorem d_Lw_law_662 : decode code 662 = .ok (.iload_n 3, 1) := dk_0 a_Lw_law_662 (dko_29 _)
theorem d_Lw_law_663 : decode code 663 = .ok (.iconst 1, 1) := dk_0 a_Lw_law_663 (dko_4 _)
theorem d_Lw_law_664 : decode code 664 = .ok (.iadd, 1) := dk_0 a_Lw_law_664 (dko_96 _)
theorem d_Lw_law_665 : decode code 665 = .ok (.iaload, 1) := dk_0 a_Lw_law_665 (dko_46 _)
theorem d_Lw_law_666 : decode code 666 = .ok (.aload_n 0, 1) := dk_0 a_Lw_law_666 (dko_42 _)
theorem d_Lw_law_667 : decode code 667 = .ok (.iload_n 3, 1) := dk_0 a_Lw_law_667 (dko_29 _)
theorem d_Lw_law_668 : decode code 668 = .ok (.iconst 2, 1) := dk_0 a_Lw_law_668 (dko_5 _)
theorem d_Lw_law_669 : decode code 669 = .ok (.iadd, 1) := dk_0 a_Lw_law_669 (dko_96 _)
theorem d_Lw_law_670 : decode code 670 = .ok (.iaload, 1) := dk_0 a_Lw_law_670 (dko_46 _)
theorem d_Lw_law_671 : decode code 671 = .ok (.aload_n 0, 1) := dk_0 a_Lw_law_671 (dko_42 _)
theorem d_Lw_law_672 : decode code 672 = .ok (.iload_n 3, 1) := dk_0 a_Lw_law_672 (dko_29 _)
theorem d_Lw_law_673 : decode code 673 = .ok (.iconst 3, 1) := dk_0 a_Lw_law_673 (dko_6 _)
theorem d_Lw_law_674 : decode code 674 = .ok (.iadd, 1) := dk_0 a_Lw_law_674 (dko_96 _)
theorem d_Lw_law_675 : decode code 675 = .ok (.iaload, 1) := dk_0 a_Lw_law_675 (dko_46 _)
theorem d_Lw_law_676 : decode code 676 = .ok (.aload_n 0, 1) := dk_0 a_Lw_law_676 (dko_42 _)
theorem d_Lw_law_677 : decode code 677 = .ok (.iload_n 3, 1) := dk_0 a_Lw_law_677 (dko_29 _)
theorem d_Lw_law_678 : decode code 678 = .ok (.iconst 4, 1) := dk_0 a_Lw_law_678 (dko_7 _)
theorem d_Lw_law_679 : decode code 679 = .ok (.iadd, 1) := dk_0 a_Lw_law_679 (dko_96 _)
theorem d_Lw_law_680 : decode code 680 = .ok (.iaload, 1) := dk_0 a_Lw_law_680 (dko_46 _)
theorem d_Lw_law_681 : decode code 681 = .ok (.aload_n 0, 1) := dk_0 a_Lw_law_681 (dko_42 _)
theorem d_Lw_law_682 : decode code 682 = .ok (.iload_n 3, 1) := dk_0 a_Lw_law_682 (dko_29 _)
theorem d_Lw_law_683 : decode code 683 = .ok (.iconst 5, 1) := dk_0 a_Lw_law_683 (dko_8 _)
theorem d_Lw_law_684 : decode code 684 = .ok (.iadd, 1) := dk_0 a_Lw_law_684 (dko_96 _)
theorem d_Lw_law_685 : decode code 685 = .ok (.iaload, 1) := dk_0 a_Lw_law_685 (dko_46 _)
theorem d_Lw_law_686 : decode code 686 = .ok (.invokevirtual 62, 3) := dk_U2 a_Lw_law_686 (dko_182 _) rfl
theorem d_Lw_law_689 : decode code 689 = .ok (.if_icmp .eq 519, 3) := dk_S2 a_Lw_law_689 (dko_159 _) (by decide +kernel)
theorem d_Lw_law_692 : decode code 692 = .ok (.iconst 0, 1) := dk_0 a_Lw_law_692 (dko_3 _)
theorem d_Lw_law_693 : decode code 693 = .ok (.ireturn, 1) := dk_0 a_Lw_law_693 (dko_172 _)
theorem d_Lw_law_694 : decode code 694 = .ok (.aload_n 1, 1) := dk_0 a_Lw_law_694 (dko_43 _)
theorem d_Lw_law_695 : decode code 695 = .ok (.aload_n 0, 1) := dk_0 a_Lw_law_695 (dko_42 _)
theorem d_Lw_law_696 : decode code 696 = .ok (.iload_n 3, 1) := dk_0 a_Lw_law_696 (dko_29 _)
theorem d_Lw_law_697 : decode code 697 = .ok (.iconst 1, 1) := dk_0 a_Lw_law_697 (dko_4 _)
theorem d_Lw_law_698 : decode code 698 = .ok (.iadd, 1) := dk_0 a_Lw_law_698 (dko_96 _)
theorem d_Lw_law_699 : decode code 699 = .ok (.iaload, 1) := dk_0 a_Lw_law_699 (dko_46 _)
theorem d_Lw_law_700 : decode code 700 = .ok (.invokevirtual 63, 3) := dk_U2 a_Lw_law_700 (dko_182 _) rfl
theorem d_Lw_law_703 : decode code 703 = .ok (.aload_n 2, 1) := dk_0 a_Lw_law_703 (dko_44 _)
theorem d_Lw_law_704 : decode code 704 = .ok (.aload_n 0, 1) := dk_0 a_Lw_law_704 (dko_42 _)
theorem d_Lw_law_705 : decode code 705 = .ok (.iload_n 3, 1) := dk_0 a_Lw_law_705 (dko_29 _)
theorem d_Lw_law_706 : decode code 706 = .ok (.iconst 1, 1) := dk_0 a_Lw_law_706 (dko_4 _)
theorem d_Lw_law_707 : decode code 707 = .ok (.iadd, 1) := dk_0 a_Lw_law_707 (dko_96 _)
theorem d_Lw_law_708 : decode code 708 = .ok (.iaload, 1) := dk_0 a_Lw_law_708 (dko_46 _)
theorem d_Lw_law_709 : decode code 709 = .ok (.invokevirtual 67, 3) := dk_U2 a_Lw_law_709 (dko_182 _) rfl
theorem d_Lw_law_712 : decode code 712 = .ok (.if_icmp .eq 496, 3) := dk_S2 a_Lw_law_712 (dko_159 _) (by decide +kernel)
theorem d_Lw_law_715 : decode code 715 = .ok (.iconst 0, 1) := dk_0 a_Lw_law_715 (dko_3 _)
theorem d_Lw_law_716 : decode code 716 = .ok (.ireturn, 1) := dk_0 a_Lw_law_716 (dko_172 _)
theorem d_Lw_law_717 : decode code 717 = .ok (.aload_n 1, 1) := dk_0 a_Lw_law_717 (dko_43 _)
theorem d_Lw_law_718 : decode code 718 = .ok (.invokevirtual 68, 3) := dk_U2 a_Lw_law_718 (dko_182 _) rfl
theorem d_Lw_law_721 : decode code 721 = .ok (.aload_n 2, 1) := dk_0 a_Lw_law_721 (dko_44 _)
theorem d_Lw_law_722 : decode code 722 = .ok (.invokevirtual 72, 3) := dk_U2 a_Lw_law_722 (dko_182 _) rfl
theorem d_Lw_law_725 : decode code 725 = .ok (.if_icmp .eq 483, 3) := dk_S2 a_Lw_law_725 (dko_159 _) (by decide +kernel)
theorem d_Lw_law_728 : decode code 728 = .ok (.iconst 0, 1) := dk_0 a_Lw_law_728 (dko_3 _)
theorem d_Lw_law_729 : decode code 729 = .ok (.ireturn, 1) := dk_0 a_Lw_law_729 (dko_172 _)
theorem d_Lw_law_730 : decode code 730 = .ok (.aload_n 1, 1) := dk_0 a_Lw_law_730 (dko_43 _)
theorem d_Lw_law_731 : decode code 731 = .ok (.aload_n 0, 1) := dk_0 a_Lw_law_731 (dko_42 _)
theorem d_Lw_law_732 : decode code 732 = .ok (.iload_n 3, 1) := dk_0 a_Lw_law_732 (dko_29 _)
theorem d_Lw_law_733 : decode code 733 = .ok (.iconst 1, 1) := dk_0 a_Lw_law_733 (dko_4 _)
theorem d_Lw_law_734 : decode code 734 = .ok (.iadd, 1) := dk_0 a_Lw_law_734 (dko_96 _)
theorem d_Lw_law_735 : decode code 735 = .ok (.iaload, 1) := dk_0 a_Lw_law_735 (dko_46 _)
theorem d_Lw_law_736 : decode code 736 = .ok (.invokevirtual 73, 3) := dk_U2 a_Lw_law_736 (dko_182 _) rfl
theorem d_Lw_law_739 : decode code 739 = .ok (.aload_n 2, 1) := dk_0 a_Lw_law_739 (dko_44 _)
theorem d_Lw_law_740 : decode code 740 = .ok (.aload_n 0, 1) := dk_0 a_Lw_law_740 (dko_42 _)
theorem d_Lw_law_741 : decode code 741 = .ok (.iload_n 3, 1) := dk_0 a_Lw_law_741 (dko_29 _)
theorem d_Lw_law_742 : decode code 742 = .ok (.iconst 1, 1) := dk_0 a_Lw_law_742 (dko_4 _)
theorem d_Lw_law_743 : decode code 743 = .ok (.iadd, 1) := dk_0 a_Lw_law_743 (dko_96 _)
theorem d_Lw_law_744 : decode code 744 = .ok (.iaload, 1) := dk_0 a_Lw_law_744 (dko_46 _)
theorem d_Lw_law_745 : decode code 745 = .ok (.invokevirtual 76, 3) := dk_U2 a_Lw_law_745 (dko_182 _) rfl
theorem d_Lw_law_748 : decode code 748 = .ok (.if_icmp .eq 460, 3) := dk_S2 a_Lw_law_748 (dko_159 _) (by decide +kernel)
theorem d_Lw_law_751 : decode code 751 = .ok (.iconst 0, 1) := dk_0 a_Lw_law_751 (dko_3 _)
theorem d_Lw_law_752 : decode code 752 = .ok (.ireturn, 1) := dk_0 a_Lw_law_752 (dko_172 _)
theorem d_Lw_law_753 : decode code 753 = .ok (.aload_n 1, 1) := dk_0 a_Lw_law_753 (dko_43 _)
theorem d_Lw_law_754 : decode code 754 = .ok (.aload_n 0, 1) := dk_0 a_Lw_law_754 (dko_42 _)
theorem d_Lw_law_755 : decode code 755 = .ok (.iload_n 3, 1) := dk_0 a_Lw_law_755 (dko_29 _)
theorem d_Lw_law_756 : decode code 756 = .ok (.iconst 1, 1) := dk_0 a_Lw_law_756 (dko_4 _)
theorem d_Lw_law_757 : decode code 757 = .ok (.iadd, 1) := dk_0 a_Lw_law_757 (dko_96 _)
theorem d_Lw_law_758 : decode code 758 = .ok (.iaload, 1) := dk_0 a_Lw_law_758 (dko_46 _)
theorem d_Lw_law_759 : decode code 759 = .ok (.i2l, 1) := dk_0 a_Lw_law_759 (dko_133 _)
theorem d_Lw_law_760 : decode code 760 = .ok (.bipush 32, 2) := dk_S1 a_Lw_law_760 (dko_16 _) (by decide +kernel)
theorem d_Lw_law_762 : decode code 762 = .ok (.lshl, 1) := dk_0 a_Lw_law_762 (dko_121 _)
theorem d_Lw_law_763 : decode code 763 = .ok (.aload_n 0, 1) := dk_0 a_Lw_law_763 (dko_42 _)
theorem d_Lw_law_764 : decode code 764 = .ok (.iload_n 3, 1) := dk_0 a_Lw_law_764 (dko_29 _)
theorem d_Lw_law_765 : decode code 765 = .ok (.iconst 2, 1) := dk_0 a_Lw_law_765 (dko_5 _)
theorem d_Lw_law_766 : decode code 766 = .ok (.iadd, 1) := dk_0 a_Lw_law_766 (dko_96 _)
theorem d_Lw_law_767 : decode code 767 = .ok (.iaload, 1) := dk_0 a_Lw_law_767 (dko_46 _)
theorem d_Lw_law_768 : decode code 768 = .ok (.i2l, 1) := dk_0 a_Lw_law_768 (dko_133 _)
theorem d_Lw_law_769 : decode code 769 = .ok (.ldc2_w 23, 3) := dk_U2 a_Lw_law_769 (dko_20 _) rfl
theorem d_Lw_law_772 : decode code 772 = .ok (.land, 1) := dk_0 a_Lw_law_772 (dko_127 _)
theorem d_Lw_law_773 : decode code 773 = .ok (.lor, 1) := dk_0 a_Lw_law_773 (dko_129 _)
theorem d_Lw_law_774 : decode code 774 = .ok (.invokevirtual 77, 3) := dk_U2 a_Lw_law_774 (dko_182 _) rfl
theorem d_Lw_law_777 : decode code 777 = .ok (.aload_n 2, 1) := dk_0 a_Lw_law_777 (dko_44 _)
theorem d_Lw_law_778 : decode code 778 = .ok (.aload_n 0, 1) := dk_0 a_Lw_law_778 (dko_42 _)
theorem d_Lw_law_779 : decode code 779 = .ok (.iload_n 3, 1) := dk_0 a_Lw_law_779 (dko_29 _)
theorem d_Lw_law_780 : decode code 780 = .ok (.iconst 1, 1) := dk_0 a_Lw_law_780 (dko_4 _)
theorem d_Lw_law_781 : decode code 781 = .ok (.iadd, 1) := dk_0 a_Lw_law_781 (dko_96 _)
theorem d_Lw_law_782 : decode code 782 = .ok (.iaload, 1) := dk_0 a_Lw_law_782 (dko_46 _)
theorem d_Lw_law_783 : decode code 783 = .ok (.i2l, 1) := dk_0 a_Lw_law_783 (dko_133 _)
theorem d_Lw_law_784 : decode code 784 = .ok (.bipush 32, 2) := dk_S1 a_Lw_law_784 (dko_16 _) (by decide +kernel)
theorem d_Lw_law_786 : decode code 786 = .ok (.lshl, 1) := dk_0 a_Lw_law_786 (dko_121 _)
theorem d_Lw_law_787 : decode code 787 = .ok (.aload_n 0, 1) := dk_0 a_Lw_law_787 (dko_42 _)
theorem d_Lw_law_788 : decode code 788 = .ok (.iload_n 3, 1) := dk_0 a_Lw_law_788 (dko_29 _)
theorem d_Lw_law_789 : decode code 789 = .ok (.iconst 2, 1) := dk_0 a_Lw_law_789 (dko_5 _)
theorem d_Lw_law_790 : decode code 790 = .ok (.iadd, 1) := dk_0 a_Lw_law_790 (dko_96 _)
theorem d_Lw_law_791 : decode code 791 = .ok (.iaload, 1) := dk_0 a_Lw_law_791 (dko_46 _)
theorem d_Lw_law_792 : decode code 792 = .ok (.i2l, 1) := dk_0 a_Lw_law_792 (dko_133 _)
theorem d_Lw_law_793 : decode code 793 = .ok (.ldc2_w 23, 3) := dk_U2 a_Lw_law_793 (dko_20 _) rfl
theorem d_Lw_law_796 : decode code 796 = .ok (.land, 1) := dk_0 a_Lw_law_796 (dko_127 _)
theorem d_Lw_law_797 : decode code 797 = .ok (.lor, 1) := dk_0 a_Lw_law_797 (dko_129 _)
theorem d_Lw_law_798 : decode code 798 = .ok (.invokevirtual 81, 3) := dk_U2 a_Lw_law_798 (dko_182 _) rfl
theorem d_Lw_law_801 : decode code 801 = .ok (.if_icmp .eq 407, 3) := dk_S2 a_Lw_law_801 (dko_159 _) (by decide +kernel)
theorem d_Lw_law_804 : decode code 804 = .ok (.iconst 0, 1) := dk_0 a_Lw_law_804 (dko_3 _)
theorem d_Lw_law_805 : decode code 805 = .ok (.ireturn, 1) := dk_0 a_Lw_law_805 (dko_172 _)
theorem d_Lw_law_806 : decode code 806 = .ok (.aload_n 1, 1) := dk_0 a_Lw_law_806 (dko_43 _)
theorem d_Lw_law_807 : decode code 807 = .ok (.aload_n 0, 1) := dk_0 a_Lw_law_807 (dko_42 _)
theorem d_Lw_law_808 : decode code 808 = .ok (.iload_n 3, 1) := dk_0 a_Lw_law_808 (dko_29 _)
theorem d_Lw_law_809 : decode code 809 = .ok (.iconst 1, 1) := dk_0 a_Lw_law_809 (dko_4 _)
theorem d_Lw_law_810 : decode code 810 = .ok (.iadd, 1) := dk_0 a_Lw_law_810 (dko_96 _)
theorem d_Lw_law_811 : decode code 811 = .ok (.iaload, 1) := dk_0 a_Lw_law_811 (dko_46 _)
theorem d_Lw_law_812 : decode code 812 = .ok (.ifCond .eq 7, 3) := dk_S2 a_Lw_law_812 (dko_153 _) (by decide +kernel)
theorem d_Lw_law_815 : decode code 815 = .ok (.iconst 1, 1) := dk_0 a_Lw_law_815 (dko_4 _)
theorem d_Lw_law_816 : decode code 816 = .ok (.goto 4, 3) := dk_S2 a_Lw_law_816 (dko_167 _) (by decide +kernel)
theorem d_Lw_law_819 : decode code 819 = .ok (.iconst 0, 1) := dk_0 a_Lw_law_819 (dko_3 _)
theorem d_Lw_law_820 : decode code 820 = .ok (.invokevirtual 82, 3) := dk_U2 a_Lw_law_820 (dko_182 _) rfl
theorem d_Lw_law_823 : decode code 823 = .ok (.aload_n 2, 1) := dk_0 a_Lw_law_823 (dko_44 _)
theorem d_Lw_law_824 : decode code 824 = .ok (.aload_n 0, 1) := dk_0 a_Lw_law_824 (dko_42 _)
theorem d_Lw_law_825 : decode code 825 = .ok (.iload_n 3, 1) := dk_0 a_Lw_law_825 (dko_29 _)
theorem d_Lw_law_826 : decode code 826 = .ok (.iconst 1, 1) := dk_0 a_Lw_law_826 (dko_4 _)
theorem d_Lw_law_827 : decode code 827 = .ok (.iadd, 1) := dk_0 a_Lw_law_827 (dko_96 _)
theorem d_Lw_law_828 : decode code 828 = .ok (.iaload, 1) := dk_0 a_Lw_law_828 (dko_46 _)
theorem d_Lw_law_829 : decode code 829 = .ok (.ifCond .eq 7, 3) := dk_S2 a_Lw_law_829 (dko_153 _) (by decide +kernel)
theorem d_Lw_law_832 : decode code 832 = .ok (.iconst 1, 1) := dk_0 a_Lw_law_832 (dko_4 _)
theorem d_Lw_law_833 : decode code 833 = .ok (.goto 4, 3) := dk_S2 a_Lw_law_833 (dko_167 _) (by decide +kernel)
theorem d_Lw_law_836 : decode code 836 = .ok (.iconst 0, 1) := dk_0 a_Lw_law_836 (dko_3 _)
theorem d_Lw_law_837 : decode code 837 = .ok (.invokevirtual 86, 3) := dk_U2 a_Lw_law_837 (dko_182 _) rfl
theorem d_Lw_law_840 : decode code 840 = .ok (.if_icmp .eq 368, 3) := dk_S2 a_Lw_law_840 (dko_159 _) (by decide +kernel)
theorem d_Lw_law_843 : decode code 843 = .ok (.iconst 0, 1) := dk_0 a_Lw_law_843 (dko_3 _)
theorem d_Lw_law_844 : decode code 844 = .ok (.ireturn, 1) := dk_0 a_Lw_law_844 (dko_172 _)
theorem d_Lw_law_845 : decode code 845 = .ok (.aload_n 1, 1) := dk_0 a_Lw_law_845 (dko_43 _)
theorem d_Lw_law_846 : decode code 846 = .ok (.invokevirtual 87, 3) := dk_U2 a_Lw_law_846 (dko_182 _) rfl
theorem d_Lw_law_849 : decode code 849 = .ok (.aload_n 2, 1) := dk_0 a_Lw_law_849 (dko_44 _)
theorem d_Lw_law_850 : decode code 850 = .ok (.invokevirtual 90, 3) := dk_U2 a_Lw_law_850 (dko_182 _) rfl
theorem d_Lw_law_853 : decode code 853 = .ok (.if_icmp .eq 355, 3) := dk_S2 a_Lw_law_853 (dko_159 _) (by decide +kernel)
theorem d_Lw_law_856 : decode code 856 = .ok (.iconst 0, 1) := dk_0 a_Lw_law_856 (dko_3 _)
theorem d_Lw_law_857 : decode code 857 = .ok (.ireturn, 1) := dk_0 a_Lw_law_857 (dko_172 _)
theorem d_Lw_law_858 : decode code 858 = .ok (.aload_n 1, 1) := dk_0 a_Lw_law_858 (dko_43 _)
theorem d_Lw_law_859 : decode code 859 = .ok (.aload_n 0, 1) := dk_0 a_Lw_law_859 (dko_42 _)
theorem d_Lw_law_860 : decode code 860 = .ok (.iload_n 3, 1) := dk_0 a_Lw_law_860 (dko_29 _)
theorem d_Lw_law_861 : decode code 861 = .ok (.iconst 1, 1) := dk_0 a_Lw_law_861 (dko_4 _)
theorem d_Lw_law_862 : decode code 862 = .ok (.iadd, 1) := dk_0 a_Lw_law_862 (dko_96 _)
theorem d_Lw_law_863 : decode code 863 = .ok (.iaload, 1) := dk_0 a_Lw_law_863 (dko_46 _)
theorem d_Lw_law_864 : decode code 864 = .ok (.aload_n 0, 1) := dk_0 a_Lw_law_864 (dko_42 _)
theorem d_Lw_law_865 : decode code 865 = .ok (.iload_n 3, 1) := dk_0 a_Lw_law_865 (dko_29 _)
theorem d_Lw_law_866 : decode code 866 = .ok (.iconst 2, 1) := dk_0 a_Lw_law_866 (dko_5 _)
theorem d_Lw_law_867 : decode code 867 = .ok (.iadd, 1) := dk_0 a_Lw_law_867 (dko_96 _)
theorem d_Lw_law_868 : decode code 868 = .ok (.iaload, 1) := dk_0 a_Lw_law_868 (dko_46 _)
theorem d_Lw_law_869 : decode code 869 = .ok (.aload_n 0, 1) := dk_0 a_Lw_law_869 (dko_42 _)
theorem d_Lw_law_870 : decode code 870 = .ok (.iload_n 3, 1) := dk_0 a_Lw_law_870 (dko_29 _)
theorem d_Lw_law_871 : decode code 871 = .ok (.iconst 3, 1) := dk_0 a_Lw_law_871 (dko_6 _)
theorem d_Lw_law_872 : decode code 872 = .ok (.iadd, 1) := dk_0 a_Lw_law_872 (dko_96 _)
theorem d_Lw_law_873 : decode code 873 = .ok (.iaload, 1) := dk_0 a_Lw_law_873 (dko_46 _)
theorem d_Lw_law_874 : decode code 874 = .ok (.aload_n 0, 1) := dk_0 a_Lw_law_874 (dko_42 _)
theorem d_Lw_law_875 : decode code 875 = .ok (.iload_n 3, 1) := dk_0 a_Lw_law_875 (dko_29 _)
theorem d_Lw_law_876 : decode code 876 = .ok (.iconst 4, 1) := dk_0 a_Lw_law_876 (dko_7 _)
theorem d_Lw_law_877 : decode code 877 = .ok (.iadd, 1) := dk_0 a_Lw_law_877 (dko_96 _)
theorem d_Lw_law_878 : decode code 878 = .ok (.iaload, 1) := dk_0 a_Lw_law_878 (dko_46 _)
theorem d_Lw_law_879 : decode code 879 = .ok (.invokevirtual 91, 3) := dk_U2 a_Lw_law_879 (dko_182 _) rfl
theorem d_Lw_law_882 : decode code 882 = .ok (.aload_n 2, 1) := dk_0 a_Lw_law_882 (dko_44 _)
theorem d_Lw_law_883 : decode code 883 = .ok (.aload_n 0, 1) := dk_0 a_Lw_law_883 (dko_42 _)
theorem d_Lw_law_884 : decode code 884 = .ok (.iload_n 3, 1) := dk_0 a_Lw_law_884 (dko_29 _)
theorem d_Lw_law_885 : decode code 885 = .ok (.iconst 1, 1) := dk_0 a_Lw_law_885 (dko_4 _)
theorem d_Lw_law_886 : decode code 886 = .ok (.iadd, 1) := dk_0 a_Lw_law_886 (dko_96 _)
theorem d_Lw_law_887 : decode code 887 = .ok (.iaload, 1) := dk_0 a_Lw_law_887 (dko_46 _)
theorem d_Lw_law_888 : decode code 888 = .ok (.aload_n 0, 1) := dk_0 a_Lw_law_888 (dko_42 _)
theorem d_Lw_law_889 : decode code 889 = .ok (.iload_n 3, 1) := dk_0 a_Lw_law_889 (dko_29 _)
theorem d_Lw_law_890 : decode code 890 = .ok (.iconst 2, 1) := dk_0 a_Lw_law_890 (dko_5 _)
theorem d_Lw_law_891 : decode code 891 = .ok (.iadd, 1) := dk_0 a_Lw_law_891 (dko_96 _)
theorem d_Lw_law_892 : decode code 892 = .ok (.iaload, 1) := dk_0 a_Lw_law_892 (dko_46 _)
theorem d_Lw_law_893 : decode code 893 = .ok (.aload_n 0, 1) := dk_0 a_Lw_law_893 (dko_42 _)
theorem d_Lw_law_894 : decode code 894 = .ok (.iload_n 3, 1) := dk_0 a_Lw_law_894 (dko_29 _)
theorem d_Lw_law_895 : decode code 895 = .ok (.iconst 3, 1) := dk_0 a_Lw_law_895 (dko_6 _)
theorem d_Lw_law_896 : decode code 896 = .ok (.iadd, 1) := dk_0 a_Lw_law_896 (dko_96 _)
theorem d_Lw_law_897 : decode code 897 = .ok (.iaload, 1) := dk_0 a_Lw_law_897 (dko_46 _)
theorem d_Lw_law_898 : decode code 898 = .ok (.aload_n 0, 1) := dk_0 a_Lw_law_898 (dko_42 _)
theorem d_Lw_law_899 : decode code 899 = .ok (.iload_n 3, 1) := dk_0 a_Lw_law_899 (dko_29 _)
theorem d_Lw_law_900 : decode code 900 = .ok (.iconst 4, 1) := dk_0 a_Lw_law_900 (dko_7 _)
theorem d_Lw_law_901 : decode code 901 = .ok (.iadd, 1) := dk_0 a_Lw_law_901 (dko_96 _)
theorem d_Lw_law_902 : decode code 902 = .ok (.iaload, 1) := dk_0 a_Lw_law_902 (dko_46 _)
theorem d_Lw_law_903 : decode code 903 = .ok (.invokevirtual 95, 3) := dk_U2 a_Lw_law_903 (dko_182 _) rfl
theorem d_Lw_law_906 : decode code 906 = .ok (.if_icmp .eq 302, 3) := dk_S2 a_Lw_law_906 (dko_159 _) (by decide +kernel)
theorem d_Lw_law_909 : decode code 909 = .ok (.iconst 0, 1) := dk_0 a_Lw_law_909 (dko_3 _)
theorem d_Lw_law_910 : decode code 910 = .ok (.ireturn, 1) := dk_0 a_Lw_law_910 (dko_172 _)
theorem d_Lw_law_911 : decode code 911 = .ok (.aload_n 1, 1) := dk_0 a_Lw_law_911 (dko_43 _)
theorem d_Lw_law_912 : decode code 912 = .ok (.aload_n 0, 1) := dk_0 a_Lw_law_912 (dko_42 _)
theorem d_Lw_law_913 : decode code 913 = .ok (.iload_n 3, 1) := dk_0 a_Lw_law_913 (dko_29 _)
theorem d_Lw_law_914 : decode code 914 = .ok (.iconst 1, 1) := dk_0 a_Lw_law_914 (dko_4 _)
theorem d_Lw_law_915 : decode code 915 = .ok (.iadd, 1) := dk_0 a_Lw_law_915 (dko_96 _)
theorem d_Lw_law_916 : decode code 916 = .ok (.iaload, 1) := dk_0 a_Lw_law_916 (dko_46 _)
theorem d_Lw_law_917 : decode code 917 = .ok (.invokevirtual 96, 3) := dk_U2 a_Lw_law_917 (dko_182 _) rfl
theorem d_Lw_law_920 : decode code 920 = .ok (.aload_n 2, 1) := dk_0 a_Lw_law_920 (dko_44 _)
theorem d_Lw_law_921 : decode code 921 = .ok (.aload_n 0, 1) := dk_0 a_Lw_law_921 (dko_42 _)
theorem d_Lw_law_922 : decode code 922 = .ok (.iload_n 3, 1) := dk_0 a_Lw_law_922 (dko_29 _)
theorem d_Lw_law_923 : decode code 923 = .ok (.iconst 1, 1) := dk_0 a_Lw_law_923 (dko_4 _)
theorem d_Lw_law_924 : decode code 924 = .ok (.iadd, 1) := dk_0 a_Lw_law_924 (dko_96 _)
theorem d_Lw_law_925 : decode code 925 = .ok (.iaload, 1) := dk_0 a_Lw_law_925 (dko_46 _)
theorem d_Lw_law_926 : decode code 926 = .ok (.invokevirtual 100, 3) := dk_U2 a_Lw_law_926 (dko_182 _) rfl
theorem d_Lw_law_929 : decode code 929 = .ok (.if_icmp .eq 279, 3) := dk_S2 a_Lw_law_929 (dko_159 _) (by decide +kernel)
theorem d_Lw_law_932 : decode code 932 = .ok (.iconst 0, 1) := dk_0 a_Lw_law_932 (dko_3 _)
theorem d_Lw_law_933 : decode code 933 = .ok (.ireturn, 1) := dk_0 a_Lw_law_933 (dko_172 _)
theorem d_Lw_law_934 : decode code 934 = .ok (.aload_n 1, 1) := dk_0 a_Lw_law_934 (dko_43 _)
theorem d_Lw_law_935 : decode code 935 = .ok (.aload_n 0, 1) := dk_0 a_Lw_law_935 (dko_42 _)
theorem d_Lw_law_936 : decode code 936 = .ok (.iload_n 3, 1) := dk_0 a_Lw_law_936 (dko_29 _)
theorem d_Lw_law_937 : decode code 937 = .ok (.iconst 1, 1) := dk_0 a_Lw_law_937 (dko_4 _)
theorem d_Lw_law_938 : decode code 938 = .ok (.iadd, 1) := dk_0 a_Lw_law_938 (dko_96 _)
theorem d_Lw_law_939 : decode code 939 = .ok (.iaload, 1) := dk_0 a_Lw_law_939 (dko_46 _)
theorem d_Lw_law_940 : decode code 940 = .ok (.invokevirtual 101, 3) := dk_U2 a_Lw_law_940 (dko_182 _) rfl
theorem d_Lw_law_943 : decode code 943 = .ok (.aload_n 2, 1) := dk_0 a_Lw_law_943 (dko_44 _)
theorem d_Lw_law_944 : decode code 944 = .ok (.aload_n 0, 1) := dk_0 a_Lw_law_944 (dko_42 _)
theorem d_Lw_law_945 : decode code 945 = .ok (.iload_n 3, 1) := dk_0 a_Lw_law_945 (dko_29 _)
theorem d_Lw_law_946 : decode code 946 = .ok (.iconst 1, 1) := dk_0 a_Lw_law_946 (dko_4 _)
theorem d_Lw_law_947 : decode code 947 = .ok (.iadd, 1) := dk_0 a_Lw_law_947 (dko_96 _)
theorem d_Lw_law_948 : decode code 948 = .ok (.iaload, 1) := dk_0 a_Lw_law_948 (dko_46 _)
theorem d_Lw_law_949 : decode code 949 = .ok (.invokevirtual 104, 3) := dk_U2 a_Lw_law_949 (dko_182 _) rfl
theorem d_Lw_law_952 : decode code 952 = .ok (.if_icmp .eq 256, 3) := dk_S2 a_Lw_law_952 (dko_159 _) (by decide +kernel)
theorem d_Lw_law_955 : decode code 955 = .ok (.iconst 0, 1) := dk_0 a_Lw_law_955 (dko_3 _)
theorem d_Lw_law_956 : decode code 956 = .ok (.ireturn, 1) := dk_0 a_Lw_law_956 (dko_172 _)
theorem d_Lw_law_957 : decode code 957 = .ok (.aload_n 1, 1) := dk_0 a_Lw_law_957 (dko_43 _)
theorem d_Lw_law_958 : decode code 958 = .ok (.aload_n 0, 1) := dk_0 a_Lw_law_958 (dko_42 _)
theorem d_Lw_law_959 : decode code 959 = .ok (.iload_n 3, 1) := dk_0 a_Lw_law_959 (dko_29 _)
theorem d_Lw_law_960 : decode code 960 = .ok (.iconst 1, 1) := dk_0 a_Lw_law_960 (dko_4 _)
theorem d_Lw_law_961 : decode code 961 = .ok (.iadd, 1) := dk_0 a_Lw_law_961 (dko_96 _)
theorem d_Lw_law_962 : decode code 962 = .ok (.iaload, 1) := dk_0 a_Lw_law_962 (dko_46 _)
theorem d_Lw_law_963 : decode code 963 = .ok (.aload_n 0, 1) := dk_0 a_Lw_law_963 (dko_42 _)
theorem d_Lw_law_964 : decode code 964 = .ok (.iload_n 3, 1) := dk_0 a_Lw_law_964 (dko_29 _)
theorem d_Lw_law_965 : decode code 965 = .ok (.iconst 2, 1) := dk_0 a_Lw_law_965 (dko_5 _)
theorem d_Lw_law_966 : decode code 966 = .ok (.iadd, 1) := dk_0 a_Lw_law_966 (dko_96 _)
theorem d_Lw_law_967 : decode code 967 = .ok (.iaload, 1) := dk_0 a_Lw_law_967 (dko_46 _)
theorem d_Lw_law_968 : decode code 968 = .ok (.invokevirtual 105, 3) := dk_U2 a_Lw_law_968 (dko_182 _) rfl
theorem d_Lw_law_971 : decode code 971 = .ok (.aload_n 2, 1) := dk_0 a_Lw_law_971 (dko_44 _)
theorem d_Lw_law_972 : decode code 972 = .ok (.aload_n 0, 1) := dk_0 a_Lw_law_972 (dko_42 _)
theorem d_Lw_law_973 : decode code 973 = .ok (.iload_n 3, 1) := dk_0 a_Lw_law_973 (dko_29 _)
theorem d_Lw_law_974 : decode code 974 = .ok (.iconst 1, 1) := dk_0 a_Lw_law_974 (dko_4 _)
theorem d_Lw_law_975 : decode code 975 = .ok (.iadd, 1) := dk_0 a_Lw_law_975 (dko_96 _)
theorem d_Lw_law_976 : decode code 976 = .ok (.iaload, 1) := dk_0 a_Lw_law_976 (dko_46 _)
theorem d_Lw_law_977 : decode code 977 = .ok (.aload_n 0, 1) := dk_0 a_Lw_law_977 (dko_42 _)
theorem d_Lw_law_978 : decode code 978 = .ok (.iload_n 3, 1) := dk_0 a_Lw_law_978 (dko_29 _)
theorem d_Lw_law_979 : decode code 979 = .ok (.iconst 2, 1) := dk_0 a_Lw_law_979 (dko_5 _)
theorem d_Lw_law_980 : decode code 980 = .ok (.iadd, 1) := dk_0 a_Lw_law_980 (dko_96 _)
theorem d_Lw_law_981 : decode code 981 = .ok (.iaload, 1) := dk_0 a_Lw_law_981 (dko_46 _)
theorem d_Lw_law_982 : decode code 982 = .ok (.invokevirtual 108, 3) := dk_U2 a_Lw_law_982 (dko_182 _) rfl
theorem d_Lw_law_985 : decode code 985 = .ok (.if_icmp .eq 223, 3) := dk_S2 a_Lw_law_985 (dko_159 _) (by decide +kernel)
theorem d_Lw_law_988 : decode code 988 = .ok (.iconst 0, 1) := dk_0 a_Lw_law_988 (dko_3 _)
theorem d_Lw_law_989 : decode code 989 = .ok (.ireturn, 1) := dk_0 a_Lw_law_989 (dko_172 _)
theorem d_Lw_law_990 : decode code 990 = .ok (.aload_n 1, 1) := dk_0 a_Lw_law_990 (dko_43 _)
theorem d_Lw_law_991 : decode code 991 = .ok (.invokevirtual 109, 3) := dk_U2 a_Lw_law_991 (dko_182 _) rfl
theorem d_Lw_law_994 : decode code 994 = .ok (.aload_n 2, 1) := dk_0 a_Lw_law_994 (dko_44 _)
theorem d_Lw_law_995 : decode code 995 = .ok (.invokevirtual 113, 3) := dk_U2 a_Lw_law_995 (dko_182 _) rfl
theorem d_Lw_law_998 : decode code 998 = .ok (.if_icmp .eq 210, 3) := dk_S2 a_Lw_law_998 (dko_159 _) (by decide +kernel)
theorem d_Lw_law_1001 : decode code 1001 = .ok (.iconst 0, 1) := dk_0 a_Lw_law_1001 (dko_3 _)
theorem d_Lw_law_1002 : decode code 1002 = .ok (.ireturn, 1) := dk_0 a_Lw_law_1002 (dko_172 _)
theorem d_Lw_law_1003 : decode code 1003 = .ok (.aload_n 1, 1) := dk_0 a_Lw_law_1003 (dko_43 _)
theorem d_Lw_law_1004 : decode code 1004 = .ok (.aload_n 0, 1) := dk_0 a_Lw_law_1004 (dko_42 _)
theorem d_Lw_law_1005 : decode code 1005 = .ok (.iload_n 3, 1) := dk_0 a_Lw_law_1005 (dko_29 _)
theorem d_Lw_law_1006 : decode code 1006 = .ok (.iconst 1, 1) := dk_0 a_Lw_law_1006 (dko_4 _)
theorem d_Lw_law_1007 : decode code 1007 = .ok (.iadd, 1) := dk_0 a_Lw_law_1007 (dko_96 _)
theorem d_Lw_law_1008 : decode code 1008 = .ok (.iaload, 1) := dk_0 a_Lw_law_1008 (dko_46 _)
theorem d_Lw_law_1009 : decode code 1009 = .ok (.invokevirtual 114, 3) := dk_U2 a_Lw_law_1009 (dko_182 _) rfl
theorem d_Lw_law_1012 : decode code 1012 = .ok (.aload_n 2, 1) := dk_0 a_Lw_law_1012 (dko_44 _)
theorem d_Lw_law_1013 : decode code 1013 = .ok (.aload_n 0, 1) := dk_0 a_Lw_law_1013 (dko_42 _)
theorem d_Lw_law_1014 : decode code 1014 = .ok (.iload_n 3, 1) := dk_0 a_Lw_law_1014 (dko_29 _)
theorem d_Lw_law_1015 : decode code 1015 = .ok (.iconst 1, 1) := dk_0 a_Lw_law_1015 (dko_4 _)
theorem d_Lw_law_1016 : decode code 1016 = .ok (.iadd, 1) := dk_0 a_Lw_law_1016 (dko_96 _)
theorem d_Lw_law_1017 : decode code 1017 = .ok (.iaload, 1) := dk_0 a_Lw_law_1017 (dko_46 _)
theorem d_Lw_law_1018 : decode code 1018 = .ok (.invokevirtual 118, 3) := dk_U2 a_Lw_law_1018 (dko_182 _) rfl
theorem d_Lw_law_1021 : decode code 1021 = .ok (.lcmp, 1) := dk_0 a_Lw_law_1021 (dko_148 _)
theorem d_Lw_law_1022 : decode code 1022 = .ok (.ifCond .eq 186, 3) := dk_S2 a_Lw_law_1022 (dko_153 _) (by decide +kernel)
theorem d_Lw_law_1025 : decode code 1025 = .ok (.iconst 0, 1) := dk_0 a_Lw_law_1025 (dko_3 _)
theorem d_Lw_law_1026 : decode code 1026 = .ok (.ireturn, 1) := dk_0 a_Lw_law_1026 (dko_172 _)
theorem d_Lw_law_1027 : decode code 1027 = .ok (.aload_n 1, 1) := dk_0 a_Lw_law_1027 (dko_43 _)
theorem d_Lw_law_1028 : decode code 1028 = .ok (.aload_n 0, 1) := dk_0 a_Lw_law_1028 (dko_42 _)
theorem d_Lw_law_1029 : decode code 1029 = .ok (.iload_n 3, 1) := dk_0 a_Lw_law_1029 (dko_29 _)
theorem d_Lw_law_1030 : decode code 1030 = .ok (.iconst 1, 1) := dk_0 a_Lw_law_1030 (dko_4 _)
theorem d_Lw_law_1031 : decode code 1031 = .ok (.iadd, 1) := dk_0 a_Lw_law_1031 (dko_96 _)
theorem d_Lw_law_1032 : decode code 1032 = .ok (.iaload, 1) := dk_0 a_Lw_law_1032 (dko_46 _)
theorem d_Lw_law_1033 : decode code 1033 = .ok (.invokevirtual 119, 3) := dk_U2 a_Lw_law_1033 (dko_182 _) rfl
theorem d_Lw_law_1036 : decode code 1036 = .ok (.aload_n 2, 1) := dk_0 a_Lw_law_1036 (dko_44 _)
theorem d_Lw_law_1037 : decode code 1037 = .ok (.aload_n 0, 1) := dk_0 a_Lw_law_1037 (dko_42 _)
theorem d_Lw_law_1038 : decode code 1038 = .ok (.iload_n 3, 1) := dk_0 a_Lw_law_1038 (dko_29 _)
theorem d_Lw_law_1039 : decode code 1039 = .ok (.iconst 1, 1) := dk_0 a_Lw_law_1039 (dko_4 _)
theorem d_Lw_law_1040 : decode code 1040 = .ok (.iadd, 1) := dk_0 a_Lw_law_1040 (dko_96 _)
theorem d_Lw_law_1041 : decode code 1041 = .ok (.iaload, 1) := dk_0 a_Lw_law_1041 (dko_46 _)
theorem d_Lw_law_1042 : decode code 1042 = .ok (.invokevirtual 122, 3) := dk_U2 a_Lw_law_1042 (dko_182 _) rfl
theorem d_Lw_law_1045 : decode code 1045 = .ok (.if_icmp .eq 163, 3) := dk_S2 a_Lw_law_1045 (dko_159 _) (by decide +kernel)
theorem d_Lw_law_1048 : decode code 1048 = .ok (.iconst 0, 1) := dk_0 a_Lw_law_1048 (dko_3 _)
theorem d_Lw_law_1049 : decode code 1049 = .ok (.ireturn, 1) := dk_0 a_Lw_law_1049 (dko_172 _)
theorem d_Lw_law_1050 : decode code 1050 = .ok (.aload_n 1, 1) := dk_0 a_Lw_law_1050 (dko_43 _)
theorem d_Lw_law_1051 : decode code 1051 = .ok (.aload_n 0, 1) := dk_0 a_Lw_law_1051 (dko_42 _)
theorem d_Lw_law_1052 : decode code 1052 = .ok (.iload_n 3, 1) := dk_0 a_Lw_law_1052 (dko_29 _)
theorem d_Lw_law_1053 : decode code 1053 = .ok (.iconst 1, 1) := dk_0 a_Lw_law_1053 (dko_4 _)
theorem d_Lw_law_1054 : decode code 1054 = .ok (.iadd, 1) := dk_0 a_Lw_law_1054 (dko_96 _)
theorem d_Lw_law_1055 : decode code 1055 = .ok (.iaload, 1) := dk_0 a_Lw_law_1055 (dko_46 _)
theorem d_Lw_law_1056 : decode code 1056 = .ok (.aload_n 0, 1) := dk_0 a_Lw_law_1056 (dko_42 _)
theorem d_Lw_law_1057 : decode code 1057 = .ok (.iload_n 3, 1) := dk_0 a_Lw_law_1057 (dko_29 _)
theorem d_Lw_law_1058 : decode code 1058 = .ok (.iconst 2, 1) := dk_0 a_Lw_law_1058 (dko_5 _)
theorem d_Lw_law_1059 : decode code 1059 = .ok (.iadd, 1) := dk_0 a_Lw_law_1059 (dko_96 _)
theorem d_Lw_law_1060 : decode code 1060 = .ok (.iaload, 1) := dk_0 a_Lw_law_1060 (dko_46 _)
theorem d_Lw_law_1061 : decode code 1061 = .ok (.invokevirtual 123, 3) := dk_U2 a_Lw_law_1061 (dko_182 _) rfl
theorem d_Lw_law_1064 : decode code 1064 = .ok (.aload_n 2, 1) := dk_0 a_Lw_law_1064 (dko_44 _)
theorem d_Lw_law_1065 : decode code 1065 = .ok (.aload_n 0, 1) := dk_0 a_Lw_law_1065 (dko_42 _)
theorem d_Lw_law_1066 : decode code 1066 = .ok (.iload_n 3, 1) := dk_0 a_Lw_law_1066 (dko_29 _)
theorem d_Lw_law_1067 : decode code 1067 = .ok (.iconst 1, 1) := dk_0 a_Lw_law_1067 (dko_4 _)
theorem d_Lw_law_1068 : decode code 1068 = .ok (.iadd, 1) := dk_0 a_Lw_law_1068 (dko_96 _)
theorem d_Lw_law_1069 : decode code 1069 = .ok (.iaload, 1) := dk_0 a_Lw_law_1069 (dko_46 _)
theorem d_Lw_law_1070 : decode code 1070 = .ok (.aload_n 0, 1) := dk_0 a_Lw_law_1070 (dko_42 _)
theorem d_Lw_law_1071 : decode code 1071 = .ok (.iload_n 3, 1) := dk_0 a_Lw_law_1071 (dko_29 _)
theorem d_Lw_law_1072 : decode code 1072 = .ok (.iconst 2, 1) := dk_0 a_Lw_law_1072 (dko_5 _)
theorem d_Lw_law_1073 : decode code 1073 = .ok (.iadd, 1) := dk_0 a_Lw_law_1073 (dko_96 _)
theorem d_Lw_law_1074 : decode code 1074 = .ok (.iaload, 1) := dk_0 a_Lw_law_1074 (dko_46 _)
theorem d_Lw_law_1075 : decode code 1075 = .ok (.invokevirtual 126, 3) := dk_U2 a_Lw_law_1075 (dko_182 _) rfl
theorem d_Lw_law_1078 : decode code 1078 = .ok (.if_icmp .eq 130, 3) := dk_S2 a_Lw_law_1078 (dko_159 _) (by decide +kernel)
theorem d_Lw_law_1081 : decode code 1081 = .ok (.iconst 0, 1) := dk_0 a_Lw_law_1081 (dko_3 _)
theorem d_Lw_law_1082 : decode code 1082 = .ok (.ireturn, 1) := dk_0 a_Lw_law_1082 (dko_172 _)
theorem d_Lw_law_1083 : decode code 1083 = .ok (.aload_n 1, 1) := dk_0 a_Lw_law_1083 (dko_43 _)
theorem d_Lw_law_1084 : decode code 1084 = .ok (.aload_n 0, 1) := dk_0 a_Lw_law_1084 (dko_42 _)
theorem d_Lw_law_1085 : decode code 1085 = .ok (.iload_n 3, 1) := dk_0 a_Lw_law_1085 (dko_29 _)
theorem d_Lw_law_1086 : decode code 1086 = .ok (.iconst 1, 1) := dk_0 a_Lw_law_1086 (dko_4 _)
theorem d_Lw_law_1087 : decode code 1087 = .ok (.iadd, 1) := dk_0 a_Lw_law_1087 (dko_96 _)
theorem d_Lw_law_1088 : decode code 1088 = .ok (.iaload, 1) := dk_0 a_Lw_law_1088 (dko_46 _)
theorem d_Lw_law_1089 : decode code 1089 = .ok (.aload_n 0, 1) := dk_0 a_Lw_law_1089 (dko_42 _)
theorem d_Lw_law_1090 : decode code 1090 = .ok (.iload_n 3, 1) := dk_0 a_Lw_law_1090 (dko_29 _)
theorem d_Lw_law_1091 : decode code 1091 = .ok (.iconst 2, 1) := dk_0 a_Lw_law_1091 (dko_5 _)
theorem d_Lw_law_1092 : decode code 1092 = .ok (.iadd, 1) := dk_0 a_Lw_law_1092 (dko_96 _)
theorem d_Lw_law_1093 : decode code 1093 = .ok (.iaload, 1) := dk_0 a_Lw_law_1093 (dko_46 _)
theorem d_Lw_law_1094 : decode code 1094 = .ok (.invokevirtual 127, 3) := dk_U2 a_Lw_law_1094 (dko_182 _) rfl
theorem d_Lw_law_1097 : decode code 1097 = .ok (.aload_n 2, 1) := dk_0 a_Lw_law_1097 (dko_44 _)
theorem d_Lw_law_1098 : decode code 1098 = .ok (.aload_n 0, 1) := dk_0 a_Lw_law_1098 (dko_42 _)
theorem d_Lw_law_1099 : decode code 1099 = .ok (.iload_n 3, 1) := dk_0 a_Lw_law_1099 (dko_29 _)
theorem d_Lw_law_1100 : decode code 1100 = .ok (.iconst 1, 1) := dk_0 a_Lw_law_1100 (dko_4 _)
theorem d_Lw_law_1101 : decode code 1101 = .ok (.iadd, 1) := dk_0 a_Lw_law_1101 (dko_96 _)
theorem d_Lw_law_1102 : decode code 1102 = .ok (.iaload, 1) := dk_0 a_Lw_law_1102 (dko_46 _)
theorem d_Lw_law_1103 : decode code 1103 = .ok (.aload_n 0, 1) := dk_0 a_Lw_law_1103 (dko_42 _)
theorem d_Lw_law_1104 : decode code 1104 = .ok (.iload_n 3, 1) := dk_0 a_Lw_law_1104 (dko_29 _)
theorem d_Lw_law_1105 : decode code 1105 = .ok (.iconst 2, 1) := dk_0 a_Lw_law_1105 (dko_5 _)
theorem d_Lw_law_1106 : decode code 1106 = .ok (.iadd, 1) := dk_0 a_Lw_law_1106 (dko_96 _)
theorem d_Lw_law_1107 : decode code 1107 = .ok (.iaload, 1) := dk_0 a_Lw_law_1107 (dko_46 _)
theorem d_Lw_law_1108 : decode code 1108 = .ok (.invokevirtual 130, 3) := dk_U2 a_Lw_law_1108 (dko_182 _) rfl
theorem d_Lw_law_1111 : decode code 1111 = .ok (.if_icmp .eq 97, 3) := dk_S2 a_Lw_law_1111 (dko_159 _) (by decide +kernel)
theorem d_Lw_law_1114 : decode code 1114 = .ok (.iconst 0, 1) := dk_0 a_Lw_law_1114 (dko_3 _)
theorem d_Lw_law_1115 : decode code 1115 = .ok (.ireturn, 1) := dk_0 a_Lw_law_1115 (dko_172 _)
theorem d_Lw_law_1116 : decode code 1116 = .ok (.aload_n 1, 1) := dk_0 a_Lw_law_1116 (dko_43 _)
theorem d_Lw_law_1117 : decode code 1117 = .ok (.aload_n 0, 1) := dk_0 a_Lw_law_1117 (dko_42 _)
theorem d_Lw_law_1118 : decode code 1118 = .ok (.iload_n 3, 1) := dk_0 a_Lw_law_1118 (dko_29 _)
theorem d_Lw_law_1119 : decode code 1119 = .ok (.iconst 1, 1) := dk_0 a_Lw_law_1119 (dko_4 _)
theorem d_Lw_law_1120 : decode code 1120 = .ok (.iadd, 1) := dk_0 a_Lw_law_1120 (dko_96 _)
theorem d_Lw_law_1121 : decode code 1121 = .ok (.iaload, 1) := dk_0 a_Lw_law_1121 (dko_46 _)
theorem d_Lw_law_1122 : decode code 1122 = .ok (.aload_n 0, 1) := dk_0 a_Lw_law_1122 (dko_42 _)
theorem d_Lw_law_1123 : decode code 1123 = .ok (.iload_n 3, 1) := dk_0 a_Lw_law_1123 (dko_29 _)
theorem d_Lw_law_1124 : decode code 1124 = .ok (.iconst 2, 1) := dk_0 a_Lw_law_1124 (dko_5 _)
theorem d_Lw_law_1125 : decode code 1125 = .ok (.iadd, 1) := dk_0 a_Lw_law_1125 (dko_96 _)
theorem d_Lw_law_1126 : decode code 1126 = .ok (.iaload, 1) := dk_0 a_Lw_law_1126 (dko_46 _)
theorem d_Lw_law_1127 : decode code 1127 = .ok (.invokevirtual 131, 3) := dk_U2 a_Lw_law_1127 (dko_182 _) rfl
theorem d_Lw_law_1130 : decode code 1130 = .ok (.aload_n 2, 1) := dk_0 a_Lw_law_1130 (dko_44 _)
theorem d_Lw_law_1131 : decode code 1131 = .ok (.aload_n 0, 1) := dk_0 a_Lw_law_1131 (dko_42 _)
theorem d_Lw_law_1132 : decode code 1132 = .ok (.iload_n 3, 1) := dk_0 a_Lw_law_1132 (dko_29 _)
theorem d_Lw_law_1133 : decode code 1133 = .ok (.iconst 1, 1) := dk_0 a_Lw_law_1133 (dko_4 _)
theorem d_Lw_law_1134 : decode code 1134 = .ok (.iadd, 1) := dk_0 a_Lw_law_1134 (dko_96 _)
theorem d_Lw_law_1135 : decode code 1135 = .ok (.iaload, 1) := dk_0 a_Lw_law_1135 (dko_46 _)
theorem d_Lw_law_1136 : decode code 1136 = .ok (.aload_n 0, 1) := dk_0 a_Lw_law_1136 (dko_42 _)
theorem d_Lw_law_1137 : decode code 1137 = .ok (.iload_n 3, 1) := dk_0 a_Lw_law_1137 (dko_29 _)
theorem d_Lw_law_1138 : decode code 1138 = .ok (.iconst 2, 1) := dk_0 a_Lw_law_1138 (dko_5 _)
theorem d_Lw_law_1139 : decode code 1139 = .ok (.iadd, 1) := dk_0 a_Lw_law_1139 (dko_96 _)
theorem d_Lw_law_1140 : decode code 1140 = .ok (.iaload, 1) := dk_0 a_Lw_law_1140 (dko_46 _)
theorem d_Lw_law_1141 : decode code 1141 = .ok (.invokevirtual 134, 3) := dk_U2 a_Lw_law_1141 (dko_182 _) rfl
theorem d_Lw_law_1144 : decode code 1144 = .ok (.if_icmp .eq 64, 3) := dk_S2 a_Lw_law_1144 (dko_159 _) (by decide +kernel)
theorem d_Lw_law_1147 : decode code 1147 = .ok (.iconst 0, 1) := dk_0 a_Lw_law_1147 (dko_3 _)
theorem d_Lw_law_1148 : decode code 1148 = .ok (.ireturn, 1) := dk_0 a_Lw_law_1148 (dko_172 _)
theorem d_Lw_law_1149 : decode code 1149 = .ok (.aload_n 1, 1) := dk_0 a_Lw_law_1149 (dko_43 _)
theorem d_Lw_law_1150 : decode code 1150 = .ok (.aload_n 0, 1) := dk_0 a_Lw_law_1150 (dko_42 _)
theorem d_Lw_law_1151 : decode code 1151 = .ok (.iload_n 3, 1) := dk_0 a_Lw_law_1151 (dko_29 _)
theorem d_Lw_law_1152 : decode code 1152 = .ok (.iconst 1, 1) := dk_0 a_Lw_law_1152 (dko_4 _)
theorem d_Lw_law_1153 : decode code 1153 = .ok (.iadd, 1) := dk_0 a_Lw_law_1153 (dko_96 _)
theorem d_Lw_law_1154 : decode code 1154 = .ok (.iaload, 1) := dk_0 a_Lw_law_1154 (dko_46 _)
theorem d_Lw_law_1155 : decode code 1155 = .ok (.invokevirtual 135, 3) := dk_U2 a_Lw_law_1155 (dko_182 _) rfl
theorem d_Lw_law_1158 : decode code 1158 = .ok (.aload_n 2, 1) := dk_0 a_Lw_law_1158 (dko_44 _)
theorem d_Lw_law_1159 : decode code 1159 = .ok (.aload_n 0, 1) := dk_0 a_Lw_law_1159 (dko_42 _)
theorem d_Lw_law_1160 : decode code 1160 = .ok (.iload_n 3, 1) := dk_0 a_Lw_law_1160 (dko_29 _)
theorem d_Lw_law_1161 : decode code 1161 = .ok (.iconst 1, 1) := dk_0 a_Lw_law_1161 (dko_4 _)
theorem d_Lw_law_1162 : decode code 1162 = .ok (.iadd, 1) := dk_0 a_Lw_law_1162 (dko_96 _)
theorem d_Lw_law_1163 : decode code 1163 = .ok (.iaload, 1) := dk_0 a_Lw_law_1163 (dko_46 _)
theorem d_Lw_law_1164 : decode code 1164 = .ok (.invokevirtual 138, 3) := dk_U2 a_Lw_law_1164 (dko_182 _) rfl
theorem d_Lw_law_1167 : decode code 1167 = .ok (.if_icmp .eq 41, 3) := dk_S2 a_Lw_law_1167 (dko_159 _) (by decide +kernel)
theorem d_Lw_law_1170 : decode code 1170 = .ok (.iconst 0, 1) := dk_0 a_Lw_law_1170 (dko_3 _)
theorem d_Lw_law_1171 : decode code 1171 = .ok (.ireturn, 1) := dk_0 a_Lw_law_1171 (dko_172 _)
theorem d_Lw_law_1172 : decode code 1172 = .ok (.aload_n 1, 1) := dk_0 a_Lw_law_1172 (dko_43 _)
theorem d_Lw_law_1173 : decode code 1173 = .ok (.aload_n 0, 1) := dk_0 a_Lw_law_1173 (dko_42 _)
theorem d_Lw_law_1174 : decode code 1174 = .ok (.iload_n 3, 1) := dk_0 a_Lw_law_1174 (dko_29 _)
theorem d_Lw_law_1175 : decode code 1175 = .ok (.iconst 1, 1) := dk_0 a_Lw_law_1175 (dko_4 _)
theorem d_Lw_law_1176 : decode code 1176 = .ok (.iadd, 1) := dk_0 a_Lw_law_1176 (dko_96 _)
theorem d_Lw_law_1177 : decode code 1177 = .ok (.iaload, 1) := dk_0 a_Lw_law_1177 (dko_46 _)
theorem d_Lw_law_1178 : decode code 1178 = .ok (.invokevirtual 139, 3) := dk_U2 a_Lw_law_1178 (dko_182 _) rfl
theorem d_Lw_law_1181 : decode code 1181 = .ok (.aload_n 2, 1) := dk_0 a_Lw_law_1181 (dko_44 _)
theorem d_Lw_law_1182 : decode code 1182 = .ok (.aload_n 0, 1) := dk_0 a_Lw_law_1182 (dko_42 _)
theorem d_Lw_law_1183 : decode code 1183 = .ok (.iload_n 3, 1) := dk_0 a_Lw_law_1183 (dko_29 _)
theorem d_Lw_law_1184 : decode code 1184 = .ok (.iconst 1, 1) := dk_0 a_Lw_law_1184 (dko_4 _)
theorem d_Lw_law_1185 : decode code 1185 = .ok (.iadd, 1) := dk_0 a_Lw_law_1185 (dko_96 _)
theorem d_Lw_law_1186 : decode code 1186 = .ok (.iaload, 1) := dk_0 a_Lw_law_1186 (dko_46 _)
theorem d_Lw_law_1187 : decode code 1187 = .ok (.invokevirtual 142, 3) := dk_U2 a_Lw_law_1187 (dko_182 _) rfl
theorem d_Lw_law_1190 : decode code 1190 = .ok (.if_icmp .eq 18, 3) := dk_S2 a_Lw_law_1190 (dko_159 _) (by decide +kernel)
theorem d_Lw_law_1193 : decode code 1193 = .ok (.iconst 0, 1) := dk_0 a_Lw_law_1193 (dko_3 _)
theorem d_Lw_law_1194 : decode code 1194 = .ok (.ireturn, 1) := dk_0 a_Lw_law_1194 (dko_172 _)
theorem d_Lw_law_1195 : decode code 1195 = .ok (.aload_n 1, 1) := dk_0 a_Lw_law_1195 (dko_43 _)
theorem d_Lw_law_1196 : decode code 1196 = .ok (.invokevirtual 143, 3) := dk_U2 a_Lw_law_1196 (dko_182 _) rfl
theorem d_Lw_law_1199 : decode code 1199 = .ok (.aload_n 2, 1) := dk_0 a_Lw_law_1199 (dko_44 _)
theorem d_Lw_law_1200 : decode code 1200 = .ok (.invokevirtual 146, 3) := dk_U2 a_Lw_law_1200 (dko_182 _) rfl
theorem d_Lw_law_1203 : decode code 1203 = .ok (.if_icmp .eq 5, 3) := dk_S2 a_Lw_law_1203 (dko_159 _) (by decide +kernel)
theorem d_Lw_law_1206 : decode code 1206 = .ok (.iconst 0, 1) := dk_0 a_Lw_law_1206 (dko_3 _)
theorem d_Lw_law_1207 : decode code 1207 = .ok (.ireturn, 1) := dk_0 a_Lw_law_1207 (dko_172 _)
theorem d_Lw_law_1208 : decode code 1208 = .ok (.iinc 3 6, 3) := dk_US a_Lw_law_1208 (dko_132 _) (by decide +kernel)
theorem d_Lw_law_1211 : decode code 1211 = .ok (.goto (-1193), 3) := dk_S2 a_Lw_law_1211 (dko_167 _) (by decide +kernel)
theorem d_Lw_law_1214 : decode code 1214 = .ok (.iconst 1, 1) := dk_0 a_Lw_law_1214 (dko_4 _)
theorem d_Lw_law_1215 : decode code 1215 = .ok (.ireturn, 1) := dk_0 a_Lw_law_1215 (dko_172 _)
theorem mw_733 : (.methodLink "BreweryHouseLaw" 13 y_Bh_feed : Cond) ∈ lw_gd := tb_mem (i := 733) (by decide +kernel) (by decide +kernel)
theorem mw_734 : (.instanceMethod y_Bh_feed : Cond) ∈ lw_gd := tb_mem (i := 734) (by decide +kernel) (by decide +kernel)
theorem mw_735 : (.selects "BreweryHouse" y_Bh_feed y_Bh_feed : Cond) ∈ lw_gd := tb_mem (i := 735) (by decide +kernel) (by decide +kernel)
theorem mw_736 : (.code y_Bh_feed b_Bh_feed 6 (some .int) : Cond) ∈ lw_gd := tb_mem (i := 736) (by decide +kernel) (by decide +kernel)
theorem mw_745 : (.methodLink "BreweryHouseLaw" 18 y_Bh_end : Cond) ∈ lw_gd := tb_mem (i := 745) (by decide +kernel) (by decide +kernel)
theorem mw_746 : (.instanceMethod y_Bh_end : Cond) ∈ lw_gd := tb_mem (i := 746) (by decide +kernel) (by decide +kernel)
theorem mw_747 : (.selects "BreweryHouse" y_Bh_end y_Bh_end : Cond) ∈ lw_gd := tb_mem (i := 747) (by decide +kernel) (by decide +kernel)
theorem mw_748 : (.code y_Bh_end b_Bh_end 5 (some .int) : Cond) ∈ lw_gd := tb_mem (i := 748) (by decide +kernel) (by decide +kernel)
theorem mw_1071 : (.methodLink "BreweryHouseLaw" 25 y_Bh_fill : Cond) ∈ lw_gd := tb_mem (i := 1071) (by decide +kernel) (by decide +kernel)
theorem mw_1072 : (.instanceMethod y_Bh_fill : Cond) ∈ lw_gd := tb_mem (i := 1072) (by decide +kernel) (by decide +kernel)
theorem mw_1073 : (.selects "BreweryHouse" y_Bh_fill y_Bh_fill : Cond) ∈ lw_gd := tb_mem (i := 1073) (by decide +kernel) (by decide +kernel)
theorem mw_1074 : (.code y_Bh_fill b_Bh_fill 7 (some .boolean) : Cond) ∈ lw_gd := tb_mem (i := 1074) (by decide +kernel) (by decide +kernel)
theorem mw_1137 : (.methodLink "BreweryHouseLaw" 30 y_Bh_may : Cond) ∈ lw_gd := tb_mem (i := 1137) (by decide +kernel) (by decide +kernel)
theorem mw_1138 : (.instanceMethod y_Bh_may : Cond) ∈ lw_gd := tb_mem (i := 1138) (by decide +kernel) (by decide +kernel)
theorem mw_1139 : (.selects "BreweryHouse" y_Bh_may y_Bh_may : Cond) ∈ lw_gd := tb_mem (i := 1139) (by decide +kernel) (by decide +kernel)
theorem mw_1140 : (.code y_Bh_may b_Bh_may 3 (some .boolean) : Cond) ∈ lw_gd := tb_mem (i := 1140) (by decide +kernel) (by decide +kernel)
theorem mw_1145 : (.methodLink "BreweryHouseLaw" 35 y_Bh_need : Cond) ∈ lw_gd := tb_mem (i := 1145) (by decide +kernel) (by decide +kernel)
theorem mw_1146 : (.instanceMethod y_Bh_need : Cond) ∈ lw_gd := tb_mem (i := 1146) (by decide +kernel) (by decide +kernel)
theorem mw_1147 : (.selects "BreweryHouse" y_Bh_need y_Bh_need : Cond) ∈ lw_gd := tb_mem (i := 1147) (by decide +kernel) (by decide +kernel)
theorem mw_1148 : (.code y_Bh_need b_Bh_need 4 (some .boolean) : Cond) ∈ lw_gd := tb_mem (i := 1148) (by decide +kernel) (by decide +kernel)
theorem mw_1149 : (.methodLink "BreweryHouseLaw" 40 y_Bh_lasts : Cond) ∈ lw_gd := tb_mem (i := 1149) (by decide +kernel) (by decide +kernel)
theorem mw_1150 : (.instanceMethod y_Bh_lasts : Cond) ∈ lw_gd := tb_mem (i := 1150) (by decide +kernel) (by decide +kernel)
theorem mw_1151 : (.selects "BreweryHouse" y_Bh_lasts y_Bh_lasts : Cond) ∈ lw_gd := tb_mem (i := 1151) (by decide +kernel) (by decide +kernel)
theorem mw_1152 : (.code y_Bh_lasts b_Bh_lasts 3 (some .boolean) : Cond) ∈ lw_gd := tb_mem (i := 1152) (by decide +kernel) (by decide +kernel)
theorem mw_1154 : (.methodLink "BreweryHouseLaw" 44 y_Bh_sense : Cond) ∈ lw_gd := tb_mem (i := 1154) (by decide +kernel) (by decide +kernel)
theorem mw_1155 : (.instanceMethod y_Bh_sense : Cond) ∈ lw_gd := tb_mem (i := 1155) (by decide +kernel) (by decide +kernel)
theorem mw_1156 : (.selects "BreweryHouse" y_Bh_sense y_Bh_sense : Cond) ∈ lw_gd := tb_mem (i := 1156) (by decide +kernel) (by decide +kernel)
theorem mw_1157 : (.code y_Bh_sense b_Bh_sense 4 (some .boolean) : Cond) ∈ lw_gd := tb_mem (i := 1157) (by decide +kernel) (by decide +kernel)
theorem mw_1162 : (.methodLink "BreweryHouseLaw" 48 y_Bh_watch : Cond) ∈ lw_gd := tb_mem (i := 1162) (by decide +kernel) (by decide +kernel)
theorem mw_1163 : (.instanceMethod y_Bh_watch : Cond) ∈ lw_gd := tb_mem (i := 1163) (by decide +kernel) (by decide +kernel)
theorem mw_1164 : (.selects "BreweryHouse" y_Bh_watch y_Bh_watch : Cond) ∈ lw_gd := tb_mem (i := 1164) (by decide +kernel) (by decide +kernel)
theorem mw_1165 : (.code y_Bh_watch b_Bh_watch 6 (some .boolean) : Cond) ∈ lw_gd := tb_mem (i := 1165) (by decide +kernel) (by decide +kernel)
theorem mw_1166 : (.methodLink "BreweryHouseLaw" 53 y_Bh_signal : Cond) ∈ lw_gd := tb_mem (i := 1166) (by decide +kernel) (by decide +kernel)
theorem mw_1167 : (.instanceMethod y_Bh_signal : Cond) ∈ lw_gd := tb_mem (i := 1167) (by decide +kernel) (by decide +kernel)
theorem mw_1168 : (.selects "BreweryHouse" y_Bh_signal y_Bh_signal : Cond) ∈ lw_gd := tb_mem (i := 1168) (by decide +kernel) (by decide +kernel)
theorem mw_1169 : (.code y_Bh_signal b_Bh_signal 4 (some .boolean) : Cond) ∈ lw_gd := tb_mem (i := 1169) (by decide +kernel) (by decide +kernel)
theorem mw_1170 : (.methodLink "BreweryHouseLaw" 58 y_Bh_bind : Cond) ∈ lw_gd := tb_mem (i := 1170) (by decide +kernel) (by decide +kernel)
theorem mw_1171 : (.instanceMethod y_Bh_bind : Cond) ∈ lw_gd := tb_mem (i := 1171) (by decide +kernel) (by decide +kernel)
theorem mw_1172 : (.selects "BreweryHouse" y_Bh_bind y_Bh_bind : Cond) ∈ lw_gd := tb_mem (i := 1172) (by decide +kernel) (by decide +kernel)
theorem mw_1173 : (.code y_Bh_bind b_Bh_bind 6 (some .boolean) : Cond) ∈ lw_gd := tb_mem (i := 1173) (by decide +kernel) (by decide +kernel)
theorem mw_1181 : (.methodLink "BreweryHouseLaw" 63 y_Bh_act : Cond) ∈ lw_gd := tb_mem (i := 1181) (by decide +kernel) (by decide +kernel)
theorem mw_1182 : (.instanceMethod y_Bh_act : Cond) ∈ lw_gd := tb_mem (i := 1182) (by decide +kernel) (by decide +kernel)
theorem mw_1183 : (.selects "BreweryHouse" y_Bh_act y_Bh_act : Cond) ∈ lw_gd := tb_mem (i := 1183) (by decide +kernel) (by decide +kernel)
theorem mw_1184 : (.code y_Bh_act b_Bh_act 3 (some .int) : Cond) ∈ lw_gd := tb_mem (i := 1184) (by decide +kernel) (by decide +kernel)
theorem mw_1293 : (.methodLink "BreweryHouseLaw" 68 y_Bh_start : Cond) ∈ lw_gd := tb_mem (i := 1293) (by decide +kernel) (by decide +kernel)
theorem mw_1294 : (.instanceMethod y_Bh_start : Cond) ∈ lw_gd := tb_mem (i := 1294) (by decide +kernel) (by decide +kernel)
theorem mw_1295 : (.selects "BreweryHouse" y_Bh_start y_Bh_start : Cond) ∈ lw_gd := tb_mem (i := 1295) (by decide +kernel) (by decide +kernel)
theorem mw_1296 : (.code y_Bh_start b_Bh_start 1 (some .boolean) : Cond) ∈ lw_gd := tb_mem (i := 1296) (by decide +kernel) (by decide +kernel)
theorem mw_1318 : (.methodLink "BreweryHouseLaw" 73 y_Bh_tick : Cond) ∈ lw_gd := tb_mem (i := 1318) (by decide +kernel) (by decide +kernel)
theorem mw_1319 : (.instanceMethod y_Bh_tick : Cond) ∈ lw_gd := tb_mem (i := 1319) (by decide +kernel) (by decide +kernel)
theorem mw_1320 : (.selects "BreweryHouse" y_Bh_tick y_Bh_tick : Cond) ∈ lw_gd := tb_mem (i := 1320) (by decide +kernel) (by decide +kernel)
theorem mw_1321 : (.code y_Bh_tick b_Bh_tick 3 (some .int) : Cond) ∈ lw_gd := tb_mem (i := 1321) (by decide +kernel) (by decide +kernel)
theorem mw_1468 : (.methodLink "BreweryHouseLaw" 77 y_Bh_answer : Cond) ∈ lw_gd := tb_mem (i := 1468) (by decide +kernel) (by decide +kernel)
theorem mw_1469 : (.instanceMethod y_Bh_answer : Cond) ∈ lw_gd := tb_mem (i := 1469) (by decide +kernel) (by decide +kernel)
theorem mw_1470 : (.selects "BreweryHouse" y_Bh_answer y_Bh_answer : Cond) ∈ lw_gd := tb_mem (i := 1470) (by decide +kernel) (by decide +kernel)
theorem mw_1471 : (.code y_Bh_answer b_Bh_answer 3 (some .boolean) : Cond) ∈ lw_gd := tb_mem (i := 1471) (by decide +kernel) (by decide +kernel)
theorem mw_1480 : (.methodLink "BreweryHouseLaw" 82 y_Bh_hold : Cond) ∈ lw_gd := tb_mem (i := 1480) (by decide +kernel) (by decide +kernel)
theorem mw_1481 : (.instanceMethod y_Bh_hold : Cond) ∈ lw_gd := tb_mem (i := 1481) (by decide +kernel) (by decide +kernel)
theorem mw_1482 : (.selects "BreweryHouse" y_Bh_hold y_Bh_hold : Cond) ∈ lw_gd := tb_mem (i := 1482) (by decide +kernel) (by decide +kernel)
theorem mw_1483 : (.code y_Bh_hold b_Bh_hold 2 (some .boolean) : Cond) ∈ lw_gd := tb_mem (i := 1483) (by decide +kernel) (by decide +kernel)
theorem mw_1484 : (.methodLink "BreweryHouseLaw" 87 y_Bh_stop : Cond) ∈ lw_gd := tb_mem (i := 1484) (by decide +kernel) (by decide +kernel)
theorem mw_1485 : (.instanceMethod y_Bh_stop : Cond) ∈ lw_gd := tb_mem (i := 1485) (by decide +kernel) (by decide +kernel)
theorem mw_1486 : (.selects "BreweryHouse" y_Bh_stop y_Bh_stop : Cond) ∈ lw_gd := tb_mem (i := 1486) (by decide +kernel) (by decide +kernel)
theorem mw_1487 : (.code y_Bh_stop b_Bh_stop 1 (some .boolean) : Cond) ∈ lw_gd := tb_mem (i := 1487) (by decide +kernel) (by decide +kernel)
theorem mw_1488 : (.methodLink "BreweryHouseLaw" 91 y_Bh_pass : Cond) ∈ lw_gd := tb_mem (i := 1488) (by decide +kernel) (by decide +kernel)
theorem mw_1489 : (.instanceMethod y_Bh_pass : Cond) ∈ lw_gd := tb_mem (i := 1489) (by decide +kernel) (by decide +kernel)
theorem mw_1490 : (.selects "BreweryHouse" y_Bh_pass y_Bh_pass : Cond) ∈ lw_gd := tb_mem (i := 1490) (by decide +kernel) (by decide +kernel)
theorem mw_1491 : (.code y_Bh_pass b_Bh_pass 5 (some .int) : Cond) ∈ lw_gd := tb_mem (i := 1491) (by decide +kernel) (by decide +kernel)
theorem mw_1499 : (.methodLink "BreweryHouseLaw" 96 y_Bh_reset : Cond) ∈ lw_gd := tb_mem (i := 1499) (by decide +kernel) (by decide +kernel)
theorem mw_1500 : (.instanceMethod y_Bh_reset : Cond) ∈ lw_gd := tb_mem (i := 1500) (by decide +kernel) (by decide +kernel)
theorem mw_1501 : (.selects "BreweryHouse" y_Bh_reset y_Bh_reset : Cond) ∈ lw_gd := tb_mem (i := 1501) (by decide +kernel) (by decide +kernel)
theorem mw_1502 : (.code y_Bh_reset b_Bh_reset 3 (some .boolean) : Cond) ∈ lw_gd := tb_mem (i := 1502) (by decide +kernel) (by decide +kernel)
theorem mw_1504 : (.methodLink "BreweryHouseLaw" 101 y_Bh_bars : Cond) ∈ lw_gd := tb_mem (i := 1504) (by decide +kernel) (by decide +kernel)
theorem mw_1505 : (.instanceMethod y_Bh_bars : Cond) ∈ lw_gd := tb_mem (i := 1505) (by decide +kernel) (by decide +kernel)
theorem mw_1506 : (.selects "BreweryHouse" y_Bh_bars y_Bh_bars : Cond) ∈ lw_gd := tb_mem (i := 1506) (by decide +kernel) (by decide +kernel)
theorem mw_1507 : (.code y_Bh_bars b_Bh_bars 2 (some .int) : Cond) ∈ lw_gd := tb_mem (i := 1507) (by decide +kernel) (by decide +kernel)
theorem mw_1509 : (.methodLink "BreweryHouseLaw" 105 y_Bh_row : Cond) ∈ lw_gd := tb_mem (i := 1509) (by decide +kernel) (by decide +kernel)
theorem mw_1510 : (.instanceMethod y_Bh_row : Cond) ∈ lw_gd := tb_mem (i := 1510) (by decide +kernel) (by decide +kernel)
theorem mw_1511 : (.selects "BreweryHouse" y_Bh_row y_Bh_row : Cond) ∈ lw_gd := tb_mem (i := 1511) (by decide +kernel) (by decide +kernel)
theorem mw_1512 : (.code y_Bh_row b_Bh_row 4 (some .int) : Cond) ∈ lw_gd := tb_mem (i := 1512) (by decide +kernel) (by decide +kernel)
theorem mw_1513 : (.methodLink "BreweryHouseLaw" 109 y_Bh_state : Cond) ∈ lw_gd := tb_mem (i := 1513) (by decide +kernel) (by decide +kernel)
theorem mw_1514 : (.instanceMethod y_Bh_state : Cond) ∈ lw_gd := tb_mem (i := 1514) (by decide +kernel) (by decide +kernel)
theorem mw_1515 : (.selects "BreweryHouse" y_Bh_state y_Bh_state : Cond) ∈ lw_gd := tb_mem (i := 1515) (by decide +kernel) (by decide +kernel)
theorem mw_1516 : (.code y_Bh_state b_Bh_state 1 (some .int) : Cond) ∈ lw_gd := tb_mem (i := 1516) (by decide +kernel) (by decide +kernel)
theorem mw_1517 : (.methodLink "BreweryHouseLaw" 114 y_Bh_value : Cond) ∈ lw_gd := tb_mem (i := 1517) (by decide +kernel) (by decide +kernel)
theorem mw_1518 : (.instanceMethod y_Bh_value : Cond) ∈ lw_gd := tb_mem (i := 1518) (by decide +kernel) (by decide +kernel)
theorem mw_1519 : (.selects "BreweryHouse" y_Bh_value y_Bh_value : Cond) ∈ lw_gd := tb_mem (i := 1519) (by decide +kernel) (by decide +kernel)
theorem mw_1520 : (.code y_Bh_value b_Bh_value 2 (some .long) : Cond) ∈ lw_gd := tb_mem (i := 1520) (by decide +kernel) (by decide +kernel)
theorem mw_1522 : (.methodLink "BreweryHouseLaw" 119 y_Bh_still : Cond) ∈ lw_gd := tb_mem (i := 1522) (by decide +kernel) (by decide +kernel)
theorem mw_1523 : (.instanceMethod y_Bh_still : Cond) ∈ lw_gd := tb_mem (i := 1523) (by decide +kernel) (by decide +kernel)
theorem mw_1524 : (.selects "BreweryHouse" y_Bh_still y_Bh_still : Cond) ∈ lw_gd := tb_mem (i := 1524) (by decide +kernel) (by decide +kernel)
theorem mw_1525 : (.code y_Bh_still b_Bh_still 2 (some .int) : Cond) ∈ lw_gd := tb_mem (i := 1525) (by decide +kernel) (by decide +kernel)
theorem mw_1531 : (.methodLink "BreweryHouseLaw" 123 y_Bh_alarm : Cond) ∈ lw_gd := tb_mem (i := 1531) (by decide +kernel) (by decide +kernel)
theorem mw_1532 : (.instanceMethod y_Bh_alarm : Cond) ∈ lw_gd := tb_mem (i := 1532) (by decide +kernel) (by decide +kernel)
theorem mw_1533 : (.selects "BreweryHouse" y_Bh_alarm y_Bh_alarm : Cond) ∈ lw_gd := tb_mem (i := 1533) (by decide +kernel) (by decide +kernel)
theorem mw_1534 : (.code y_Bh_alarm b_Bh_alarm 3 (some .int) : Cond) ∈ lw_gd := tb_mem (i := 1534) (by decide +kernel) (by decide +kernel)
theorem mw_1539 : (.methodLink "BreweryHouseLaw" 127 y_Bh_way : Cond) ∈ lw_gd := tb_mem (i := 1539) (by decide +kernel) (by decide +kernel)
theorem mw_1540 : (.instanceMethod y_Bh_way : Cond) ∈ lw_gd := tb_mem (i := 1540) (by decide +kernel) (by decide +kernel)
theorem mw_1541 : (.selects "BreweryHouse" y_Bh_way y_Bh_way : Cond) ∈ lw_gd := tb_mem (i := 1541) (by decide +kernel) (by decide +kernel)
theorem mw_1542 : (.code y_Bh_way b_Bh_way 3 (some .int) : Cond) ∈ lw_gd := tb_mem (i := 1542) (by decide +kernel) (by decide +kernel)
theorem mw_1547 : (.methodLink "BreweryHouseLaw" 131 y_Bh_space : Cond) ∈ lw_gd := tb_mem (i := 1547) (by decide +kernel) (by decide +kernel)
theorem mw_1548 : (.instanceMethod y_Bh_space : Cond) ∈ lw_gd := tb_mem (i := 1548) (by decide +kernel) (by decide +kernel)
theorem mw_1549 : (.selects "BreweryHouse" y_Bh_space y_Bh_space : Cond) ∈ lw_gd := tb_mem (i := 1549) (by decide +kernel) (by decide +kernel)
theorem mw_1550 : (.code y_Bh_space b_Bh_space 3 (some .int) : Cond) ∈ lw_gd := tb_mem (i := 1550) (by decide +kernel) (by decide +kernel)
theorem mw_1555 : (.methodLink "BreweryHouseLaw" 135 y_Bh_danger : Cond) ∈ lw_gd := tb_mem (i := 1555) (by decide +kernel) (by decide +kernel)
theorem mw_1556 : (.instanceMethod y_Bh_danger : Cond) ∈ lw_gd := tb_mem (i := 1556) (by decide +kernel) (by decide +kernel)
theorem mw_1557 : (.selects "BreweryHouse" y_Bh_danger y_Bh_danger : Cond) ∈ lw_gd := tb_mem (i := 1557) (by decide +kernel) (by decide +kernel)
theorem mw_1558 : (.code y_Bh_danger b_Bh_danger 3 (some .int) : Cond) ∈ lw_gd := tb_mem (i := 1558) (by decide +kernel) (by decide +kernel)
theorem mw_1559 : (.methodLink "BreweryHouseLaw" 139 y_Bh_write : Cond) ∈ lw_gd := tb_mem (i := 1559) (by decide +kernel) (by decide +kernel)
theorem mw_1560 : (.instanceMethod y_Bh_write : Cond) ∈ lw_gd := tb_mem (i := 1560) (by decide +kernel) (by decide +kernel)
theorem mw_1561 : (.selects "BreweryHouse" y_Bh_write y_Bh_write : Cond) ∈ lw_gd := tb_mem (i := 1561) (by decide +kernel) (by decide +kernel)
theorem mw_1562 : (.code y_Bh_write b_Bh_write 2 (some .int) : Cond) ∈ lw_gd := tb_mem (i := 1562) (by decide +kernel) (by decide +kernel)
theorem mw_1563 : (.methodLink "BreweryHouseLaw" 143 y_Bh_second : Cond) ∈ lw_gd := tb_mem (i := 1563) (by decide +kernel) (by decide +kernel)
theorem mw_1564 : (.instanceMethod y_Bh_second : Cond) ∈ lw_gd := tb_mem (i := 1564) (by decide +kernel) (by decide +kernel)
theorem mw_1565 : (.selects "BreweryHouse" y_Bh_second y_Bh_second : Cond) ∈ lw_gd := tb_mem (i := 1565) (by decide +kernel) (by decide +kernel)
theorem mw_1566 : (.code y_Bh_second b_Bh_second 1 (some .int) : Cond) ∈ lw_gd := tb_mem (i := 1566) (by decide +kernel) (by decide +kernel)
theorem mw_2056 : (.methodLink "BreweryHouseLaw" 17 y_Mo_feed : Cond) ∈ lw_gd := tb_mem (i := 2056) (by decide +kernel) (by decide +kernel)
theorem mw_2057 : (.instanceMethod y_Mo_feed : Cond) ∈ lw_gd := tb_mem (i := 2057) (by decide +kernel) (by decide +kernel)
theorem mw_2058 : (.selects "BreweryHouseModel" y_Mo_feed y_Mo_feed : Cond) ∈ lw_gd := tb_mem (i := 2058) (by decide +kernel) (by decide +kernel)
theorem mw_2059 : (.code y_Mo_feed b_Mo_feed 8 (some .int) : Cond) ∈ lw_gd := tb_mem (i := 2059) (by decide +kernel) (by decide +kernel)
theorem mw_2060 : (.methodLink "BreweryHouseLaw" 22 y_Mo_end : Cond) ∈ lw_gd := tb_mem (i := 2060) (by decide +kernel) (by decide +kernel)
theorem mw_2061 : (.instanceMethod y_Mo_end : Cond) ∈ lw_gd := tb_mem (i := 2061) (by decide +kernel) (by decide +kernel)
theorem mw_2062 : (.selects "BreweryHouseModel" y_Mo_end y_Mo_end : Cond) ∈ lw_gd := tb_mem (i := 2062) (by decide +kernel) (by decide +kernel)
theorem mw_2063 : (.code y_Mo_end b_Mo_end 6 (some .int) : Cond) ∈ lw_gd := tb_mem (i := 2063) (by decide +kernel) (by decide +kernel)
theorem mw_2347 : (.methodLink "BreweryHouseLaw" 142 y_Mo_write : Cond) ∈ lw_gd := tb_mem (i := 2347) (by decide +kernel) (by decide +kernel)
theorem mw_2348 : (.instanceMethod y_Mo_write : Cond) ∈ lw_gd := tb_mem (i := 2348) (by decide +kernel) (by decide +kernel)
theorem mw_2349 : (.selects "BreweryHouseModel" y_Mo_write y_Mo_write : Cond) ∈ lw_gd := tb_mem (i := 2349) (by decide +kernel) (by decide +kernel)
theorem mw_2350 : (.code y_Mo_write b_Mo_write 3 (some .int) : Cond) ∈ lw_gd := tb_mem (i := 2350) (by decide +kernel) (by decide +kernel)
theorem mw_2365 : (.methodLink "BreweryHouseLaw" 138 y_Mo_danger : Cond) ∈ lw_gd := tb_mem (i := 2365) (by decide +kernel) (by decide +kernel)
theorem mw_2366 : (.instanceMethod y_Mo_danger : Cond) ∈ lw_gd := tb_mem (i := 2366) (by decide +kernel) (by decide +kernel)
theorem mw_2367 : (.selects "BreweryHouseModel" y_Mo_danger y_Mo_danger : Cond) ∈ lw_gd := tb_mem (i := 2367) (by decide +kernel) (by decide +kernel)
theorem mw_2368 : (.code y_Mo_danger b_Mo_danger 2 (some .int) : Cond) ∈ lw_gd := tb_mem (i := 2368) (by decide +kernel) (by decide +kernel)
theorem mw_2404 : (.methodLink "BreweryHouseLaw" 130 y_Mo_way : Cond) ∈ lw_gd := tb_mem (i := 2404) (by decide +kernel) (by decide +kernel)
theorem mw_2405 : (.instanceMethod y_Mo_way : Cond) ∈ lw_gd := tb_mem (i := 2405) (by decide +kernel) (by decide +kernel)
theorem mw_2406 : (.selects "BreweryHouseModel" y_Mo_way y_Mo_way : Cond) ∈ lw_gd := tb_mem (i := 2406) (by decide +kernel) (by decide +kernel)
theorem mw_2407 : (.code y_Mo_way b_Mo_way 3 (some .int) : Cond) ∈ lw_gd := tb_mem (i := 2407) (by decide +kernel) (by decide +kernel)
theorem mw_2408 : (.methodLink "BreweryHouseLaw" 134 y_Mo_space : Cond) ∈ lw_gd := tb_mem (i := 2408) (by decide +kernel) (by decide +kernel)
theorem mw_2409 : (.instanceMethod y_Mo_space : Cond) ∈ lw_gd := tb_mem (i := 2409) (by decide +kernel) (by decide +kernel)
theorem mw_2410 : (.selects "BreweryHouseModel" y_Mo_space y_Mo_space : Cond) ∈ lw_gd := tb_mem (i := 2410) (by decide +kernel) (by decide +kernel)
theorem mw_2411 : (.code y_Mo_space b_Mo_space 3 (some .int) : Cond) ∈ lw_gd := tb_mem (i := 2411) (by decide +kernel) (by decide +kernel)
theorem mw_2440 : (.methodLink "BreweryHouseLaw" 29 y_Mo_fill : Cond) ∈ lw_gd := tb_mem (i := 2440) (by decide +kernel) (by decide +kernel)
theorem mw_2441 : (.instanceMethod y_Mo_fill : Cond) ∈ lw_gd := tb_mem (i := 2441) (by decide +kernel) (by decide +kernel)
theorem mw_2442 : (.selects "BreweryHouseModel" y_Mo_fill y_Mo_fill : Cond) ∈ lw_gd := tb_mem (i := 2442) (by decide +kernel) (by decide +kernel)
theorem mw_2443 : (.code y_Mo_fill b_Mo_fill 5 (some .boolean) : Cond) ∈ lw_gd := tb_mem (i := 2443) (by decide +kernel) (by decide +kernel)
theorem mw_2453 : (.methodLink "BreweryHouseLaw" 34 y_Mo_may : Cond) ∈ lw_gd := tb_mem (i := 2453) (by decide +kernel) (by decide +kernel)
theorem mw_2454 : (.instanceMethod y_Mo_may : Cond) ∈ lw_gd := tb_mem (i := 2454) (by decide +kernel) (by decide +kernel)
theorem mw_2455 : (.selects "BreweryHouseModel" y_Mo_may y_Mo_may : Cond) ∈ lw_gd := tb_mem (i := 2455) (by decide +kernel) (by decide +kernel)
theorem mw_2456 : (.code y_Mo_may b_Mo_may 4 (some .boolean) : Cond) ∈ lw_gd := tb_mem (i := 2456) (by decide +kernel) (by decide +kernel)
theorem mw_2457 : (.methodLink "BreweryHouseLaw" 39 y_Mo_need : Cond) ∈ lw_gd := tb_mem (i := 2457) (by decide +kernel) (by decide +kernel)
theorem mw_2458 : (.instanceMethod y_Mo_need : Cond) ∈ lw_gd := tb_mem (i := 2458) (by decide +kernel) (by decide +kernel)
theorem mw_2459 : (.selects "BreweryHouseModel" y_Mo_need y_Mo_need : Cond) ∈ lw_gd := tb_mem (i := 2459) (by decide +kernel) (by decide +kernel)
theorem mw_2460 : (.code y_Mo_need b_Mo_need 4 (some .boolean) : Cond) ∈ lw_gd := tb_mem (i := 2460) (by decide +kernel) (by decide +kernel)
theorem mw_2461 : (.methodLink "BreweryHouseLaw" 43 y_Mo_lasts : Cond) ∈ lw_gd := tb_mem (i := 2461) (by decide +kernel) (by decide +kernel)
theorem mw_2462 : (.instanceMethod y_Mo_lasts : Cond) ∈ lw_gd := tb_mem (i := 2462) (by decide +kernel) (by decide +kernel)
theorem mw_2463 : (.selects "BreweryHouseModel" y_Mo_lasts y_Mo_lasts : Cond) ∈ lw_gd := tb_mem (i := 2463) (by decide +kernel) (by decide +kernel)
theorem mw_2464 : (.code y_Mo_lasts b_Mo_lasts 3 (some .boolean) : Cond) ∈ lw_gd := tb_mem (i := 2464) (by decide +kernel) (by decide +kernel)
theorem mw_2466 : (.methodLink "BreweryHouseLaw" 62 y_Mo_bind : Cond) ∈ lw_gd := tb_mem (i := 2466) (by decide +kernel) (by decide +kernel)
theorem mw_2467 : (.instanceMethod y_Mo_bind : Cond) ∈ lw_gd := tb_mem (i := 2467) (by decide +kernel) (by decide +kernel)
theorem mw_2468 : (.selects "BreweryHouseModel" y_Mo_bind y_Mo_bind : Cond) ∈ lw_gd := tb_mem (i := 2468) (by decide +kernel) (by decide +kernel)
theorem mw_2469 : (.code y_Mo_bind b_Mo_bind 6 (some .boolean) : Cond) ∈ lw_gd := tb_mem (i := 2469) (by decide +kernel) (by decide +kernel)
theorem mw_2470 : (.methodLink "BreweryHouseLaw" 67 y_Mo_act : Cond) ∈ lw_gd := tb_mem (i := 2470) (by decide +kernel) (by decide +kernel)
theorem mw_2471 : (.instanceMethod y_Mo_act : Cond) ∈ lw_gd := tb_mem (i := 2471) (by decide +kernel) (by decide +kernel)
theorem mw_2472 : (.selects "BreweryHouseModel" y_Mo_act y_Mo_act : Cond) ∈ lw_gd := tb_mem (i := 2472) (by decide +kernel) (by decide +kernel)
theorem mw_2473 : (.code y_Mo_act b_Mo_act 3 (some .int) : Cond) ∈ lw_gd := tb_mem (i := 2473) (by decide +kernel) (by decide +kernel)
theorem mw_2525 : (.methodLink "BreweryHouseLaw" 47 y_Mo_sense : Cond) ∈ lw_gd := tb_mem (i := 2525) (by decide +kernel) (by decide +kernel)
theorem mw_2526 : (.instanceMethod y_Mo_sense : Cond) ∈ lw_gd := tb_mem (i := 2526) (by decide +kernel) (by decide +kernel)
theorem mw_2527 : (.selects "BreweryHouseModel" y_Mo_sense y_Mo_sense : Cond) ∈ lw_gd := tb_mem (i := 2527) (by decide +kernel) (by decide +kernel)
theorem mw_2528 : (.code y_Mo_sense b_Mo_sense 4 (some .boolean) : Cond) ∈ lw_gd := tb_mem (i := 2528) (by decide +kernel) (by decide +kernel)
theorem mw_2533 : (.methodLink "BreweryHouseLaw" 52 y_Mo_watch : Cond) ∈ lw_gd := tb_mem (i := 2533) (by decide +kernel) (by decide +kernel)
theorem mw_2534 : (.instanceMethod y_Mo_watch : Cond) ∈ lw_gd := tb_mem (i := 2534) (by decide +kernel) (by decide +kernel)
theorem mw_2535 : (.selects "BreweryHouseModel" y_Mo_watch y_Mo_watch : Cond) ∈ lw_gd := tb_mem (i := 2535) (by decide +kernel) (by decide +kernel)
theorem mw_2536 : (.code y_Mo_watch b_Mo_watch 6 (some .boolean) : Cond) ∈ lw_gd := tb_mem (i := 2536) (by decide +kernel) (by decide +kernel)
theorem mw_2537 : (.methodLink "BreweryHouseLaw" 57 y_Mo_signal : Cond) ∈ lw_gd := tb_mem (i := 2537) (by decide +kernel) (by decide +kernel)
theorem mw_2538 : (.instanceMethod y_Mo_signal : Cond) ∈ lw_gd := tb_mem (i := 2538) (by decide +kernel) (by decide +kernel)
theorem mw_2539 : (.selects "BreweryHouseModel" y_Mo_signal y_Mo_signal : Cond) ∈ lw_gd := tb_mem (i := 2539) (by decide +kernel) (by decide +kernel)
theorem mw_2540 : (.code y_Mo_signal b_Mo_signal 4 (some .boolean) : Cond) ∈ lw_gd := tb_mem (i := 2540) (by decide +kernel) (by decide +kernel)
theorem mw_2541 : (.methodLink "BreweryHouseLaw" 118 y_Mo_value : Cond) ∈ lw_gd := tb_mem (i := 2541) (by decide +kernel) (by decide +kernel)
theorem mw_2542 : (.instanceMethod y_Mo_value : Cond) ∈ lw_gd := tb_mem (i := 2542) (by decide +kernel) (by decide +kernel)
theorem mw_2543 : (.selects "BreweryHouseModel" y_Mo_value y_Mo_value : Cond) ∈ lw_gd := tb_mem (i := 2543) (by decide +kernel) (by decide +kernel)
theorem mw_2544 : (.code y_Mo_value b_Mo_value 2 (some .long) : Cond) ∈ lw_gd := tb_mem (i := 2544) (by decide +kernel) (by decide +kernel)
theorem mw_2545 : (.methodLink "BreweryHouseLaw" 95 y_Mo_pass : Cond) ∈ lw_gd := tb_mem (i := 2545) (by decide +kernel) (by decide +kernel)
theorem mw_2546 : (.instanceMethod y_Mo_pass : Cond) ∈ lw_gd := tb_mem (i := 2546) (by decide +kernel) (by decide +kernel)
theorem mw_2547 : (.selects "BreweryHouseModel" y_Mo_pass y_Mo_pass : Cond) ∈ lw_gd := tb_mem (i := 2547) (by decide +kernel) (by decide +kernel)
theorem mw_2548 : (.code y_Mo_pass b_Mo_pass 5 (some .int) : Cond) ∈ lw_gd := tb_mem (i := 2548) (by decide +kernel) (by decide +kernel)
theorem mw_2557 : (.methodLink "BreweryHouseLaw" 100 y_Mo_reset : Cond) ∈ lw_gd := tb_mem (i := 2557) (by decide +kernel) (by decide +kernel)
theorem mw_2558 : (.instanceMethod y_Mo_reset : Cond) ∈ lw_gd := tb_mem (i := 2558) (by decide +kernel) (by decide +kernel)
theorem mw_2559 : (.selects "BreweryHouseModel" y_Mo_reset y_Mo_reset : Cond) ∈ lw_gd := tb_mem (i := 2559) (by decide +kernel) (by decide +kernel)
theorem mw_2560 : (.code y_Mo_reset b_Mo_reset 2 (some .boolean) : Cond) ∈ lw_gd := tb_mem (i := 2560) (by decide +kernel) (by decide +kernel)
theorem mw_2565 : (.methodLink "BreweryHouseLaw" 104 y_Mo_bars : Cond) ∈ lw_gd := tb_mem (i := 2565) (by decide +kernel) (by decide +kernel)
theorem mw_2566 : (.instanceMethod y_Mo_bars : Cond) ∈ lw_gd := tb_mem (i := 2566) (by decide +kernel) (by decide +kernel)
theorem mw_2567 : (.selects "BreweryHouseModel" y_Mo_bars y_Mo_bars : Cond) ∈ lw_gd := tb_mem (i := 2567) (by decide +kernel) (by decide +kernel)
theorem mw_2568 : (.code y_Mo_bars b_Mo_bars 2 (some .int) : Cond) ∈ lw_gd := tb_mem (i := 2568) (by decide +kernel) (by decide +kernel)
theorem mw_2569 : (.methodLink "BreweryHouseLaw" 108 y_Mo_row : Cond) ∈ lw_gd := tb_mem (i := 2569) (by decide +kernel) (by decide +kernel)
theorem mw_2570 : (.instanceMethod y_Mo_row : Cond) ∈ lw_gd := tb_mem (i := 2570) (by decide +kernel) (by decide +kernel)
theorem mw_2571 : (.selects "BreweryHouseModel" y_Mo_row y_Mo_row : Cond) ∈ lw_gd := tb_mem (i := 2571) (by decide +kernel) (by decide +kernel)
theorem mw_2572 : (.code y_Mo_row b_Mo_row 3 (some .int) : Cond) ∈ lw_gd := tb_mem (i := 2572) (by decide +kernel) (by decide +kernel)
theorem mw_2574 : (.methodLink "BreweryHouseLaw" 72 y_Mo_start : Cond) ∈ lw_gd := tb_mem (i := 2574) (by decide +kernel) (by decide +kernel)
theorem mw_2575 : (.instanceMethod y_Mo_start : Cond) ∈ lw_gd := tb_mem (i := 2575) (by decide +kernel) (by decide +kernel)
theorem mw_2576 : (.selects "BreweryHouseModel" y_Mo_start y_Mo_start : Cond) ∈ lw_gd := tb_mem (i := 2576) (by decide +kernel) (by decide +kernel)
theorem mw_2577 : (.code y_Mo_start b_Mo_start 5 (some .boolean) : Cond) ∈ lw_gd := tb_mem (i := 2577) (by decide +kernel) (by decide +kernel)
theorem mw_2599 : (.methodLink "BreweryHouseLaw" 76 y_Mo_tick : Cond) ∈ lw_gd := tb_mem (i := 2599) (by decide +kernel) (by decide +kernel)
theorem mw_2600 : (.instanceMethod y_Mo_tick : Cond) ∈ lw_gd := tb_mem (i := 2600) (by decide +kernel) (by decide +kernel)
theorem mw_2601 : (.selects "BreweryHouseModel" y_Mo_tick y_Mo_tick : Cond) ∈ lw_gd := tb_mem (i := 2601) (by decide +kernel) (by decide +kernel)
theorem mw_2602 : (.code y_Mo_tick b_Mo_tick 5 (some .int) : Cond) ∈ lw_gd := tb_mem (i := 2602) (by decide +kernel) (by decide +kernel)
theorem mw_2667 : (.methodLink "BreweryHouseLaw" 81 y_Mo_answer : Cond) ∈ lw_gd := tb_mem (i := 2667) (by decide +kernel) (by decide +kernel)
theorem mw_2668 : (.instanceMethod y_Mo_answer : Cond) ∈ lw_gd := tb_mem (i := 2668) (by decide +kernel) (by decide +kernel)
theorem mw_2669 : (.selects "BreweryHouseModel" y_Mo_answer y_Mo_answer : Cond) ∈ lw_gd := tb_mem (i := 2669) (by decide +kernel) (by decide +kernel)
theorem mw_2670 : (.code y_Mo_answer b_Mo_answer 4 (some .boolean) : Cond) ∈ lw_gd := tb_mem (i := 2670) (by decide +kernel) (by decide +kernel)
theorem mw_2675 : (.methodLink "BreweryHouseLaw" 86 y_Mo_hold : Cond) ∈ lw_gd := tb_mem (i := 2675) (by decide +kernel) (by decide +kernel)
theorem mw_2676 : (.instanceMethod y_Mo_hold : Cond) ∈ lw_gd := tb_mem (i := 2676) (by decide +kernel) (by decide +kernel)
theorem mw_2677 : (.selects "BreweryHouseModel" y_Mo_hold y_Mo_hold : Cond) ∈ lw_gd := tb_mem (i := 2677) (by decide +kernel) (by decide +kernel)
theorem mw_2678 : (.code y_Mo_hold b_Mo_hold 2 (some .boolean) : Cond) ∈ lw_gd := tb_mem (i := 2678) (by decide +kernel) (by decide +kernel)
theorem mw_2679 : (.methodLink "BreweryHouseLaw" 90 y_Mo_stop : Cond) ∈ lw_gd := tb_mem (i := 2679) (by decide +kernel) (by decide +kernel)
theorem mw_2680 : (.instanceMethod y_Mo_stop : Cond) ∈ lw_gd := tb_mem (i := 2680) (by decide +kernel) (by decide +kernel)
theorem mw_2681 : (.selects "BreweryHouseModel" y_Mo_stop y_Mo_stop : Cond) ∈ lw_gd := tb_mem (i := 2681) (by decide +kernel) (by decide +kernel)
theorem mw_2682 : (.code y_Mo_stop b_Mo_stop 1 (some .boolean) : Cond) ∈ lw_gd := tb_mem (i := 2682) (by decide +kernel) (by decide +kernel)
theorem mw_2683 : (.methodLink "BreweryHouseLaw" 113 y_Mo_state : Cond) ∈ lw_gd := tb_mem (i := 2683) (by decide +kernel) (by decide +kernel)
theorem mw_2684 : (.instanceMethod y_Mo_state : Cond) ∈ lw_gd := tb_mem (i := 2684) (by decide +kernel) (by decide +kernel)
theorem mw_2685 : (.selects "BreweryHouseModel" y_Mo_state y_Mo_state : Cond) ∈ lw_gd := tb_mem (i := 2685) (by decide +kernel) (by decide +kernel)
theorem mw_2686 : (.code y_Mo_state b_Mo_state 1 (some .int) : Cond) ∈ lw_gd := tb_mem (i := 2686) (by decide +kernel) (by decide +kernel)
theorem mw_2687 : (.methodLink "BreweryHouseLaw" 122 y_Mo_still : Cond) ∈ lw_gd := tb_mem (i := 2687) (by decide +kernel) (by decide +kernel)
theorem mw_2688 : (.instanceMethod y_Mo_still : Cond) ∈ lw_gd := tb_mem (i := 2688) (by decide +kernel) (by decide +kernel)
theorem mw_2689 : (.selects "BreweryHouseModel" y_Mo_still y_Mo_still : Cond) ∈ lw_gd := tb_mem (i := 2689) (by decide +kernel) (by decide +kernel)
theorem mw_2690 : (.code y_Mo_still b_Mo_still 3 (some .int) : Cond) ∈ lw_gd := tb_mem (i := 2690) (by decide +kernel) (by decide +kernel)
theorem mw_2691 : (.methodLink "BreweryHouseLaw" 126 y_Mo_alarm : Cond) ∈ lw_gd := tb_mem (i := 2691) (by decide +kernel) (by decide +kernel)
theorem mw_2692 : (.instanceMethod y_Mo_alarm : Cond) ∈ lw_gd := tb_mem (i := 2692) (by decide +kernel) (by decide +kernel)
theorem mw_2693 : (.selects "BreweryHouseModel" y_Mo_alarm y_Mo_alarm : Cond) ∈ lw_gd := tb_mem (i := 2693) (by decide +kernel) (by decide +kernel)
theorem mw_2694 : (.code y_Mo_alarm b_Mo_alarm 3 (some .int) : Cond) ∈ lw_gd := tb_mem (i := 2694) (by decide +kernel) (by decide +kernel)
theorem mw_2695 : (.methodLink "BreweryHouseLaw" 146 y_Mo_second : Cond) ∈ lw_gd := tb_mem (i := 2695) (by decide +kernel) (by decide +kernel)
theorem mw_2696 : (.instanceMethod y_Mo_second : Cond) ∈ lw_gd := tb_mem (i := 2696) (by decide +kernel) (by decide +kernel)
theorem mw_2697 : (.selects "BreweryHouseModel" y_Mo_second y_Mo_second : Cond) ∈ lw_gd := tb_mem (i := 2697) (by decide +kernel) (by decide +kernel)
theorem mw_2698 : (.code y_Mo_second b_Mo_second 1 (some .int) : Cond) ∈ lw_gd := tb_mem (i := 2698) (by decide +kernel) (by decide +kernel)
theorem mw_2699 : (.constantLong "BreweryHouseLaw" 23 4294967295 : Cond) ∈ lw_gd := tb_mem (i := 2699) (by decide +kernel) (by decide +kernel)
